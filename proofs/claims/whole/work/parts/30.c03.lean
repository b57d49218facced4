def f_X11_draw (x0 : Int64) (x2 : Int32) (h : dH) : Option (Int32) :=
  if 0 < x2 then
  if ¬ (x2 : Int32).toInt64 = 0 then
  some (((((x0).toUInt64 >>> ((33 : Int32).toInt64.toUInt64 &&& Int64.toUInt64 63)).toInt64 - ((x0).toUInt64 >>> ((33 : Int32).toInt64.toUInt64 &&& Int64.toUInt64 63)).toInt64 / (x2 : Int32).toInt64 * (x2 : Int32).toInt64) : Int64).toInt32)
  else none
  else
  some 0
set_option maxRecDepth 20000 in
set_option maxHeartbeats 4000000 in
theorem t_X11_draw (x0 : Int64) (x2 : Int32) (h : dH) : T XC 0 yX11_draw cX11_draw 3 (some .int) (fiP h) [.long x0, .int x2] h (f_X11_draw x0 x2 h) := by
  refine T_of [.long x0, .null, .int x2] (by decide) (fun _ => rfl) (fun _ => Nat.le_of_ble_eq_true rfl) ?_
  show B XC 0 RX11 cX11_draw 3 (some .int) (fiP h) 0 [.long x0, .null, .int x2] [] h (f_X11_draw x0 x2 h)
  unfold f_X11_draw
  refine B_iload_n dX11_draw_0 rfl rfl ?_
  refine C_if_le (tgt := 15) dX11_draw_1 (by decide) (fun q2 => ?_) (fun q2 => ?_)
  · refine B_iconst dX11_draw_15 ic_0 ?_
    exact B_ireturn dX11_draw_16 rfl rfl
  · refine B_lload_n dX11_draw_4 rfl rfl ?_
    refine B_bipush dX11_draw_5 bp_33 ?_
    refine B_lushr dX11_draw_7 ?_
    refine B_iload_n dX11_draw_8 rfl rfl ?_
    refine B_i2l dX11_draw_9 ?_
    refine C_chk (fun q1 => ?_)
    refine B_lrem dX11_draw_10 q1 ?_
    refine B_l2i dX11_draw_11 ?_
    refine B_goto (tgt := 16) dX11_draw_12 (by decide) ?_
    exact B_ireturn dX11_draw_16 rfl rfl
def f_X11_years_J105 (kL32 : Int32 → Int64 → Int32 → Int32 → dH → Option (Int32 × dH)) (y1 : Int32) (y4 : Int64) (y6 : Int32) (y7 : Int32) (h : dH) : Option (Int32 × dH) :=
  kL32 y1 y4 y6 (y7 + 1) h
set_option maxRecDepth 20000 in
set_option maxHeartbeats 4000000 in
theorem b_X11_years_J105 {kL32 : Int32 → Int64 → Int32 → Int32 → dH → Option (Int32 × dH)} (hkL32 : ∀ (y1 : Int32) (y4 : Int64) (y6 : Int32) (y7 : Int32) (h : dH), B XC 6 RX11 cX11_years 8 (some .int) fiI 32 [.ref 0, .int y1, .null, .null, .long y4, .null, .int y6, .int y7] [] h (kL32 y1 y4 y6 y7 h)) (y1 : Int32) (y4 : Int64) (y6 : Int32) (y7 : Int32) (h : dH) : B XC 6 RX11 cX11_years 8 (some .int) fiI 105 [.ref 0, .int y1, .null, .null, .long y4, .null, .int y6, .int y7] [] h (f_X11_years_J105 kL32 y1 y4 y6 y7 h) := by
  unfold f_X11_years_J105
  refine B_iinc (w := (y7 + 1)) (ls' := [.ref 0, .int y1, .null, .null, .long y4, .null, .int y6, .int (y7 + 1)]) dX11_years_105 rfl (congrArg (fun z => y7 + z) ic_1) (Nat.le_of_ble_eq_true rfl) rfl rfl ?_
  refine B_goto (tgt := 32) dX11_years_108 (by decide) ?_
  exact hkL32 y1 y4 y6 (y7 + 1)  h
def f_X11_years_L32 : Nat → Int32 → Int64 → Int32 → Int32 → dH → Option (Int32 × dH)
  | 0, _, _, _, _, _ => none
  | n + 1, y1, y4, y6, y7, h =>
    if y7 < y1 then
    (f_X0_keep h).bind fun h5 =>
    (some ((f_X11_drawnBehind y4 h5))).bind fun v6 =>
    (f_X11_draw v6 10 h5).bind fun v7 =>
    if v7 < (h5.1 0 16) then
    (f_X11_letDayGoBy h5).bind fun h14 =>
    f_X11_years_J105 (f_X11_years_L32 n) y1 v6 y6 y7 h14
    else
    (some ((f_X11_drawnBehind v6 h5))).bind fun v8 =>
    (f_X11_draw v8 (h5.1 3 2) h5).bind fun v9 =>
    (f_X11_walkOrRead v9 h5).bind fun rv10 =>
    (some ((y6 + rv10.1))).bind fun v12 =>
    f_X11_years_J105 (f_X11_years_L32 n) y1 v8 v12 y7 rv10.2
    else
    some (y6, h)
set_option maxRecDepth 20000 in
set_option maxHeartbeats 4000000 in
theorem b_X11_years_L32 : ∀ (n : Nat) (y1 : Int32) (y4 : Int64) (y6 : Int32) (y7 : Int32) (h : dH), B XC 6 RX11 cX11_years 8 (some .int) fiI 32 [.ref 0, .int y1, .null, .null, .long y4, .null, .int y6, .int y7] [] h (f_X11_years_L32 n y1 y4 y6 y7 h) := by
  intro n
  induction n with
  | zero =>
    intro y1 y4 y6 y7 h
    exact B_none
  | succ n ih =>
    intro y1 y4 y6 y7 h
    rw [f_X11_years_L32]
    refine B_iload dX11_years_32 rfl ?_
    refine B_iload_n dX11_years_34 rfl rfl ?_
    refine C_icmp_ge (tgt := 111) dX11_years_35 (by decide) (fun q16 => ?_) (fun q16 => ?_)
    · refine B_iload dX11_years_111 rfl ?_
      exact B_ireturn dX11_years_113 rfl rfl
    · refine B_aload_n dX11_years_38 rfl rfl ?_
      refine B_getR dX11_years_39 fl_X11_66 shC_0 rfl (rfC_0_8 _) ?_
      refine B_aload_n dX11_years_42 rfl rfl ?_
      refine B_getR dX11_years_43 fl_X11_56 shC_0 rfl (rfC_0_6 _) ?_
      refine B_VV (st := []) dX11_years_46 cl_X11_199 (t_X0_keep h) (Nat.le_of_ble_eq_true rfl) shC_70 rfl rfl (Nat.le_of_ble_eq_true rfl) (fun h5 _ => ?_)
      refine B_lload dX11_years_49 rfl ?_
      refine B_SJ (st := []) dX11_years_51 cl_X11_217 (t_X11_drawnBehind y4 h5) (Nat.le_of_ble_eq_true rfl) rfl rfl (Nat.le_of_ble_eq_true rfl) ?_
      refine B_lj (fun v6 => ?_)
      refine B_lstore (ls' := [.ref 0, .int y1, .null, .null, .long v6, .null, .int y6, .int y7]) dX11_years_54 (Nat.le_of_ble_eq_true rfl) rfl rfl ?_
      refine B_lload dX11_years_56 rfl ?_
      refine B_bipush dX11_years_58 bp_10 ?_
      refine B_Sp (st := []) dX11_years_60 cl_X11_221 (t_X11_draw v6 10 h5) (Nat.le_of_ble_eq_true rfl) rfl rfl (Nat.le_of_ble_eq_true rfl) (fun v7 _ => ?_)
      refine B_aload_n dX11_years_63 rfl rfl ?_
      refine B_getI dX11_years_64 fl_X11_109 shC_0 rfl ?_
      refine C_icmp_ge (tgt := 77) dX11_years_67 (by decide) (fun q15 => ?_) (fun q15 => ?_)
      · refine B_lload dX11_years_77 rfl ?_
        refine B_SJ (st := []) dX11_years_79 cl_X11_217 (t_X11_drawnBehind v6 h5) (Nat.le_of_ble_eq_true rfl) rfl rfl (Nat.le_of_ble_eq_true rfl) ?_
        refine B_lj (fun v8 => ?_)
        refine B_lstore (ls' := [.ref 0, .int y1, .null, .null, .long v8, .null, .int y6, .int y7]) dX11_years_82 (Nat.le_of_ble_eq_true rfl) rfl rfl ?_
        refine B_iload dX11_years_84 rfl ?_
        refine B_aload_n dX11_years_86 rfl rfl ?_
        refine B_lload dX11_years_87 rfl ?_
        refine B_aload_n dX11_years_89 rfl rfl ?_
        refine B_getR dX11_years_90 fl_X11_19 shC_0 rfl (rfC_0_1 _) ?_
        refine B_getI dX11_years_93 fl_X11_154 shC_3 rfl ?_
        refine B_Sp (st := [.ref 0, .int y6]) dX11_years_96 cl_X11_221 (t_X11_draw v8 (h5.1 3 2) h5) (Nat.le_of_ble_eq_true rfl) rfl rfl (Nat.le_of_ble_eq_true rfl) (fun v9 _ => ?_)
        refine B_VI (st := [.int y6]) dX11_years_99 cl_X11_228 (t_X11_walkOrRead v9 h5) (Nat.le_of_ble_eq_true rfl) shC_0 rfl rfl (Nat.le_of_ble_eq_true rfl) (fun v10 h11 _ => ?_)
        refine B_iadd dX11_years_102 ?_
        refine B_lv (fun v12 => ?_)
        refine B_istore (ls' := [.ref 0, .int y1, .null, .null, .long v8, .null, .int v12, .int y7]) dX11_years_103 (Nat.le_of_ble_eq_true rfl) rfl rfl ?_
        exact b_X11_years_J105 (fun qy1 qy4 qy6 qy7 qh => ih qy1 qy4 qy6 qy7 qh) y1 v8 v12 y7 h11
      · refine B_aload_n dX11_years_70 rfl rfl ?_
        refine B_VV (st := []) dX11_years_71 cl_X11_225 (t_X11_letDayGoBy h5) (Nat.le_of_ble_eq_true rfl) shC_0 rfl rfl (Nat.le_of_ble_eq_true rfl) (fun h14 _ => ?_)
        refine B_goto (tgt := 105) dX11_years_74 (by decide) ?_
        exact b_X11_years_J105 (fun qy1 qy4 qy6 qy7 qh => ih qy1 qy4 qy6 qy7 qh) y1 v6 y6 y7 h14
def f_X11_years (x1 : Int32) (x2 : Int64) (h : dH) : Option (Int32 × dH) :=
  if (f_X1_isThere h) then
  if x1 < 1 then
  some ((-1), h)
  else
  if 60 < x1 then
  some ((-1), h)
  else
  f_X11_years_L32 dFu x1 x2 0 0 h
  else
  some ((-1), h)
set_option maxRecDepth 20000 in
set_option maxHeartbeats 4000000 in
theorem t_X11_years (x1 : Int32) (x2 : Int64) (h : dH) : T XC 6 yX11_years cX11_years 8 (some .int) fiI [.ref 0, .int x1, .long x2] h (f_X11_years x1 x2 h) := by
  refine T_of [.ref 0, .int x1, .long x2, .null, .null, .null, .null, .null] (by decide) (fun _ => rfl) (fun _ => Nat.le_of_ble_eq_true rfl) ?_
  show B XC 6 RX11 cX11_years 8 (some .int) fiI 0 [.ref 0, .int x1, .long x2, .null, .null, .null, .null, .null] [] h (f_X11_years x1 x2 h)
  unfold f_X11_years
  refine B_aload_n dX11_years_0 rfl rfl ?_
  refine B_getR dX11_years_1 fl_X11_19 shC_0 rfl (rfC_0_1 _) ?_
  refine B_VTb (st := []) dX11_years_4 cl_X11_157 (t_X1_isThere h) (Nat.le_of_ble_eq_true rfl) shC_3 rfl rfl (Nat.le_of_ble_eq_true rfl) ?_
  refine C_ifb_eq (tgt := 21) dX11_years_7 (by decide) (fun q3 => ?_) (fun q3 => ?_)
  · refine B_iconst dX11_years_21 ic_m1 ?_
    exact B_ireturn dX11_years_22 rfl rfl
  · refine B_iload_n dX11_years_10 rfl rfl ?_
    refine B_iconst dX11_years_11 ic_1 ?_
    refine C_icmp_lt (tgt := 21) dX11_years_12 (by decide) (fun q2 => ?_) (fun q2 => ?_)
    · refine B_iconst dX11_years_21 ic_m1 ?_
      exact B_ireturn dX11_years_22 rfl rfl
    · refine B_iload_n dX11_years_15 rfl rfl ?_
      refine B_bipush dX11_years_16 bp_60 ?_
      refine C_icmp_le (tgt := 23) dX11_years_18 (by decide) (fun q1 => ?_) (fun q1 => ?_)
      · refine B_lload_n dX11_years_23 rfl rfl ?_
        refine B_lstore (ls' := [.ref 0, .int x1, .long x2, .null, .long x2, .null, .null, .null]) dX11_years_24 (Nat.le_of_ble_eq_true rfl) rfl rfl ?_
        refine B_iconst dX11_years_26 ic_0 ?_
        refine B_istore (ls' := [.ref 0, .int x1, .long x2, .null, .long x2, .null, .int 0, .null]) dX11_years_27 (Nat.le_of_ble_eq_true rfl) rfl rfl ?_
        refine B_iconst dX11_years_29 ic_0 ?_
        refine B_istore (ls' := [.ref 0, .int x1, .long x2, .null, .long x2, .null, .int 0, .int 0]) dX11_years_30 (Nat.le_of_ble_eq_true rfl) rfl rfl ?_
        refine B_drop 2 (ls' := [.ref 0, .int x1, .null, .null, .long x2, .null, .int 0, .int 0]) rfl ?_
        exact b_X11_years_L32 dFu x1 x2 0 0 h
      · refine B_iconst dX11_years_21 ic_m1 ?_
        exact B_ireturn dX11_years_22 rfl rfl
def f_X11_undo (h : dH) : Option (Int32 × dH) :=
  (f_X0_takeBack h).bind fun rv1 =>
  some (rv1.1, rv1.2)
set_option maxRecDepth 20000 in
set_option maxHeartbeats 4000000 in
theorem t_X11_undo (h : dH) : T XC 3 yX11_undo cX11_undo 1 (some .int) fiI [.ref 0] h (f_X11_undo h) := by
  refine T_of [.ref 0] (by decide) (fun _ => rfl) (fun _ => Nat.le_of_ble_eq_true rfl) ?_
  show B XC 3 RX11 cX11_undo 1 (some .int) fiI 0 [.ref 0] [] h (f_X11_undo h)
  unfold f_X11_undo
  refine B_aload_n dX11_undo_0 rfl rfl ?_
  refine B_getR dX11_undo_1 fl_X11_66 shC_0 rfl (rfC_0_8 _) ?_
  refine B_aload_n dX11_undo_4 rfl rfl ?_
  refine B_getR dX11_undo_5 fl_X11_56 shC_0 rfl (rfC_0_6 _) ?_
  refine B_VI (st := []) dX11_undo_8 cl_X11_235 (t_X0_takeBack h) (Nat.le_of_ble_eq_true rfl) shC_70 rfl rfl (Nat.le_of_ble_eq_true rfl) (fun v1 h2 _ => ?_)
  exact B_ireturn dX11_undo_11 rfl rfl
def f_X11_log (x1 : Int32) (x2 : Int32) (h : dH) : Option (Int32) :=
  (f_X4_read (f_X8_daysGone h) x1 x2 h).bind fun v1 =>
  some v1
set_option maxRecDepth 20000 in
set_option maxHeartbeats 4000000 in
theorem t_X11_log (x1 : Int32) (x2 : Int32) (h : dH) : T XC 4 yX11_log cX11_log 3 (some .int) (fiP h) [.ref 0, .int x1, .int x2] h (f_X11_log x1 x2 h) := by
  refine T_of [.ref 0, .int x1, .int x2] (by decide) (fun _ => rfl) (fun _ => Nat.le_of_ble_eq_true rfl) ?_
  show B XC 4 RX11 cX11_log 3 (some .int) (fiP h) 0 [.ref 0, .int x1, .int x2] [] h (f_X11_log x1 x2 h)
  unfold f_X11_log
  refine B_aload_n dX11_log_0 rfl rfl ?_
  refine B_getR dX11_log_1 fl_X11_73 shC_0 rfl (rfC_0_9 _) ?_
  refine B_aload_n dX11_log_4 rfl rfl ?_
  refine B_getR dX11_log_5 fl_X11_56 shC_0 rfl (rfC_0_6 _) ?_
  refine B_Vt (st := [.ref 72]) dX11_log_8 cl_X11_239 (t_X8_daysGone h) (Nat.le_of_ble_eq_true rfl) shC_66 rfl rfl (Nat.le_of_ble_eq_true rfl) ?_
  refine B_iload_n dX11_log_11 rfl rfl ?_
  refine B_iload_n dX11_log_12 rfl rfl ?_
  refine B_Vp (st := []) dX11_log_13 cl_X11_242 (t_X4_read (f_X8_daysGone h) x1 x2 h) (Nat.le_of_ble_eq_true rfl) shC_72 rfl rfl (Nat.le_of_ble_eq_true rfl) (fun v1 _ => ?_)
  exact B_ireturn dX11_log_16 rfl rfl
def f_X11_step (x1 : Int32) (x2 : Int32) (x3 : Int32) (h : dH) : Option (Int32) :=
  if x2 < 0 then
  some (-1000000)
  else
  (f_X3_sizeOf x1 h).bind fun v1 =>
  if x2 < v1 then
  if x3 < 0 then
  some (-1000000)
  else
  if 1 < x3 then
  some (-1000000)
  else
  if x3 = 0 then
  (f_X3_whatOf x1 x2 h).bind fun v3 =>
  some v3
  else
  (f_X3_digitOf x1 x2 h).bind fun v2 =>
  some v2
  else
  some (-1000000)
set_option maxRecDepth 20000 in
set_option maxHeartbeats 4000000 in
theorem t_X11_step (x1 : Int32) (x2 : Int32) (x3 : Int32) (h : dH) : T XC 3 yX11_step cX11_step 4 (some .int) (fiP h) [.ref 0, .int x1, .int x2, .int x3] h (f_X11_step x1 x2 x3 h) := by
  refine T_of [.ref 0, .int x1, .int x2, .int x3] (by decide) (fun _ => rfl) (fun _ => Nat.le_of_ble_eq_true rfl) ?_
  show B XC 3 RX11 cX11_step 4 (some .int) (fiP h) 0 [.ref 0, .int x1, .int x2, .int x3] [] h (f_X11_step x1 x2 x3 h)
  unfold f_X11_step
  refine B_iload_n dX11_step_0 rfl rfl ?_
  refine C_if_lt (tgt := 25) dX11_step_1 (by decide) (fun q8 => ?_) (fun q8 => ?_)
  · refine B_ldc dX11_step_25 kc_X11_249 ?_
    exact B_ireturn dX11_step_27 rfl rfl
  · refine B_iload_n dX11_step_4 rfl rfl ?_
    refine B_aload_n dX11_step_5 rfl rfl ?_
    refine B_getR dX11_step_6 fl_X11_47 shC_0 rfl (rfC_0_5 _) ?_
    refine B_iload_n dX11_step_9 rfl rfl ?_
    refine B_Vp (st := [.int x2]) dX11_step_10 cl_X11_246 (t_X3_sizeOf x1 h) (Nat.le_of_ble_eq_true rfl) shC_52 rfl rfl (Nat.le_of_ble_eq_true rfl) (fun v1 _ => ?_)
    refine C_icmp_ge (tgt := 25) dX11_step_13 (by decide) (fun q7 => ?_) (fun q7 => ?_)
    · refine B_ldc dX11_step_25 kc_X11_249 ?_
      exact B_ireturn dX11_step_27 rfl rfl
    · refine B_iload_n dX11_step_16 rfl rfl ?_
      refine C_if_lt (tgt := 25) dX11_step_17 (by decide) (fun q6 => ?_) (fun q6 => ?_)
      · refine B_ldc dX11_step_25 kc_X11_249 ?_
        exact B_ireturn dX11_step_27 rfl rfl
      · refine B_iload_n dX11_step_20 rfl rfl ?_
        refine B_iconst dX11_step_21 ic_1 ?_
        refine C_icmp_le (tgt := 28) dX11_step_22 (by decide) (fun q5 => ?_) (fun q5 => ?_)
        · refine B_iload_n dX11_step_28 rfl rfl ?_
          refine C_if_ne (tgt := 44) dX11_step_29 (by decide) (fun q4 => ?_) (fun q4 => ?_)
          · refine B_aload_n dX11_step_44 rfl rfl ?_
            refine B_getR dX11_step_45 fl_X11_47 shC_0 rfl (rfC_0_5 _) ?_
            refine B_iload_n dX11_step_48 rfl rfl ?_
            refine B_iload_n dX11_step_49 rfl rfl ?_
            refine B_Vp (st := []) dX11_step_50 cl_X11_253 (t_X3_digitOf x1 x2 h) (Nat.le_of_ble_eq_true rfl) shC_52 rfl rfl (Nat.le_of_ble_eq_true rfl) (fun v2 _ => ?_)
            exact B_ireturn dX11_step_53 rfl rfl
          · refine B_aload_n dX11_step_32 rfl rfl ?_
            refine B_getR dX11_step_33 fl_X11_47 shC_0 rfl (rfC_0_5 _) ?_
            refine B_iload_n dX11_step_36 rfl rfl ?_
            refine B_iload_n dX11_step_37 rfl rfl ?_
            refine B_Vp (st := []) dX11_step_38 cl_X11_250 (t_X3_whatOf x1 x2 h) (Nat.le_of_ble_eq_true rfl) shC_52 rfl rfl (Nat.le_of_ble_eq_true rfl) (fun v3 _ => ?_)
            refine B_goto (tgt := 53) dX11_step_41 (by decide) ?_
            exact B_ireturn dX11_step_53 rfl rfl
        · refine B_ldc dX11_step_25 kc_X11_249 ?_
          exact B_ireturn dX11_step_27 rfl rfl
def f_X11_tryStep (x1 : Int32) (x2 : Int32) (h : dH) : Option (Bool × dH) :=
  (f_X3_whatOf x1 x2 h).bind fun v1 =>
  (f_X3_digitOf x1 x2 h).bind fun v2 =>
  (f_X8_canDo 68 v1 v2 h).bind fun v3 =>
  if v3 then
  (f_X8_carryOut 68 v1 v2 h).bind fun rv4 =>
  some (true, rv4.2)
  else
  some (false, h)
set_option maxRecDepth 20000 in
set_option maxHeartbeats 4000000 in
theorem t_X11_tryStep (x1 : Int32) (x2 : Int32) (h : dH) : T XC 5 yX11_tryStep cX11_tryStep 5 (some .boolean) fiC [.ref 0, .int x1, .int x2] h (f_X11_tryStep x1 x2 h) := by
  refine T_of [.ref 0, .int x1, .int x2, .null, .null] (by decide) (fun _ => rfl) (fun _ => Nat.le_of_ble_eq_true rfl) ?_
  show B XC 5 RX11 cX11_tryStep 5 (some .boolean) fiC 0 [.ref 0, .int x1, .int x2, .null, .null] [] h (f_X11_tryStep x1 x2 h)
  unfold f_X11_tryStep
  refine B_aload_n dX11_tryStep_0 rfl rfl ?_
  refine B_getR dX11_tryStep_1 fl_X11_47 shC_0 rfl (rfC_0_5 _) ?_
  refine B_iload_n dX11_tryStep_4 rfl rfl ?_
  refine B_iload_n dX11_tryStep_5 rfl rfl ?_
  refine B_Vp (st := []) dX11_tryStep_6 cl_X11_250 (t_X3_whatOf x1 x2 h) (Nat.le_of_ble_eq_true rfl) shC_52 rfl rfl (Nat.le_of_ble_eq_true rfl) (fun v1 _ => ?_)
  refine B_istore_n (ls' := [.ref 0, .int x1, .int x2, .int v1, .null]) dX11_tryStep_9 rfl (Nat.le_of_ble_eq_true rfl) rfl rfl ?_
  refine B_aload_n dX11_tryStep_10 rfl rfl ?_
  refine B_getR dX11_tryStep_11 fl_X11_47 shC_0 rfl (rfC_0_5 _) ?_
  refine B_iload_n dX11_tryStep_14 rfl rfl ?_
  refine B_iload_n dX11_tryStep_15 rfl rfl ?_
  refine B_Vp (st := []) dX11_tryStep_16 cl_X11_253 (t_X3_digitOf x1 x2 h) (Nat.le_of_ble_eq_true rfl) shC_52 rfl rfl (Nat.le_of_ble_eq_true rfl) (fun v2 _ => ?_)
  refine B_istore (ls' := [.ref 0, .int x1, .int x2, .int v1, .int v2]) dX11_tryStep_19 (Nat.le_of_ble_eq_true rfl) rfl rfl ?_
  refine B_aload_n dX11_tryStep_21 rfl rfl ?_
  refine B_getR dX11_tryStep_22 fl_X11_60 shC_0 rfl (rfC_0_7 _) ?_
  refine B_iload_n dX11_tryStep_25 rfl rfl ?_
  refine B_iload dX11_tryStep_26 rfl ?_
  refine B_Vpb (st := []) dX11_tryStep_28 cl_X11_207 (t_X8_canDo 68 shC_68 v1 v2 h) (Nat.le_of_ble_eq_true rfl) shC_68 rfl rfl (Nat.le_of_ble_eq_true rfl) (fun v3 _ => ?_)
  refine C_ifb_ne (tgt := 36) dX11_tryStep_31 (by decide) (fun q6 => ?_) (fun q6 => ?_)
  · refine B_aload_n dX11_tryStep_36 rfl rfl ?_
    refine B_getR dX11_tryStep_37 fl_X11_60 shC_0 rfl (rfC_0_7 _) ?_
    refine B_iload_n dX11_tryStep_40 rfl rfl ?_
    refine B_iload dX11_tryStep_41 rfl ?_
    refine B_VI (st := []) dX11_tryStep_43 cl_X11_214 (t_X8_carryOut 68 shC_68 v1 v2 h) (Nat.le_of_ble_eq_true rfl) shC_68 rfl rfl (Nat.le_of_ble_eq_true rfl) (fun v4 h5 _ => ?_)
    refine B_pop dX11_tryStep_46 rfl ?_
    refine B_iconst dX11_tryStep_47 ic_1 ?_
    exact B_zreturn dX11_tryStep_48 rfl rfl rfl
  · refine B_iconst dX11_tryStep_34 ic_0 ?_
    exact B_zreturn dX11_tryStep_35 rfl rfl rfl
def f_X11_run_J82 (y2 : Int32) (y3 : Int32) (y4 : Int32) (h : dH) : Option (Int32 × dH) :=
  if y2 = 1 then
  some (((f_X8_seenInAll 68 h) - (f_X8_seenInAll 66 h)), h)
  else
  if y4 < y3 then
  some (y4, h)
  else
  some ((-1), h)
set_option maxRecDepth 20000 in
set_option maxHeartbeats 4000000 in
theorem b_X11_run_J82 (y2 : Int32) (y3 : Int32) (y4 : Int32) (h : dH) : B XC 6 RX11 cX11_run 5 (some .int) fiI 82 [.ref 0, .null, .int y2, .int y3, .int y4] [] h (f_X11_run_J82 y2 y3 y4 h) := by
  unfold f_X11_run_J82
  refine B_iload_n dX11_run_82 rfl rfl ?_
  refine B_iconst dX11_run_83 ic_1 ?_
  refine C_icmp_ne (tgt := 103) dX11_run_84 (by decide) (fun q13 => ?_) (fun q13 => ?_)
  · refine B_iload dX11_run_103 rfl ?_
    refine B_iload_n dX11_run_105 rfl rfl ?_
    refine C_icmp_ge (tgt := 114) dX11_run_106 (by decide) (fun q12 => ?_) (fun q12 => ?_)
    · refine B_iconst dX11_run_114 ic_m1 ?_
      exact B_ireturn dX11_run_115 rfl rfl
    · refine B_iload dX11_run_109 rfl ?_
      refine B_goto (tgt := 115) dX11_run_111 (by decide) ?_
      exact B_ireturn dX11_run_115 rfl rfl
  · refine B_aload_n dX11_run_87 rfl rfl ?_
    refine B_getR dX11_run_88 fl_X11_60 shC_0 rfl (rfC_0_7 _) ?_
    refine B_Vt (st := []) dX11_run_91 cl_X11_269 (t_X8_seenInAll 68 shC_68 h) (Nat.le_of_ble_eq_true rfl) shC_68 rfl rfl (Nat.le_of_ble_eq_true rfl) ?_
    refine B_aload_n dX11_run_94 rfl rfl ?_
    refine B_getR dX11_run_95 fl_X11_56 shC_0 rfl (rfC_0_6 _) ?_
    refine B_Vt (st := [.int (f_X8_seenInAll 68 h)]) dX11_run_98 cl_X11_269 (t_X8_seenInAll 66 shC_66 h) (Nat.le_of_ble_eq_true rfl) shC_66 rfl rfl (Nat.le_of_ble_eq_true rfl) ?_
    refine B_isub dX11_run_101 ?_
    exact B_ireturn dX11_run_102 rfl rfl
def f_X11_run_L60 : Nat → Int32 → Int32 → Int32 → Int32 → dH → Option (Int32 × dH)
  | 0, _, _, _, _, _ => none
  | n + 1, y1, y2, y3, y4, h =>
    if y4 < y3 then
    (f_X11_tryStep y1 y4 h).bind fun rv8 =>
    if rv8.1 then
    (f_X11_run_L60 n) y1 y2 y3 (y4 + 1) rv8.2
    else
    f_X11_run_J82 y2 y3 y4 rv8.2
    else
    f_X11_run_J82 y2 y3 y4 h
set_option maxRecDepth 20000 in
set_option maxHeartbeats 4000000 in
theorem b_X11_run_L60 : ∀ (n : Nat) (y1 : Int32) (y2 : Int32) (y3 : Int32) (y4 : Int32) (h : dH), B XC 6 RX11 cX11_run 5 (some .int) fiI 60 [.ref 0, .int y1, .int y2, .int y3, .int y4] [] h (f_X11_run_L60 n y1 y2 y3 y4 h) := by
  intro n
  induction n with
  | zero =>
    intro y1 y2 y3 y4 h
    exact B_none
  | succ n ih =>
    intro y1 y2 y3 y4 h
    rw [f_X11_run_L60]
    refine B_iload dX11_run_60 rfl ?_
    refine B_iload_n dX11_run_62 rfl rfl ?_
    refine C_icmp_ge (tgt := 82) dX11_run_63 (by decide) (fun q11 => ?_) (fun q11 => ?_)
    · refine B_drop 1 (ls' := [.ref 0, .null, .int y2, .int y3, .int y4]) rfl ?_
      exact b_X11_run_J82 y2 y3 y4 h
    · refine B_aload_n dX11_run_66 rfl rfl ?_
      refine B_iload_n dX11_run_67 rfl rfl ?_
      refine B_iload dX11_run_68 rfl ?_
      refine B_VC (st := []) dX11_run_70 cl_X11_266 (t_X11_tryStep y1 y4 h) (Nat.le_of_ble_eq_true rfl) shC_0 rfl rfl (Nat.le_of_ble_eq_true rfl) (fun v8 h9 _ => ?_)
      refine C_ifb_eq (tgt := 82) dX11_run_73 (by decide) (fun q10 => ?_) (fun q10 => ?_)
      · refine B_drop 1 (ls' := [.ref 0, .null, .int y2, .int y3, .int y4]) rfl ?_
        exact b_X11_run_J82 y2 y3 y4 h9
      · refine B_iinc (w := (y4 + 1)) (ls' := [.ref 0, .int y1, .int y2, .int y3, .int (y4 + 1)]) dX11_run_76 rfl (congrArg (fun z => y4 + z) ic_1) (Nat.le_of_ble_eq_true rfl) rfl rfl ?_
        refine B_goto (tgt := 60) dX11_run_79 (by decide) ?_
        exact ih y1 y2 y3 (y4 + 1)  h9
def f_X11_run (x1 : Int32) (x2 : Int32) (h : dH) : Option (Int32 × dH) :=
  if (f_X1_isThere h) then
  if (f_X3_isKept x1 h) then
  if x2 < 0 then
  some ((-1000000), h)
  else
  if 1 < x2 then
  some ((-1000000), h)
  else
  (f_X8_loadFrom 68 67 28 0 h).bind fun h2 =>
  (f_X3_sizeOf x1 h2).bind fun v3 =>
  f_X11_run_L60 dFu x1 x2 v3 0 h2
  else
  some ((-1000000), h)
  else
  some ((-1000000), h)
set_option maxRecDepth 20000 in
set_option maxHeartbeats 4000000 in
theorem t_X11_run (x1 : Int32) (x2 : Int32) (h : dH) : T XC 6 yX11_run cX11_run 5 (some .int) fiI [.ref 0, .int x1, .int x2] h (f_X11_run x1 x2 h) := by
  refine T_of [.ref 0, .int x1, .int x2, .null, .null] (by decide) (fun _ => rfl) (fun _ => Nat.le_of_ble_eq_true rfl) ?_
  show B XC 6 RX11 cX11_run 5 (some .int) fiI 0 [.ref 0, .int x1, .int x2, .null, .null] [] h (f_X11_run x1 x2 h)
  unfold f_X11_run
  refine B_aload_n dX11_run_0 rfl rfl ?_
  refine B_getR dX11_run_1 fl_X11_19 shC_0 rfl (rfC_0_1 _) ?_
  refine B_VTb (st := []) dX11_run_4 cl_X11_157 (t_X1_isThere h) (Nat.le_of_ble_eq_true rfl) shC_3 rfl rfl (Nat.le_of_ble_eq_true rfl) ?_
  refine C_ifb_eq (tgt := 30) dX11_run_7 (by decide) (fun q7 => ?_) (fun q7 => ?_)
  · refine B_ldc dX11_run_30 kc_X11_249 ?_
    exact B_ireturn dX11_run_32 rfl rfl
  · refine B_aload_n dX11_run_10 rfl rfl ?_
    refine B_getR dX11_run_11 fl_X11_47 shC_0 rfl (rfC_0_5 _) ?_
    refine B_iload_n dX11_run_14 rfl rfl ?_
    refine B_VTb (st := []) dX11_run_15 cl_X11_256 (t_X3_isKept x1 h) (Nat.le_of_ble_eq_true rfl) shC_52 rfl rfl (Nat.le_of_ble_eq_true rfl) ?_
    refine C_ifb_eq (tgt := 30) dX11_run_18 (by decide) (fun q6 => ?_) (fun q6 => ?_)
    · refine B_ldc dX11_run_30 kc_X11_249 ?_
      exact B_ireturn dX11_run_32 rfl rfl
    · refine B_iload_n dX11_run_21 rfl rfl ?_
      refine C_if_lt (tgt := 30) dX11_run_22 (by decide) (fun q5 => ?_) (fun q5 => ?_)
      · refine B_ldc dX11_run_30 kc_X11_249 ?_
        exact B_ireturn dX11_run_32 rfl rfl
      · refine B_iload_n dX11_run_25 rfl rfl ?_
        refine B_iconst dX11_run_26 ic_1 ?_
        refine C_icmp_le (tgt := 33) dX11_run_27 (by decide) (fun q4 => ?_) (fun q4 => ?_)
        · refine B_aload_n dX11_run_33 rfl rfl ?_
          refine B_getR dX11_run_34 fl_X11_60 shC_0 rfl (rfC_0_7 _) ?_
          refine B_aload_n dX11_run_37 rfl rfl ?_
          refine B_getR dX11_run_38 fl_X11_56 shC_0 rfl (rfC_0_6 _) ?_
          refine B_getR dX11_run_41 fl_X11_259 shC_66 rfl (rfC_66_2 _) ?_
          refine B_iconst dX11_run_44 ic_0 ?_
          refine B_VV (st := []) dX11_run_45 cl_X11_262 (t_X8_loadFrom 68 shC_68 67 28 shC_67 0 h) (Nat.le_of_ble_eq_true rfl) shC_68 rfl rfl (Nat.le_of_ble_eq_true rfl) (fun h2 _ => ?_)
          refine B_aload_n dX11_run_48 rfl rfl ?_
          refine B_getR dX11_run_49 fl_X11_47 shC_0 rfl (rfC_0_5 _) ?_
          refine B_iload_n dX11_run_52 rfl rfl ?_
          refine B_Vp (st := []) dX11_run_53 cl_X11_246 (t_X3_sizeOf x1 h2) (Nat.le_of_ble_eq_true rfl) shC_52 rfl rfl (Nat.le_of_ble_eq_true rfl) (fun v3 _ => ?_)
          refine B_istore_n (ls' := [.ref 0, .int x1, .int x2, .int v3, .null]) dX11_run_56 rfl (Nat.le_of_ble_eq_true rfl) rfl rfl ?_
          refine B_iconst dX11_run_57 ic_0 ?_
          refine B_istore (ls' := [.ref 0, .int x1, .int x2, .int v3, .int 0]) dX11_run_58 (Nat.le_of_ble_eq_true rfl) rfl rfl ?_
          exact b_X11_run_L60 dFu x1 x2 v3 0 h2
        · refine B_ldc dX11_run_30 kc_X11_249 ?_
          exact B_ireturn dX11_run_32 rfl rfl
def f_X11_perform_L34 : Nat → Int32 → Int32 → Int32 → dH → Option (Int32 × dH)
  | 0, _, _, _, _ => none
  | n + 1, y1, y2, y3, h =>
    if y3 < y2 then
    (f_X3_whatOf y1 y3 h).bind fun v4 =>
    (f_X3_digitOf y1 y3 h).bind fun v5 =>
    (f_X11_doAsAct v4 v5 h).bind fun rv6 =>
    if rv6.1 = (-1) then
    some (y3, rv6.2)
    else
    (f_X11_perform_L34 n) y1 y2 (y3 + 1) rv6.2
    else
    some (y3, h)
set_option maxRecDepth 20000 in
set_option maxHeartbeats 4000000 in
theorem b_X11_perform_L34 : ∀ (n : Nat) (y1 : Int32) (y2 : Int32) (y3 : Int32) (h : dH), B XC 6 RX11 cX11_perform 4 (some .int) fiI 34 [.ref 0, .int y1, .int y2, .int y3] [] h (f_X11_perform_L34 n y1 y2 y3 h) := by
  intro n
  induction n with
  | zero =>
    intro y1 y2 y3 h
    exact B_none
  | succ n ih =>
    intro y1 y2 y3 h
    rw [f_X11_perform_L34]
    refine B_iload_n dX11_perform_34 rfl rfl ?_
    refine B_iload_n dX11_perform_35 rfl rfl ?_
    refine C_icmp_ge (tgt := 71) dX11_perform_36 (by decide) (fun q9 => ?_) (fun q9 => ?_)
    · refine B_iload_n dX11_perform_71 rfl rfl ?_
      exact B_ireturn dX11_perform_72 rfl rfl
    · refine B_aload_n dX11_perform_39 rfl rfl ?_
      refine B_aload_n dX11_perform_40 rfl rfl ?_
      refine B_getR dX11_perform_41 fl_X11_47 shC_0 rfl (rfC_0_5 _) ?_
      refine B_iload_n dX11_perform_44 rfl rfl ?_
      refine B_iload_n dX11_perform_45 rfl rfl ?_
      refine B_Vp (st := [.ref 0]) dX11_perform_46 cl_X11_250 (t_X3_whatOf y1 y3 h) (Nat.le_of_ble_eq_true rfl) shC_52 rfl rfl (Nat.le_of_ble_eq_true rfl) (fun v4 _ => ?_)
      refine B_aload_n dX11_perform_49 rfl rfl ?_
      refine B_getR dX11_perform_50 fl_X11_47 shC_0 rfl (rfC_0_5 _) ?_
      refine B_iload_n dX11_perform_53 rfl rfl ?_
      refine B_iload_n dX11_perform_54 rfl rfl ?_
      refine B_Vp (st := [.int v4, .ref 0]) dX11_perform_55 cl_X11_253 (t_X3_digitOf y1 y3 h) (Nat.le_of_ble_eq_true rfl) shC_52 rfl rfl (Nat.le_of_ble_eq_true rfl) (fun v5 _ => ?_)
      refine B_VI (st := []) dX11_perform_58 cl_X11_196 (t_X11_doAsAct v4 v5 h) (Nat.le_of_ble_eq_true rfl) shC_0 rfl rfl (Nat.le_of_ble_eq_true rfl) (fun v6 h7 _ => ?_)
      refine B_iconst dX11_perform_61 ic_m1 ?_
      refine C_icmp_eq (tgt := 71) dX11_perform_62 (by decide) (fun q8 => ?_) (fun q8 => ?_)
      · refine B_iload_n dX11_perform_71 rfl rfl ?_
        exact B_ireturn dX11_perform_72 rfl rfl
      · refine B_iinc (w := (y3 + 1)) (ls' := [.ref 0, .int y1, .int y2, .int (y3 + 1)]) dX11_perform_65 rfl (congrArg (fun z => y3 + z) ic_1) (Nat.le_of_ble_eq_true rfl) rfl rfl ?_
        refine B_goto (tgt := 34) dX11_perform_68 (by decide) ?_
        exact ih y1 y2 (y3 + 1)  h7
def f_X11_perform (x1 : Int32) (h : dH) : Option (Int32 × dH) :=
  if (f_X1_isThere h) then
  if (f_X3_isKept x1 h) then
  (f_X3_sizeOf x1 h).bind fun v1 =>
  f_X11_perform_L34 dFu x1 v1 0 h
  else
  some ((-1), h)
  else
  some ((-1), h)
set_option maxRecDepth 20000 in
set_option maxHeartbeats 4000000 in
theorem t_X11_perform (x1 : Int32) (h : dH) : T XC 6 yX11_perform cX11_perform 4 (some .int) fiI [.ref 0, .int x1] h (f_X11_perform x1 h) := by
  refine T_of [.ref 0, .int x1, .null, .null] (by decide) (fun _ => rfl) (fun _ => Nat.le_of_ble_eq_true rfl) ?_
  show B XC 6 RX11 cX11_perform 4 (some .int) fiI 0 [.ref 0, .int x1, .null, .null] [] h (f_X11_perform x1 h)
  unfold f_X11_perform
  refine B_aload_n dX11_perform_0 rfl rfl ?_
  refine B_getR dX11_perform_1 fl_X11_19 shC_0 rfl (rfC_0_1 _) ?_
  refine B_VTb (st := []) dX11_perform_4 cl_X11_157 (t_X1_isThere h) (Nat.le_of_ble_eq_true rfl) shC_3 rfl rfl (Nat.le_of_ble_eq_true rfl) ?_
  refine C_ifb_eq (tgt := 21) dX11_perform_7 (by decide) (fun q3 => ?_) (fun q3 => ?_)
  · refine B_iconst dX11_perform_21 ic_m1 ?_
    exact B_ireturn dX11_perform_22 rfl rfl
  · refine B_aload_n dX11_perform_10 rfl rfl ?_
    refine B_getR dX11_perform_11 fl_X11_47 shC_0 rfl (rfC_0_5 _) ?_
    refine B_iload_n dX11_perform_14 rfl rfl ?_
    refine B_VTb (st := []) dX11_perform_15 cl_X11_256 (t_X3_isKept x1 h) (Nat.le_of_ble_eq_true rfl) shC_52 rfl rfl (Nat.le_of_ble_eq_true rfl) ?_
    refine C_ifb_ne (tgt := 23) dX11_perform_18 (by decide) (fun q2 => ?_) (fun q2 => ?_)
    · refine B_aload_n dX11_perform_23 rfl rfl ?_
      refine B_getR dX11_perform_24 fl_X11_47 shC_0 rfl (rfC_0_5 _) ?_
      refine B_iload_n dX11_perform_27 rfl rfl ?_
      refine B_Vp (st := []) dX11_perform_28 cl_X11_246 (t_X3_sizeOf x1 h) (Nat.le_of_ble_eq_true rfl) shC_52 rfl rfl (Nat.le_of_ble_eq_true rfl) (fun v1 _ => ?_)
      refine B_istore_n (ls' := [.ref 0, .int x1, .int v1, .null]) dX11_perform_31 rfl (Nat.le_of_ble_eq_true rfl) rfl rfl ?_
      refine B_iconst dX11_perform_32 ic_0 ?_
      refine B_istore_n (ls' := [.ref 0, .int x1, .int v1, .int 0]) dX11_perform_33 rfl (Nat.le_of_ble_eq_true rfl) rfl rfl ?_
      exact b_X11_perform_L34 dFu x1 v1 0 h
    · refine B_iconst dX11_perform_21 ic_m1 ?_
      exact B_ireturn dX11_perform_22 rfl rfl
def f_X11_troubles (x1 : Int32) (h : dH) : Option (Int32 × dH) :=
  if (f_X1_isPlace 3 x1 h) then
  (f_X8_troubleNow x1 0 h).bind fun rv1 =>
  some (rv1.1, rv1.2)
  else
  some ((-1), h)
set_option maxRecDepth 20000 in
set_option maxHeartbeats 4000000 in
theorem t_X11_troubles (x1 : Int32) (h : dH) : T XC 4 yX11_troubles cX11_troubles 2 (some .int) fiI [.ref 0, .int x1] h (f_X11_troubles x1 h) := by
  refine T_of [.ref 0, .int x1] (by decide) (fun _ => rfl) (fun _ => Nat.le_of_ble_eq_true rfl) ?_
  show B XC 4 RX11 cX11_troubles 2 (some .int) fiI 0 [.ref 0, .int x1] [] h (f_X11_troubles x1 h)
  unfold f_X11_troubles
  refine B_aload_n dX11_troubles_0 rfl rfl ?_
  refine B_getR dX11_troubles_1 fl_X11_19 shC_0 rfl (rfC_0_1 _) ?_
  refine B_iload_n dX11_troubles_4 rfl rfl ?_
  refine B_VTb (st := []) dX11_troubles_5 cl_X11_164 (t_X1_isPlace 3 shC_3 x1 h) (Nat.le_of_ble_eq_true rfl) shC_3 rfl rfl (Nat.le_of_ble_eq_true rfl) ?_
  refine C_ifb_eq (tgt := 23) dX11_troubles_8 (by decide) (fun q3 => ?_) (fun q3 => ?_)
  · refine B_iconst dX11_troubles_23 ic_m1 ?_
    exact B_ireturn dX11_troubles_24 rfl rfl
  · refine B_aload_n dX11_troubles_11 rfl rfl ?_
    refine B_getR dX11_troubles_12 fl_X11_56 shC_0 rfl (rfC_0_6 _) ?_
    refine B_iload_n dX11_troubles_15 rfl rfl ?_
    refine B_iconst dX11_troubles_16 ic_0 ?_
    refine B_VI (st := []) dX11_troubles_17 cl_X11_272 (t_X8_troubleNow x1 0 h) (Nat.le_of_ble_eq_true rfl) shC_66 rfl rfl (Nat.le_of_ble_eq_true rfl) (fun v1 h2 _ => ?_)
    refine B_goto (tgt := 24) dX11_troubles_20 (by decide) ?_
    exact B_ireturn dX11_troubles_24 rfl rfl
def f_X11_sees (x1 : Int32) (h : dH) : Option (Int32 × dH) :=
  if (f_X1_isThere h) then
  if x1 < 0 then
  some ((-1), h)
  else
  if 2 < x1 then
  some ((-1), h)
  else
  (f_X7_seeMost h).bind fun h2 =>
  if x1 = 0 then
  some ((h2.1 83 0), h2)
  else
  if x1 = 1 then
  some ((h2.1 83 1), h2)
  else
  some ((h2.1 83 2), h2)
  else
  some ((-1), h)
set_option maxRecDepth 20000 in
set_option maxHeartbeats 4000000 in
theorem t_X11_sees (x1 : Int32) (h : dH) : T XC 15 yX11_sees cX11_sees 2 (some .int) fiI [.ref 0, .int x1] h (f_X11_sees x1 h) := by
  refine T_of [.ref 0, .int x1] (by decide) (fun _ => rfl) (fun _ => Nat.le_of_ble_eq_true rfl) ?_
  show B XC 15 RX11 cX11_sees 2 (some .int) fiI 0 [.ref 0, .int x1] [] h (f_X11_sees x1 h)
  unfold f_X11_sees
  refine B_aload_n dX11_sees_0 rfl rfl ?_
  refine B_getR dX11_sees_1 fl_X11_19 shC_0 rfl (rfC_0_1 _) ?_
  refine B_VTb (st := []) dX11_sees_4 cl_X11_157 (t_X1_isThere h) (Nat.le_of_ble_eq_true rfl) shC_3 rfl rfl (Nat.le_of_ble_eq_true rfl) ?_
  refine C_ifb_eq (tgt := 19) dX11_sees_7 (by decide) (fun q7 => ?_) (fun q7 => ?_)
  · refine B_iconst dX11_sees_19 ic_m1 ?_
    exact B_ireturn dX11_sees_20 rfl rfl
  · refine B_iload_n dX11_sees_10 rfl rfl ?_
    refine C_if_lt (tgt := 19) dX11_sees_11 (by decide) (fun q6 => ?_) (fun q6 => ?_)
    · refine B_iconst dX11_sees_19 ic_m1 ?_
      exact B_ireturn dX11_sees_20 rfl rfl
    · refine B_iload_n dX11_sees_14 rfl rfl ?_
      refine B_iconst dX11_sees_15 ic_2 ?_
      refine C_icmp_le (tgt := 21) dX11_sees_16 (by decide) (fun q5 => ?_) (fun q5 => ?_)
      · refine B_aload_n dX11_sees_21 rfl rfl ?_
        refine B_getR dX11_sees_22 fl_X11_98 shC_0 rfl (rfC_0_13 _) ?_
        refine B_VV (st := []) dX11_sees_25 cl_X11_275 (t_X7_seeMost h) (Nat.le_of_ble_eq_true rfl) shC_83 rfl rfl (Nat.le_of_ble_eq_true rfl) (fun h2 _ => ?_)
        refine B_iload_n dX11_sees_28 rfl rfl ?_
        refine C_if_ne (tgt := 42) dX11_sees_29 (by decide) (fun q4 => ?_) (fun q4 => ?_)
        · refine B_iload_n dX11_sees_42 rfl rfl ?_
          refine B_iconst dX11_sees_43 ic_1 ?_
          refine C_icmp_ne (tgt := 57) dX11_sees_44 (by decide) (fun q3 => ?_) (fun q3 => ?_)
          · refine B_aload_n dX11_sees_57 rfl rfl ?_
            refine B_getR dX11_sees_58 fl_X11_98 shC_0 rfl (rfC_0_13 _) ?_
            refine B_getI dX11_sees_61 fl_X11_284 shC_83 rfl ?_
            exact B_ireturn dX11_sees_64 rfl rfl
          · refine B_aload_n dX11_sees_47 rfl rfl ?_
            refine B_getR dX11_sees_48 fl_X11_98 shC_0 rfl (rfC_0_13 _) ?_
            refine B_getI dX11_sees_51 fl_X11_281 shC_83 rfl ?_
            refine B_goto (tgt := 64) dX11_sees_54 (by decide) ?_
            exact B_ireturn dX11_sees_64 rfl rfl
        · refine B_aload_n dX11_sees_32 rfl rfl ?_
          refine B_getR dX11_sees_33 fl_X11_98 shC_0 rfl (rfC_0_13 _) ?_
          refine B_getI dX11_sees_36 fl_X11_278 shC_83 rfl ?_
          refine B_goto (tgt := 64) dX11_sees_39 (by decide) ?_
          exact B_ireturn dX11_sees_64 rfl rfl
      · refine B_iconst dX11_sees_19 ic_m1 ?_
        exact B_ireturn dX11_sees_20 rfl rfl
def f_X11_least (x1 : Int32) (x2 : Int32) (h : dH) : Option (Int32 × dH) :=
  if (f_X1_isSet x1 h) then
  if x2 < 0 then
  some ((-1), h)
  else
  if 1 < x2 then
  some ((-1), h)
  else
  (f_X7_troubleLeast x1 h).bind fun h2 =>
  if (h2.1 83 0) = (-1) then
  some ((-1), h2)
  else
  if x2 = 0 then
  some ((h2.1 83 0), h2)
  else
  some ((h2.1 83 1), h2)
  else
  some ((-1), h)
set_option maxRecDepth 20000 in
set_option maxHeartbeats 4000000 in
theorem t_X11_least (x1 : Int32) (x2 : Int32) (h : dH) : T XC 14 yX11_least cX11_least 3 (some .int) fiI [.ref 0, .int x1, .int x2] h (f_X11_least x1 x2 h) := by
  refine T_of [.ref 0, .int x1, .int x2] (by decide) (fun _ => rfl) (fun _ => Nat.le_of_ble_eq_true rfl) ?_
  show B XC 14 RX11 cX11_least 3 (some .int) fiI 0 [.ref 0, .int x1, .int x2] [] h (f_X11_least x1 x2 h)
  unfold f_X11_least
  refine B_aload_n dX11_least_0 rfl rfl ?_
  refine B_getR dX11_least_1 fl_X11_19 shC_0 rfl (rfC_0_1 _) ?_
  refine B_iload_n dX11_least_4 rfl rfl ?_
  refine B_VTb (st := []) dX11_least_5 cl_X11_287 (t_X1_isSet x1 h) (Nat.le_of_ble_eq_true rfl) shC_3 rfl rfl (Nat.le_of_ble_eq_true rfl) ?_
  refine C_ifb_eq (tgt := 20) dX11_least_8 (by decide) (fun q7 => ?_) (fun q7 => ?_)
  · refine B_iconst dX11_least_20 ic_m1 ?_
    exact B_ireturn dX11_least_21 rfl rfl
  · refine B_iload_n dX11_least_11 rfl rfl ?_
    refine C_if_lt (tgt := 20) dX11_least_12 (by decide) (fun q6 => ?_) (fun q6 => ?_)
    · refine B_iconst dX11_least_20 ic_m1 ?_
      exact B_ireturn dX11_least_21 rfl rfl
    · refine B_iload_n dX11_least_15 rfl rfl ?_
      refine B_iconst dX11_least_16 ic_1 ?_
      refine C_icmp_le (tgt := 22) dX11_least_17 (by decide) (fun q5 => ?_) (fun q5 => ?_)
      · refine B_aload_n dX11_least_22 rfl rfl ?_
        refine B_getR dX11_least_23 fl_X11_98 shC_0 rfl (rfC_0_13 _) ?_
        refine B_iload_n dX11_least_26 rfl rfl ?_
        refine B_VV (st := []) dX11_least_27 cl_X11_290 (t_X7_troubleLeast x1 h) (Nat.le_of_ble_eq_true rfl) shC_83 rfl rfl (Nat.le_of_ble_eq_true rfl) (fun h2 _ => ?_)
        refine B_aload_n dX11_least_30 rfl rfl ?_
        refine B_getR dX11_least_31 fl_X11_98 shC_0 rfl (rfC_0_13 _) ?_
        refine B_getI dX11_least_34 fl_X11_278 shC_83 rfl ?_
        refine B_iconst dX11_least_37 ic_m1 ?_
        refine C_icmp_ne (tgt := 43) dX11_least_38 (by decide) (fun q4 => ?_) (fun q4 => ?_)
        · refine B_iload_n dX11_least_43 rfl rfl ?_
          refine C_if_ne (tgt := 57) dX11_least_44 (by decide) (fun q3 => ?_) (fun q3 => ?_)
          · refine B_aload_n dX11_least_57 rfl rfl ?_
            refine B_getR dX11_least_58 fl_X11_98 shC_0 rfl (rfC_0_13 _) ?_
            refine B_getI dX11_least_61 fl_X11_281 shC_83 rfl ?_
            exact B_ireturn dX11_least_64 rfl rfl
          · refine B_aload_n dX11_least_47 rfl rfl ?_
            refine B_getR dX11_least_48 fl_X11_98 shC_0 rfl (rfC_0_13 _) ?_
            refine B_getI dX11_least_51 fl_X11_278 shC_83 rfl ?_
            refine B_goto (tgt := 64) dX11_least_54 (by decide) ?_
            exact B_ireturn dX11_least_64 rfl rfl
        · refine B_iconst dX11_least_41 ic_m1 ?_
          exact B_ireturn dX11_least_42 rfl rfl
      · refine B_iconst dX11_least_20 ic_m1 ?_
        exact B_ireturn dX11_least_21 rfl rfl
def f_X11_manners_L36 (h : dH) : Nat → Int32 → Int32 → Int32 → Option (Int32)
  | 0, _, _, _ => none
  | n + 1, y1, y2, y3 =>
    if 9 < y3 then
    some (-1)
    else
    (f_X7_isBorne y1 y3 h).bind fun v3 =>
    if v3 then
    some (y3 - y2)
    else
    (f_X11_manners_L36 h n) y1 y2 (y3 + 1)
set_option maxRecDepth 20000 in
set_option maxHeartbeats 4000000 in
theorem b_X11_manners_L36 (h : dH) : ∀ (n : Nat) (y1 : Int32) (y2 : Int32) (y3 : Int32), B XC 4 RX11 cX11_manners 4 (some .int) (fiP h) 36 [.ref 0, .int y1, .int y2, .int y3] [] h (f_X11_manners_L36 h n y1 y2 y3) := by
  intro n
  induction n with
  | zero =>
    intro y1 y2 y3
    exact B_none
  | succ n ih =>
    intro y1 y2 y3
    rw [f_X11_manners_L36]
    refine B_iload_n dX11_manners_36 rfl rfl ?_
    refine B_bipush dX11_manners_37 bp_9 ?_
    refine C_icmp_gt (tgt := 64) dX11_manners_39 (by decide) (fun q5 => ?_) (fun q5 => ?_)
    · refine B_iconst dX11_manners_64 ic_m1 ?_
      exact B_ireturn dX11_manners_65 rfl rfl
    · refine B_aload_n dX11_manners_42 rfl rfl ?_
      refine B_getR dX11_manners_43 fl_X11_98 shC_0 rfl (rfC_0_13 _) ?_
      refine B_iload_n dX11_manners_46 rfl rfl ?_
      refine B_iload_n dX11_manners_47 rfl rfl ?_
      refine B_Vpb (st := []) dX11_manners_48 cl_X11_293 (t_X7_isBorne y1 y3 h) (Nat.le_of_ble_eq_true rfl) shC_83 rfl rfl (Nat.le_of_ble_eq_true rfl) (fun v3 _ => ?_)
      refine C_ifb_eq (tgt := 58) dX11_manners_51 (by decide) (fun q4 => ?_) (fun q4 => ?_)
      · refine B_iinc (w := (y3 + 1)) (ls' := [.ref 0, .int y1, .int y2, .int (y3 + 1)]) dX11_manners_58 rfl (congrArg (fun z => y3 + z) ic_1) (Nat.le_of_ble_eq_true rfl) rfl rfl ?_
        refine B_goto (tgt := 36) dX11_manners_61 (by decide) ?_
        exact ih y1 y2 (y3 + 1)  
      · refine B_iload_n dX11_manners_54 rfl rfl ?_
        refine B_iload_n dX11_manners_55 rfl rfl ?_
        refine B_isub dX11_manners_56 ?_
        exact B_ireturn dX11_manners_57 rfl rfl
def f_X11_manners (x1 : Int32) (h : dH) : Option (Int32) :=
  if (f_X1_isSet x1 h) then
  if (h.1 42 2) = (-1) then
  f_X11_manners_L36 h dFu x1 (h.1 4 2) (h.1 4 2)
  else
  some (-1)
  else
  some (-1)
set_option maxRecDepth 20000 in
set_option maxHeartbeats 4000000 in
theorem t_X11_manners (x1 : Int32) (h : dH) : T XC 4 yX11_manners cX11_manners 4 (some .int) (fiP h) [.ref 0, .int x1] h (f_X11_manners x1 h) := by
  refine T_of [.ref 0, .int x1, .null, .null] (by decide) (fun _ => rfl) (fun _ => Nat.le_of_ble_eq_true rfl) ?_
  show B XC 4 RX11 cX11_manners 4 (some .int) (fiP h) 0 [.ref 0, .int x1, .null, .null] [] h (f_X11_manners x1 h)
  unfold f_X11_manners
  refine B_aload_n dX11_manners_0 rfl rfl ?_
  refine B_getR dX11_manners_1 fl_X11_19 shC_0 rfl (rfC_0_1 _) ?_
  refine B_iload_n dX11_manners_4 rfl rfl ?_
  refine B_VTb (st := []) dX11_manners_5 cl_X11_287 (t_X1_isSet x1 h) (Nat.le_of_ble_eq_true rfl) shC_3 rfl rfl (Nat.le_of_ble_eq_true rfl) ?_
  refine C_ifb_eq (tgt := 22) dX11_manners_8 (by decide) (fun q2 => ?_) (fun q2 => ?_)
  · refine B_iconst dX11_manners_22 ic_m1 ?_
    exact B_ireturn dX11_manners_23 rfl rfl
  · refine B_aload_n dX11_manners_11 rfl rfl ?_
    refine B_getR dX11_manners_12 fl_X11_40 shC_0 rfl (rfC_0_4 _) ?_
    refine B_getI dX11_manners_15 fl_X11_187 shC_42 rfl ?_
    refine B_iconst dX11_manners_18 ic_m1 ?_
    refine C_icmp_eq (tgt := 24) dX11_manners_19 (by decide) (fun q1 => ?_) (fun q1 => ?_)
    · refine B_aload_n dX11_manners_24 rfl rfl ?_
      refine B_getR dX11_manners_25 fl_X11_19 shC_0 rfl (rfC_0_1 _) ?_
      refine B_getR dX11_manners_28 fl_X11_161 shC_3 rfl (rfC_3_0 _) ?_
      refine B_iconst dX11_manners_31 ic_2 ?_
      refine L_iald dX11_manners_32 shC_4 (by decide) di_2 ?_
      refine B_istore_n (ls' := [.ref 0, .int x1, .int (h.1 4 2), .null]) dX11_manners_33 rfl (Nat.le_of_ble_eq_true rfl) rfl rfl ?_
      refine B_iload_n dX11_manners_34 rfl rfl ?_
      refine B_istore_n (ls' := [.ref 0, .int x1, .int (h.1 4 2), .int (h.1 4 2)]) dX11_manners_35 rfl (Nat.le_of_ble_eq_true rfl) rfl rfl ?_
      exact b_X11_manners_L36 h dFu x1 (h.1 4 2) (h.1 4 2)
    · refine B_iconst dX11_manners_22 ic_m1 ?_
      exact B_ireturn dX11_manners_23 rfl rfl
def f_X11_noted (x1 : Int32) (x2 : Int32) (x3 : Bool) (h : dH) : Option (Int32 × dH) :=
  if (f_X1_isPlace 3 x1 h) then
  if x2 < 0 then
  some ((-1), h)
  else
  if 60 < x2 then
  some ((-1), h)
  else
  (f_X10_put x1 x2 x3 h).bind fun rv1 =>
  some (rv1.1, rv1.2)
  else
  some ((-1), h)
set_option maxRecDepth 20000 in
set_option maxHeartbeats 4000000 in
theorem t_X11_noted (x1 : Int32) (x2 : Int32) (x3 : Bool) (h : dH) : T XC 1 yX11_noted cX11_noted 4 (some .int) fiI [.ref 0, .int x1, .int x2, .int (bi x3)] h (f_X11_noted x1 x2 x3 h) := by
  refine T_of [.ref 0, .int x1, .int x2, .int (bi x3)] (by decide) (fun _ => rfl) (fun _ => Nat.le_of_ble_eq_true rfl) ?_
  show B XC 1 RX11 cX11_noted 4 (some .int) fiI 0 [.ref 0, .int x1, .int x2, .int (bi x3)] [] h (f_X11_noted x1 x2 x3 h)
  unfold f_X11_noted
  refine B_aload_n dX11_noted_0 rfl rfl ?_
  refine B_getR dX11_noted_1 fl_X11_19 shC_0 rfl (rfC_0_1 _) ?_
  refine B_iload_n dX11_noted_4 rfl rfl ?_
  refine B_VTb (st := []) dX11_noted_5 cl_X11_164 (t_X1_isPlace 3 shC_3 x1 h) (Nat.le_of_ble_eq_true rfl) shC_3 rfl rfl (Nat.le_of_ble_eq_true rfl) ?_
  refine C_ifb_eq (tgt := 21) dX11_noted_8 (by decide) (fun q5 => ?_) (fun q5 => ?_)
  · refine B_iconst dX11_noted_21 ic_m1 ?_
    exact B_ireturn dX11_noted_22 rfl rfl
  · refine B_iload_n dX11_noted_11 rfl rfl ?_
    refine C_if_lt (tgt := 21) dX11_noted_12 (by decide) (fun q4 => ?_) (fun q4 => ?_)
    · refine B_iconst dX11_noted_21 ic_m1 ?_
      exact B_ireturn dX11_noted_22 rfl rfl
    · refine B_iload_n dX11_noted_15 rfl rfl ?_
      refine B_bipush dX11_noted_16 bp_60 ?_
      refine C_icmp_le (tgt := 23) dX11_noted_18 (by decide) (fun q3 => ?_) (fun q3 => ?_)
      · refine B_aload_n dX11_noted_23 rfl rfl ?_
        refine B_getR dX11_noted_24 fl_X11_89 shC_0 rfl (rfC_0_12 _) ?_
        refine B_iload_n dX11_noted_27 rfl rfl ?_
        refine B_iload_n dX11_noted_28 rfl rfl ?_
        refine B_iload_n dX11_noted_29 rfl rfl ?_
        refine B_VI (st := []) dX11_noted_30 cl_X11_296 (t_X10_put x1 x2 x3 h) (Nat.le_of_ble_eq_true rfl) shC_77 rfl rfl (Nat.le_of_ble_eq_true rfl) (fun v1 h2 _ => ?_)
        exact B_ireturn dX11_noted_33 rfl rfl
      · refine B_iconst dX11_noted_21 ic_m1 ?_
        exact B_ireturn dX11_noted_22 rfl rfl
def f_X11_canGather (x1 : Int32) (h : dH) : Bool :=
  if (f_X1_isThere h) then
  if x1 < 1 then
  false
  else
  if 4 < x1 then
  false
  else
  true
  else
  false
set_option maxRecDepth 20000 in
set_option maxHeartbeats 4000000 in
theorem t_X11_canGather (x1 : Int32) (h : dH) : T XC 1 yX11_canGather cX11_canGather 2 (some .boolean) (fiB h) [.ref 0, .int x1] h (some (f_X11_canGather x1 h)) := by
  refine T_of [.ref 0, .int x1] (by decide) (fun _ => rfl) (fun _ => Nat.le_of_ble_eq_true rfl) ?_
  show B XC 1 RX11 cX11_canGather 2 (some .boolean) (fiB h) 0 [.ref 0, .int x1] [] h (some (f_X11_canGather x1 h))
  unfold f_X11_canGather
  refine B_aload_n dX11_canGather_0 rfl rfl ?_
  refine B_getR dX11_canGather_1 fl_X11_19 shC_0 rfl (rfC_0_1 _) ?_
  refine B_VTb (st := []) dX11_canGather_4 cl_X11_157 (t_X1_isThere h) (Nat.le_of_ble_eq_true rfl) shC_3 rfl rfl (Nat.le_of_ble_eq_true rfl) ?_
  refine C_some ?_
  refine C_ifb_eq (tgt := 24) dX11_canGather_7 (by decide) (fun q3 => ?_) (fun q3 => ?_)
  · refine B_iconst dX11_canGather_24 ic_0 ?_
    exact B_zreturn dX11_canGather_25 rfl rfl rfl
  · refine B_iload_n dX11_canGather_10 rfl rfl ?_
    refine B_iconst dX11_canGather_11 ic_1 ?_
    refine C_some ?_
    refine C_icmp_lt (tgt := 24) dX11_canGather_12 (by decide) (fun q2 => ?_) (fun q2 => ?_)
    · refine B_iconst dX11_canGather_24 ic_0 ?_
      exact B_zreturn dX11_canGather_25 rfl rfl rfl
    · refine B_iload_n dX11_canGather_15 rfl rfl ?_
      refine B_iconst dX11_canGather_16 ic_4 ?_
      refine C_some ?_
      refine C_icmp_gt (tgt := 24) dX11_canGather_17 (by decide) (fun q1 => ?_) (fun q1 => ?_)
      · refine B_iconst dX11_canGather_24 ic_0 ?_
        exact B_zreturn dX11_canGather_25 rfl rfl rfl
      · refine B_iconst dX11_canGather_20 ic_1 ?_
        refine B_goto (tgt := 25) dX11_canGather_21 (by decide) ?_
        exact B_zreturn dX11_canGather_25 rfl rfl rfl
def f_X11_ways (x1 : Int32) (x2 : Int32) (h : dH) : Option (Int32 × dH) :=
  if (f_X11_canGather x1 h) then
  if x2 < (-1) then
  some ((-1), h)
  else
  (f_X10_gather x1 x2 0 h).bind fun h2 =>
  if x2 = (-1) then
  some ((h2.1 77 1), h2)
  else
  some ((h2.1 77 2), h2)
  else
  some ((-1), h)
set_option maxRecDepth 20000 in
set_option maxHeartbeats 4000000 in
theorem t_X11_ways (x1 : Int32) (x2 : Int32) (h : dH) : T XC 11 yX11_ways cX11_ways 3 (some .int) fiI [.ref 0, .int x1, .int x2] h (f_X11_ways x1 x2 h) := by
  refine T_of [.ref 0, .int x1, .int x2] (by decide) (fun _ => rfl) (fun _ => Nat.le_of_ble_eq_true rfl) ?_
  show B XC 11 RX11 cX11_ways 3 (some .int) fiI 0 [.ref 0, .int x1, .int x2] [] h (f_X11_ways x1 x2 h)
  unfold f_X11_ways
  refine B_aload_n dX11_ways_0 rfl rfl ?_
  refine B_iload_n dX11_ways_1 rfl rfl ?_
  refine B_VTb (st := []) dX11_ways_2 cl_X11_300 (t_X11_canGather x1 h) (Nat.le_of_ble_eq_true rfl) shC_0 rfl rfl (Nat.le_of_ble_eq_true rfl) ?_
  refine C_ifb_eq (tgt := 13) dX11_ways_5 (by decide) (fun q5 => ?_) (fun q5 => ?_)
  · refine B_iconst dX11_ways_13 ic_m1 ?_
    exact B_ireturn dX11_ways_14 rfl rfl
  · refine B_iload_n dX11_ways_8 rfl rfl ?_
    refine B_iconst dX11_ways_9 ic_m1 ?_
    refine C_icmp_ge (tgt := 15) dX11_ways_10 (by decide) (fun q4 => ?_) (fun q4 => ?_)
    · refine B_aload_n dX11_ways_15 rfl rfl ?_
      refine B_getR dX11_ways_16 fl_X11_89 shC_0 rfl (rfC_0_12 _) ?_
      refine B_iload_n dX11_ways_19 rfl rfl ?_
      refine B_iload_n dX11_ways_20 rfl rfl ?_
      refine B_iconst dX11_ways_21 ic_0 ?_
      refine B_VV (st := []) dX11_ways_22 cl_X11_303 (t_X10_gather x1 x2 0 h) (Nat.le_of_ble_eq_true rfl) shC_77 rfl rfl (Nat.le_of_ble_eq_true rfl) (fun h2 _ => ?_)
      refine B_iload_n dX11_ways_25 rfl rfl ?_
      refine B_iconst dX11_ways_26 ic_m1 ?_
      refine C_icmp_ne (tgt := 40) dX11_ways_27 (by decide) (fun q3 => ?_) (fun q3 => ?_)
      · refine B_aload_n dX11_ways_40 rfl rfl ?_
        refine B_getR dX11_ways_41 fl_X11_89 shC_0 rfl (rfC_0_12 _) ?_
        refine B_getI dX11_ways_44 fl_X11_310 shC_77 rfl ?_
        exact B_ireturn dX11_ways_47 rfl rfl
      · refine B_aload_n dX11_ways_30 rfl rfl ?_
        refine B_getR dX11_ways_31 fl_X11_89 shC_0 rfl (rfC_0_12 _) ?_
        refine B_getI dX11_ways_34 fl_X11_307 shC_77 rfl ?_
        refine B_goto (tgt := 47) dX11_ways_37 (by decide) ?_
        exact B_ireturn dX11_ways_47 rfl rfl
    · refine B_iconst dX11_ways_13 ic_m1 ?_
      exact B_ireturn dX11_ways_14 rfl rfl
def f_X11_ask (x1 : Int32) (x2 : Int32) (h : dH) : Option (Int32 × dH) :=
  if (f_X11_canGather x1 h) then
  if x2 < 0 then
  some ((-1), h)
  else
  if 60 < x2 then
  some ((-1), h)
  else
  (f_X10_gather x1 (-1) x2 h).bind fun h2 =>
  if (h2.1 77 1) = 0 then
  some ((-1), h2)
  else
  (f_X10_evenest h2).bind fun v3 =>
  some (v3, h2)
  else
  some ((-1), h)
set_option maxRecDepth 20000 in
set_option maxHeartbeats 4000000 in
theorem t_X11_ask (x1 : Int32) (x2 : Int32) (h : dH) : T XC 11 yX11_ask cX11_ask 3 (some .int) fiI [.ref 0, .int x1, .int x2] h (f_X11_ask x1 x2 h) := by
  refine T_of [.ref 0, .int x1, .int x2] (by decide) (fun _ => rfl) (fun _ => Nat.le_of_ble_eq_true rfl) ?_
  show B XC 11 RX11 cX11_ask 3 (some .int) fiI 0 [.ref 0, .int x1, .int x2] [] h (f_X11_ask x1 x2 h)
  unfold f_X11_ask
  refine B_aload_n dX11_ask_0 rfl rfl ?_
  refine B_iload_n dX11_ask_1 rfl rfl ?_
  refine B_VTb (st := []) dX11_ask_2 cl_X11_300 (t_X11_canGather x1 h) (Nat.le_of_ble_eq_true rfl) shC_0 rfl rfl (Nat.le_of_ble_eq_true rfl) ?_
  refine C_ifb_eq (tgt := 18) dX11_ask_5 (by decide) (fun q7 => ?_) (fun q7 => ?_)
  · refine B_iconst dX11_ask_18 ic_m1 ?_
    exact B_ireturn dX11_ask_19 rfl rfl
  · refine B_iload_n dX11_ask_8 rfl rfl ?_
    refine C_if_lt (tgt := 18) dX11_ask_9 (by decide) (fun q6 => ?_) (fun q6 => ?_)
    · refine B_iconst dX11_ask_18 ic_m1 ?_
      exact B_ireturn dX11_ask_19 rfl rfl
    · refine B_iload_n dX11_ask_12 rfl rfl ?_
      refine B_bipush dX11_ask_13 bp_60 ?_
      refine C_icmp_le (tgt := 20) dX11_ask_15 (by decide) (fun q5 => ?_) (fun q5 => ?_)
      · refine B_aload_n dX11_ask_20 rfl rfl ?_
        refine B_getR dX11_ask_21 fl_X11_89 shC_0 rfl (rfC_0_12 _) ?_
        refine B_iload_n dX11_ask_24 rfl rfl ?_
        refine B_iconst dX11_ask_25 ic_m1 ?_
        refine B_iload_n dX11_ask_26 rfl rfl ?_
        refine B_VV (st := []) dX11_ask_27 cl_X11_303 (t_X10_gather x1 (-1) x2 h) (Nat.le_of_ble_eq_true rfl) shC_77 rfl rfl (Nat.le_of_ble_eq_true rfl) (fun h2 _ => ?_)
        refine B_aload_n dX11_ask_30 rfl rfl ?_
        refine B_getR dX11_ask_31 fl_X11_89 shC_0 rfl (rfC_0_12 _) ?_
        refine B_getI dX11_ask_34 fl_X11_307 shC_77 rfl ?_
        refine C_if_ne (tgt := 44) dX11_ask_37 (by decide) (fun q4 => ?_) (fun q4 => ?_)
        · refine B_aload_n dX11_ask_44 rfl rfl ?_
          refine B_getR dX11_ask_45 fl_X11_89 shC_0 rfl (rfC_0_12 _) ?_
          refine B_Vp (st := []) dX11_ask_48 cl_X11_313 (t_X10_evenest h2) (Nat.le_of_ble_eq_true rfl) shC_77 rfl rfl (Nat.le_of_ble_eq_true rfl) (fun v3 _ => ?_)
          exact B_ireturn dX11_ask_51 rfl rfl
        · refine B_iconst dX11_ask_40 ic_m1 ?_
          refine B_goto (tgt := 51) dX11_ask_41 (by decide) ?_
          exact B_ireturn dX11_ask_51 rfl rfl
      · refine B_iconst dX11_ask_18 ic_m1 ?_
        exact B_ireturn dX11_ask_19 rfl rfl
def f_X11_always (x1 : Int32) (h : dH) : Option (Int32 × dH) :=
  if (f_X11_canGather x1 h) then
  (f_X10_gather x1 (-1) 0 h).bind fun h2 =>
  if (h2.1 77 1) = 0 then
  some ((-1), h2)
  else
  some ((h2.1 77 3), h2)
  else
  some ((-1), h)
set_option maxRecDepth 20000 in
set_option maxHeartbeats 4000000 in
theorem t_X11_always (x1 : Int32) (h : dH) : T XC 11 yX11_always cX11_always 2 (some .int) fiI [.ref 0, .int x1] h (f_X11_always x1 h) := by
  refine T_of [.ref 0, .int x1] (by decide) (fun _ => rfl) (fun _ => Nat.le_of_ble_eq_true rfl) ?_
  show B XC 11 RX11 cX11_always 2 (some .int) fiI 0 [.ref 0, .int x1] [] h (f_X11_always x1 h)
  unfold f_X11_always
  refine B_aload_n dX11_always_0 rfl rfl ?_
  refine B_iload_n dX11_always_1 rfl rfl ?_
  refine B_VTb (st := []) dX11_always_2 cl_X11_300 (t_X11_canGather x1 h) (Nat.le_of_ble_eq_true rfl) shC_0 rfl rfl (Nat.le_of_ble_eq_true rfl) ?_
  refine C_ifb_ne (tgt := 10) dX11_always_5 (by decide) (fun q4 => ?_) (fun q4 => ?_)
  · refine B_aload_n dX11_always_10 rfl rfl ?_
    refine B_getR dX11_always_11 fl_X11_89 shC_0 rfl (rfC_0_12 _) ?_
    refine B_iload_n dX11_always_14 rfl rfl ?_
    refine B_iconst dX11_always_15 ic_m1 ?_
    refine B_iconst dX11_always_16 ic_0 ?_
    refine B_VV (st := []) dX11_always_17 cl_X11_303 (t_X10_gather x1 (-1) 0 h) (Nat.le_of_ble_eq_true rfl) shC_77 rfl rfl (Nat.le_of_ble_eq_true rfl) (fun h2 _ => ?_)
    refine B_aload_n dX11_always_20 rfl rfl ?_
    refine B_getR dX11_always_21 fl_X11_89 shC_0 rfl (rfC_0_12 _) ?_
    refine B_getI dX11_always_24 fl_X11_307 shC_77 rfl ?_
    refine C_if_ne (tgt := 34) dX11_always_27 (by decide) (fun q3 => ?_) (fun q3 => ?_)
    · refine B_aload_n dX11_always_34 rfl rfl ?_
      refine B_getR dX11_always_35 fl_X11_89 shC_0 rfl (rfC_0_12 _) ?_
      refine B_getI dX11_always_38 fl_X11_316 shC_77 rfl ?_
      exact B_ireturn dX11_always_41 rfl rfl
    · refine B_iconst dX11_always_30 ic_m1 ?_
      refine B_goto (tgt := 41) dX11_always_31 (by decide) ?_
      exact B_ireturn dX11_always_41 rfl rfl
  · refine B_iconst dX11_always_8 ic_m1 ?_
    exact B_ireturn dX11_always_9 rfl rfl
def f_X11_round (x1 : Int32) (h : dH) : Option (Int32) :=
  (f_X1_roundComes x1 h).bind fun v1 =>
  some v1
set_option maxRecDepth 20000 in
set_option maxHeartbeats 4000000 in
theorem t_X11_round (x1 : Int32) (h : dH) : T XC 3 yX11_round cX11_round 2 (some .int) (fiP h) [.ref 0, .int x1] h (f_X11_round x1 h) := by
  refine T_of [.ref 0, .int x1] (by decide) (fun _ => rfl) (fun _ => Nat.le_of_ble_eq_true rfl) ?_
  show B XC 3 RX11 cX11_round 2 (some .int) (fiP h) 0 [.ref 0, .int x1] [] h (f_X11_round x1 h)
  unfold f_X11_round
  refine B_aload_n dX11_round_0 rfl rfl ?_
  refine B_getR dX11_round_1 fl_X11_19 shC_0 rfl (rfC_0_1 _) ?_
  refine B_iload_n dX11_round_4 rfl rfl ?_
  refine B_Vp (st := []) dX11_round_5 cl_X11_319 (t_X1_roundComes x1 h) (Nat.le_of_ble_eq_true rfl) shC_3 rfl rfl (Nat.le_of_ble_eq_true rfl) (fun v1 _ => ?_)
  exact B_ireturn dX11_round_8 rfl rfl
def f_X11_meets (x1 : Int32) (x2 : Int32) (h : dH) : Option (Int32 × dH) :=
  (f_X6_read x1 x2 h).bind fun rv1 =>
  if rv1.1 then
  (f_X6_meetingPlace rv1.2).bind fun v3 =>
  some (v3, rv1.2)
  else
  some ((-1), rv1.2)
set_option maxRecDepth 20000 in
set_option maxHeartbeats 4000000 in
theorem t_X11_meets (x1 : Int32) (x2 : Int32) (h : dH) : T XC 4 yX11_meets cX11_meets 3 (some .int) fiI [.ref 0, .int x1, .int x2] h (f_X11_meets x1 x2 h) := by
  refine T_of [.ref 0, .int x1, .int x2] (by decide) (fun _ => rfl) (fun _ => Nat.le_of_ble_eq_true rfl) ?_
  show B XC 4 RX11 cX11_meets 3 (some .int) fiI 0 [.ref 0, .int x1, .int x2] [] h (f_X11_meets x1 x2 h)
  unfold f_X11_meets
  refine B_aload_n dX11_meets_0 rfl rfl ?_
  refine B_getR dX11_meets_1 fl_X11_105 shC_0 rfl (rfC_0_14 _) ?_
  refine B_iload_n dX11_meets_4 rfl rfl ?_
  refine B_iload_n dX11_meets_5 rfl rfl ?_
  refine B_VC (st := []) dX11_meets_6 cl_X11_322 (t_X6_read x1 x2 h) (Nat.le_of_ble_eq_true rfl) shC_84 rfl rfl (Nat.le_of_ble_eq_true rfl) (fun v1 h2 _ => ?_)
  refine C_ifb_eq (tgt := 22) dX11_meets_9 (by decide) (fun q4 => ?_) (fun q4 => ?_)
  · refine B_iconst dX11_meets_22 ic_m1 ?_
    exact B_ireturn dX11_meets_23 rfl rfl
  · refine B_aload_n dX11_meets_12 rfl rfl ?_
    refine B_getR dX11_meets_13 fl_X11_105 shC_0 rfl (rfC_0_14 _) ?_
    refine B_Vp (st := []) dX11_meets_16 cl_X11_324 (t_X6_meetingPlace h2) (Nat.le_of_ble_eq_true rfl) shC_84 rfl rfl (Nat.le_of_ble_eq_true rfl) (fun v3 _ => ?_)
    refine B_goto (tgt := 23) dX11_meets_19 (by decide) ?_
    exact B_ireturn dX11_meets_23 rfl rfl
def f_X11_odds (x1 : Int32) (x2 : Int32) (x3 : Int32) (h : dH) : Option (Int32 × dH) :=
  if x3 < 0 then
  some ((-1), h)
  else
  if 100 < x3 then
  some ((-1), h)
  else
  (f_X6_read x1 x2 h).bind fun rv1 =>
  if rv1.1 then
  (f_X6_partsThatWalk x3 rv1.2).bind fun rv3 =>
  some (rv3.1, rv3.2)
  else
  some ((-1), rv1.2)
set_option maxRecDepth 20000 in
set_option maxHeartbeats 4000000 in
theorem t_X11_odds (x1 : Int32) (x2 : Int32) (x3 : Int32) (h : dH) : T XC 13 yX11_odds cX11_odds 4 (some .int) fiI [.ref 0, .int x1, .int x2, .int x3] h (f_X11_odds x1 x2 x3 h) := by
  refine T_of [.ref 0, .int x1, .int x2, .int x3] (by decide) (fun _ => rfl) (fun _ => Nat.le_of_ble_eq_true rfl) ?_
  show B XC 13 RX11 cX11_odds 4 (some .int) fiI 0 [.ref 0, .int x1, .int x2, .int x3] [] h (f_X11_odds x1 x2 x3 h)
  unfold f_X11_odds
  refine B_iload_n dX11_odds_0 rfl rfl ?_
  refine C_if_lt (tgt := 22) dX11_odds_1 (by decide) (fun q7 => ?_) (fun q7 => ?_)
  · refine B_iconst dX11_odds_22 ic_m1 ?_
    exact B_ireturn dX11_odds_23 rfl rfl
  · refine B_iload_n dX11_odds_4 rfl rfl ?_
    refine B_bipush dX11_odds_5 bp_100 ?_
    refine C_icmp_gt (tgt := 22) dX11_odds_7 (by decide) (fun q6 => ?_) (fun q6 => ?_)
    · refine B_iconst dX11_odds_22 ic_m1 ?_
      exact B_ireturn dX11_odds_23 rfl rfl
    · refine B_aload_n dX11_odds_10 rfl rfl ?_
      refine B_getR dX11_odds_11 fl_X11_105 shC_0 rfl (rfC_0_14 _) ?_
      refine B_iload_n dX11_odds_14 rfl rfl ?_
      refine B_iload_n dX11_odds_15 rfl rfl ?_
      refine B_VC (st := []) dX11_odds_16 cl_X11_322 (t_X6_read x1 x2 h) (Nat.le_of_ble_eq_true rfl) shC_84 rfl rfl (Nat.le_of_ble_eq_true rfl) (fun v1 h2 _ => ?_)
      refine C_ifb_ne (tgt := 24) dX11_odds_19 (by decide) (fun q5 => ?_) (fun q5 => ?_)
      · refine B_aload_n dX11_odds_24 rfl rfl ?_
        refine B_getR dX11_odds_25 fl_X11_105 shC_0 rfl (rfC_0_14 _) ?_
        refine B_iload_n dX11_odds_28 rfl rfl ?_
        refine B_VI (st := []) dX11_odds_29 cl_X11_327 (t_X6_partsThatWalk x3 h2) (Nat.le_of_ble_eq_true rfl) shC_84 rfl rfl (Nat.le_of_ble_eq_true rfl) (fun v3 h4 _ => ?_)
        exact B_ireturn dX11_odds_32 rfl rfl
      · refine B_iconst dX11_odds_22 ic_m1 ?_
        exact B_ireturn dX11_odds_23 rfl rfl
def f_X11_isShown (x0 : Int32) (h : dH) : Bool :=
  if x0 < 0 then
  false
  else
  if 3 < x0 then
  false
  else
  true
set_option maxRecDepth 20000 in
set_option maxHeartbeats 4000000 in
theorem t_X11_isShown (x0 : Int32) (h : dH) : T XC 0 yX11_isShown cX11_isShown 1 (some .boolean) (fiB h) [.int x0] h (some (f_X11_isShown x0 h)) := by
  refine T_of [.int x0] (by decide) (fun _ => rfl) (fun _ => Nat.le_of_ble_eq_true rfl) ?_
  show B XC 0 RX11 cX11_isShown 1 (some .boolean) (fiB h) 0 [.int x0] [] h (some (f_X11_isShown x0 h))
  unfold f_X11_isShown
  refine B_iload_n dX11_isShown_0 rfl rfl ?_
  refine C_some ?_
  refine C_if_lt (tgt := 13) dX11_isShown_1 (by decide) (fun q2 => ?_) (fun q2 => ?_)
  · refine B_iconst dX11_isShown_13 ic_0 ?_
    exact B_zreturn dX11_isShown_14 rfl rfl rfl
  · refine B_iload_n dX11_isShown_4 rfl rfl ?_
    refine B_iconst dX11_isShown_5 ic_3 ?_
    refine C_some ?_
    refine C_icmp_gt (tgt := 13) dX11_isShown_6 (by decide) (fun q1 => ?_) (fun q1 => ?_)
    · refine B_iconst dX11_isShown_13 ic_0 ?_
      exact B_zreturn dX11_isShown_14 rfl rfl rfl
    · refine B_iconst dX11_isShown_9 ic_1 ?_
      refine B_goto (tgt := 14) dX11_isShown_10 (by decide) ?_
      exact B_zreturn dX11_isShown_14 rfl rfl rfl
def f_X11_comesTo (x1 : Int32) (x2 : Int32) (x3 : Int32) (x4 : Int32) (h : dH) : Option (Bool) :=
  (f_X1_toldOf 3 x1 3 h).bind fun v1 =>
  (f_X1_toldOf 3 x3 3 h).bind fun v2 =>
  if (v1 + x2) = (v2 + x4) then
  (f_X1_apart 3 (f_X8_place h) x1 h).bind fun v3 =>
  (f_X1_apart 3 (f_X8_place h) x3 h).bind fun v4 =>
  if v3 = v4 then
  if x1 < x3 then
  some true
  else
  some false
  else
  if v3 < v4 then
  some true
  else
  some false
  else
  if (v2 + x4) < (v1 + x2) then
  some true
  else
  some false
set_option maxRecDepth 20000 in
set_option maxHeartbeats 4000000 in
theorem t_X11_comesTo (x1 : Int32) (x2 : Int32) (x3 : Int32) (x4 : Int32) (h : dH) : T XC 2 yX11_comesTo cX11_comesTo 9 (some .boolean) (fiB h) [.ref 0, .int x1, .int x2, .int x3, .int x4] h (f_X11_comesTo x1 x2 x3 x4 h) := by
  refine T_of [.ref 0, .int x1, .int x2, .int x3, .int x4, .null, .null, .null, .null] (by decide) (fun _ => rfl) (fun _ => Nat.le_of_ble_eq_true rfl) ?_
  show B XC 2 RX11 cX11_comesTo 9 (some .boolean) (fiB h) 0 [.ref 0, .int x1, .int x2, .int x3, .int x4, .null, .null, .null, .null] [] h (f_X11_comesTo x1 x2 x3 x4 h)
  unfold f_X11_comesTo
  refine B_aload_n dX11_comesTo_0 rfl rfl ?_
  refine B_getR dX11_comesTo_1 fl_X11_19 shC_0 rfl (rfC_0_1 _) ?_
  refine B_iload_n dX11_comesTo_4 rfl rfl ?_
  refine B_iconst dX11_comesTo_5 ic_3 ?_
  refine B_Vp (st := []) dX11_comesTo_6 cl_X11_180 (t_X1_toldOf 3 shC_3 x1 3 h) (Nat.le_of_ble_eq_true rfl) shC_3 rfl rfl (Nat.le_of_ble_eq_true rfl) (fun v1 _ => ?_)
  refine B_iload_n dX11_comesTo_9 rfl rfl ?_
  refine B_iadd dX11_comesTo_10 ?_
  refine B_istore (ls' := [.ref 0, .int x1, .int x2, .int x3, .int x4, .int (v1 + x2), .null, .null, .null]) dX11_comesTo_11 (Nat.le_of_ble_eq_true rfl) rfl rfl ?_
  refine B_aload_n dX11_comesTo_13 rfl rfl ?_
  refine B_getR dX11_comesTo_14 fl_X11_19 shC_0 rfl (rfC_0_1 _) ?_
  refine B_iload_n dX11_comesTo_17 rfl rfl ?_
  refine B_iconst dX11_comesTo_18 ic_3 ?_
  refine B_Vp (st := []) dX11_comesTo_19 cl_X11_180 (t_X1_toldOf 3 shC_3 x3 3 h) (Nat.le_of_ble_eq_true rfl) shC_3 rfl rfl (Nat.le_of_ble_eq_true rfl) (fun v2 _ => ?_)
  refine B_iload dX11_comesTo_22 rfl ?_
  refine B_iadd dX11_comesTo_24 ?_
  refine B_istore (ls' := [.ref 0, .int x1, .int x2, .int x3, .int x4, .int (v1 + x2), .int (v2 + x4), .null, .null]) dX11_comesTo_25 (Nat.le_of_ble_eq_true rfl) rfl rfl ?_
  refine B_iload dX11_comesTo_27 rfl ?_
  refine B_iload dX11_comesTo_29 rfl ?_
  refine C_icmp_eq (tgt := 47) dX11_comesTo_31 (by decide) (fun q9 => ?_) (fun q9 => ?_)
  · refine B_aload_n dX11_comesTo_47 rfl rfl ?_
    refine B_getR dX11_comesTo_48 fl_X11_19 shC_0 rfl (rfC_0_1 _) ?_
    refine B_aload_n dX11_comesTo_51 rfl rfl ?_
    refine B_getR dX11_comesTo_52 fl_X11_56 shC_0 rfl (rfC_0_6 _) ?_
    refine B_Vt (st := [.ref 3]) dX11_comesTo_55 cl_X11_190 (t_X8_place h) (Nat.le_of_ble_eq_true rfl) shC_66 rfl rfl (Nat.le_of_ble_eq_true rfl) ?_
    refine B_iload_n dX11_comesTo_58 rfl rfl ?_
    refine B_Vp (st := []) dX11_comesTo_59 cl_X11_193 (t_X1_apart 3 shC_3 (f_X8_place h) x1 h) (Nat.le_of_ble_eq_true rfl) shC_3 rfl rfl (Nat.le_of_ble_eq_true rfl) (fun v3 _ => ?_)
    refine B_istore (ls' := [.ref 0, .int x1, .int x2, .int x3, .int x4, .int (v1 + x2), .int (v2 + x4), .int v3, .null]) dX11_comesTo_62 (Nat.le_of_ble_eq_true rfl) rfl rfl ?_
    refine B_aload_n dX11_comesTo_64 rfl rfl ?_
    refine B_getR dX11_comesTo_65 fl_X11_19 shC_0 rfl (rfC_0_1 _) ?_
    refine B_aload_n dX11_comesTo_68 rfl rfl ?_
    refine B_getR dX11_comesTo_69 fl_X11_56 shC_0 rfl (rfC_0_6 _) ?_
    refine B_Vt (st := [.ref 3]) dX11_comesTo_72 cl_X11_190 (t_X8_place h) (Nat.le_of_ble_eq_true rfl) shC_66 rfl rfl (Nat.le_of_ble_eq_true rfl) ?_
    refine B_iload_n dX11_comesTo_75 rfl rfl ?_
    refine B_Vp (st := []) dX11_comesTo_76 cl_X11_193 (t_X1_apart 3 shC_3 (f_X8_place h) x3 h) (Nat.le_of_ble_eq_true rfl) shC_3 rfl rfl (Nat.le_of_ble_eq_true rfl) (fun v4 _ => ?_)
    refine B_istore (ls' := [.ref 0, .int x1, .int x2, .int x3, .int x4, .int (v1 + x2), .int (v2 + x4), .int v3, .int v4]) dX11_comesTo_79 (Nat.le_of_ble_eq_true rfl) rfl rfl ?_
    refine B_iload dX11_comesTo_81 rfl ?_
    refine B_iload dX11_comesTo_83 rfl ?_
    refine C_icmp_eq (tgt := 103) dX11_comesTo_85 (by decide) (fun q7 => ?_) (fun q7 => ?_)
    · refine B_iload_n dX11_comesTo_103 rfl rfl ?_
      refine B_iload_n dX11_comesTo_104 rfl rfl ?_
      refine C_icmp_ge (tgt := 112) dX11_comesTo_105 (by decide) (fun q5 => ?_) (fun q5 => ?_)
      · refine B_iconst dX11_comesTo_112 ic_0 ?_
        exact B_zreturn dX11_comesTo_113 rfl rfl rfl
      · refine B_iconst dX11_comesTo_108 ic_1 ?_
        refine B_goto (tgt := 113) dX11_comesTo_109 (by decide) ?_
        exact B_zreturn dX11_comesTo_113 rfl rfl rfl
    · refine B_iload dX11_comesTo_88 rfl ?_
      refine B_iload dX11_comesTo_90 rfl ?_
      refine C_icmp_ge (tgt := 99) dX11_comesTo_92 (by decide) (fun q6 => ?_) (fun q6 => ?_)
      · refine B_iconst dX11_comesTo_99 ic_0 ?_
        refine B_goto (tgt := 113) dX11_comesTo_100 (by decide) ?_
        exact B_zreturn dX11_comesTo_113 rfl rfl rfl
      · refine B_iconst dX11_comesTo_95 ic_1 ?_
        refine B_goto (tgt := 113) dX11_comesTo_96 (by decide) ?_
        exact B_zreturn dX11_comesTo_113 rfl rfl rfl
  · refine B_iload dX11_comesTo_34 rfl ?_
    refine B_iload dX11_comesTo_36 rfl ?_
    refine C_icmp_le (tgt := 45) dX11_comesTo_38 (by decide) (fun q8 => ?_) (fun q8 => ?_)
    · refine B_iconst dX11_comesTo_45 ic_0 ?_
      exact B_zreturn dX11_comesTo_46 rfl rfl rfl
    · refine B_iconst dX11_comesTo_41 ic_1 ?_
      refine B_goto (tgt := 46) dX11_comesTo_42 (by decide) ?_
      exact B_zreturn dX11_comesTo_46 rfl rfl rfl
def f_X11_has (x1 : Int32) (x2 : Int32) (x3 : Int32) (x4 : Int32) (h : dH) : Option (Int32 × dH) :=
  (f_X11_comesTo x1 x2 x3 x4 h).bind fun v1 =>
  if v1 then
  (f_X8_troubleNow x1 x2 h).bind fun rv2 =>
  some (((8 - rv2.1) - x2), rv2.2)
  else
  some ((-x2), h)
set_option maxRecDepth 20000 in
set_option maxHeartbeats 4000000 in
theorem t_X11_has (x1 : Int32) (x2 : Int32) (x3 : Int32) (x4 : Int32) (h : dH) : T XC 4 yX11_has cX11_has 5 (some .int) fiI [.ref 0, .int x1, .int x2, .int x3, .int x4] h (f_X11_has x1 x2 x3 x4 h) := by
  refine T_of [.ref 0, .int x1, .int x2, .int x3, .int x4] (by decide) (fun _ => rfl) (fun _ => Nat.le_of_ble_eq_true rfl) ?_
  show B XC 4 RX11 cX11_has 5 (some .int) fiI 0 [.ref 0, .int x1, .int x2, .int x3, .int x4] [] h (f_X11_has x1 x2 x3 x4 h)
  unfold f_X11_has
  refine B_aload_n dX11_has_0 rfl rfl ?_
  refine B_iload_n dX11_has_1 rfl rfl ?_
  refine B_iload_n dX11_has_2 rfl rfl ?_
  refine B_iload_n dX11_has_3 rfl rfl ?_
  refine B_iload dX11_has_4 rfl ?_
  refine B_Vpb (st := []) dX11_has_6 cl_X11_340 (t_X11_comesTo x1 x2 x3 x4 h) (Nat.le_of_ble_eq_true rfl) shC_0 rfl rfl (Nat.le_of_ble_eq_true rfl) (fun v1 _ => ?_)
  refine C_ifb_ne (tgt := 15) dX11_has_9 (by decide) (fun q4 => ?_) (fun q4 => ?_)
  · refine B_bipush dX11_has_15 bp_8 ?_
    refine B_aload_n dX11_has_17 rfl rfl ?_
    refine B_getR dX11_has_18 fl_X11_56 shC_0 rfl (rfC_0_6 _) ?_
    refine B_iload_n dX11_has_21 rfl rfl ?_
    refine B_iload_n dX11_has_22 rfl rfl ?_
    refine B_VI (st := [.int 8]) dX11_has_23 cl_X11_272 (t_X8_troubleNow x1 x2 h) (Nat.le_of_ble_eq_true rfl) shC_66 rfl rfl (Nat.le_of_ble_eq_true rfl) (fun v2 h3 _ => ?_)
    refine B_isub dX11_has_26 ?_
    refine B_iload_n dX11_has_27 rfl rfl ?_
    refine B_isub dX11_has_28 ?_
    exact B_ireturn dX11_has_29 rfl rfl
  · refine B_iload_n dX11_has_12 rfl rfl ?_
    refine B_ineg dX11_has_13 ?_
    exact B_ireturn dX11_has_14 rfl rfl
def f_X11_areTwo (x1 : Int32) (x2 : Int32) (h : dH) : Bool :=
  if (f_X1_isPlace 3 x1 h) then
  if (f_X1_isPlace 3 x2 h) then
  if x1 = x2 then
  false
  else
  true
  else
  false
  else
  false
set_option maxRecDepth 20000 in
set_option maxHeartbeats 4000000 in
theorem t_X11_areTwo (x1 : Int32) (x2 : Int32) (h : dH) : T XC 1 yX11_areTwo cX11_areTwo 3 (some .boolean) (fiB h) [.ref 0, .int x1, .int x2] h (some (f_X11_areTwo x1 x2 h)) := by
  refine T_of [.ref 0, .int x1, .int x2] (by decide) (fun _ => rfl) (fun _ => Nat.le_of_ble_eq_true rfl) ?_
  show B XC 1 RX11 cX11_areTwo 3 (some .boolean) (fiB h) 0 [.ref 0, .int x1, .int x2] [] h (some (f_X11_areTwo x1 x2 h))
  unfold f_X11_areTwo
  refine B_aload_n dX11_areTwo_0 rfl rfl ?_
  refine B_getR dX11_areTwo_1 fl_X11_19 shC_0 rfl (rfC_0_1 _) ?_
  refine B_iload_n dX11_areTwo_4 rfl rfl ?_
  refine B_VTb (st := []) dX11_areTwo_5 cl_X11_164 (t_X1_isPlace 3 shC_3 x1 h) (Nat.le_of_ble_eq_true rfl) shC_3 rfl rfl (Nat.le_of_ble_eq_true rfl) ?_
  refine C_some ?_
  refine C_ifb_eq (tgt := 31) dX11_areTwo_8 (by decide) (fun q3 => ?_) (fun q3 => ?_)
  · refine B_iconst dX11_areTwo_31 ic_0 ?_
    exact B_zreturn dX11_areTwo_32 rfl rfl rfl
  · refine B_aload_n dX11_areTwo_11 rfl rfl ?_
    refine B_getR dX11_areTwo_12 fl_X11_19 shC_0 rfl (rfC_0_1 _) ?_
    refine B_iload_n dX11_areTwo_15 rfl rfl ?_
    refine B_VTb (st := []) dX11_areTwo_16 cl_X11_164 (t_X1_isPlace 3 shC_3 x2 h) (Nat.le_of_ble_eq_true rfl) shC_3 rfl rfl (Nat.le_of_ble_eq_true rfl) ?_
    refine C_some ?_
    refine C_ifb_eq (tgt := 31) dX11_areTwo_19 (by decide) (fun q2 => ?_) (fun q2 => ?_)
    · refine B_iconst dX11_areTwo_31 ic_0 ?_
      exact B_zreturn dX11_areTwo_32 rfl rfl rfl
    · refine B_iload_n dX11_areTwo_22 rfl rfl ?_
      refine B_iload_n dX11_areTwo_23 rfl rfl ?_
      refine C_some ?_
      refine C_icmp_eq (tgt := 31) dX11_areTwo_24 (by decide) (fun q1 => ?_) (fun q1 => ?_)
      · refine B_iconst dX11_areTwo_31 ic_0 ?_
        exact B_zreturn dX11_areTwo_32 rfl rfl rfl
      · refine B_iconst dX11_areTwo_27 ic_1 ?_
        refine B_goto (tgt := 32) dX11_areTwo_28 (by decide) ?_
        exact B_zreturn dX11_areTwo_32 rfl rfl rfl
def f_X11_game (x1 : Int32) (x2 : Int32) (x3 : Int32) (x4 : Int32) (x5 : Int32) (h : dH) : Option (Int32 × dH) :=
  if (f_X11_areTwo x1 x2 h) then
  if (f_X11_isShown x3 h) then
  if (f_X11_isShown x4 h) then
  if x5 < 0 then
  some ((-1000000), h)
  else
  if 1 < x5 then
  some ((-1000000), h)
  else
  if x5 = 0 then
  (f_X11_has x1 x3 x2 x4 h).bind fun rv3 =>
  some (rv3.1, rv3.2)
  else
  (f_X11_has x2 x4 x1 x3 h).bind fun rv1 =>
  some (rv1.1, rv1.2)
  else
  some ((-1000000), h)
  else
  some ((-1000000), h)
  else
  some ((-1000000), h)
set_option maxRecDepth 20000 in
set_option maxHeartbeats 4000000 in
theorem t_X11_game (x1 : Int32) (x2 : Int32) (x3 : Int32) (x4 : Int32) (x5 : Int32) (h : dH) : T XC 5 yX11_game cX11_game 6 (some .int) fiI [.ref 0, .int x1, .int x2, .int x3, .int x4, .int x5] h (f_X11_game x1 x2 x3 x4 x5 h) := by
  refine T_of [.ref 0, .int x1, .int x2, .int x3, .int x4, .int x5] (by decide) (fun _ => rfl) (fun _ => Nat.le_of_ble_eq_true rfl) ?_
  show B XC 5 RX11 cX11_game 6 (some .int) fiI 0 [.ref 0, .int x1, .int x2, .int x3, .int x4, .int x5] [] h (f_X11_game x1 x2 x3 x4 x5 h)
  unfold f_X11_game
  refine B_aload_n dX11_game_0 rfl rfl ?_
  refine B_iload_n dX11_game_1 rfl rfl ?_
  refine B_iload_n dX11_game_2 rfl rfl ?_
  refine B_VTb (st := []) dX11_game_3 cl_X11_330 (t_X11_areTwo x1 x2 h) (Nat.le_of_ble_eq_true rfl) shC_0 rfl rfl (Nat.le_of_ble_eq_true rfl) ?_
  refine C_ifb_eq (tgt := 35) dX11_game_6 (by decide) (fun q10 => ?_) (fun q10 => ?_)
  · refine B_ldc dX11_game_35 kc_X11_249 ?_
    exact B_ireturn dX11_game_37 rfl rfl
  · refine B_iload_n dX11_game_9 rfl rfl ?_
    refine B_STb (st := []) dX11_game_10 cl_X11_333 (t_X11_isShown x3 h) (Nat.le_of_ble_eq_true rfl) rfl rfl (Nat.le_of_ble_eq_true rfl) ?_
    refine C_ifb_eq (tgt := 35) dX11_game_13 (by decide) (fun q9 => ?_) (fun q9 => ?_)
    · refine B_ldc dX11_game_35 kc_X11_249 ?_
      exact B_ireturn dX11_game_37 rfl rfl
    · refine B_iload dX11_game_16 rfl ?_
      refine B_STb (st := []) dX11_game_18 cl_X11_333 (t_X11_isShown x4 h) (Nat.le_of_ble_eq_true rfl) rfl rfl (Nat.le_of_ble_eq_true rfl) ?_
      refine C_ifb_eq (tgt := 35) dX11_game_21 (by decide) (fun q8 => ?_) (fun q8 => ?_)
      · refine B_ldc dX11_game_35 kc_X11_249 ?_
        exact B_ireturn dX11_game_37 rfl rfl
      · refine B_iload dX11_game_24 rfl ?_
        refine C_if_lt (tgt := 35) dX11_game_26 (by decide) (fun q7 => ?_) (fun q7 => ?_)
        · refine B_ldc dX11_game_35 kc_X11_249 ?_
          exact B_ireturn dX11_game_37 rfl rfl
        · refine B_iload dX11_game_29 rfl ?_
          refine B_iconst dX11_game_31 ic_1 ?_
          refine C_icmp_le (tgt := 38) dX11_game_32 (by decide) (fun q6 => ?_) (fun q6 => ?_)
          · refine B_iload dX11_game_38 rfl ?_
            refine C_if_ne (tgt := 55) dX11_game_40 (by decide) (fun q5 => ?_) (fun q5 => ?_)
            · refine B_aload_n dX11_game_55 rfl rfl ?_
              refine B_iload_n dX11_game_56 rfl rfl ?_
              refine B_iload dX11_game_57 rfl ?_
              refine B_iload_n dX11_game_59 rfl rfl ?_
              refine B_iload_n dX11_game_60 rfl rfl ?_
              refine B_VI (st := []) dX11_game_61 cl_X11_336 (t_X11_has x2 x4 x1 x3 h) (Nat.le_of_ble_eq_true rfl) shC_0 rfl rfl (Nat.le_of_ble_eq_true rfl) (fun v1 h2 _ => ?_)
              exact B_ireturn dX11_game_64 rfl rfl
            · refine B_aload_n dX11_game_43 rfl rfl ?_
              refine B_iload_n dX11_game_44 rfl rfl ?_
              refine B_iload_n dX11_game_45 rfl rfl ?_
              refine B_iload_n dX11_game_46 rfl rfl ?_
              refine B_iload dX11_game_47 rfl ?_
              refine B_VI (st := []) dX11_game_49 cl_X11_336 (t_X11_has x1 x3 x2 x4 h) (Nat.le_of_ble_eq_true rfl) shC_0 rfl rfl (Nat.le_of_ble_eq_true rfl) (fun v3 h4 _ => ?_)
              refine B_goto (tgt := 64) dX11_game_52 (by decide) ?_
              exact B_ireturn dX11_game_64 rfl rfl
          · refine B_ldc dX11_game_35 kc_X11_249 ?_
            exact B_ireturn dX11_game_37 rfl rfl
def f_X11_hasNoBetter_L14 : Nat → Int32 → Int32 → Int32 → Int32 → Int32 → dH → Option (Bool × dH)
  | 0, _, _, _, _, _, _ => none
  | n + 1, y1, y3, y4, y5, y6, h =>
    if 3 < y6 then
    some (true, h)
    else
    (f_X11_has y1 y6 y3 y4 h).bind fun rv3 =>
    if y5 < rv3.1 then
    some (false, rv3.2)
    else
    (f_X11_hasNoBetter_L14 n) y1 y3 y4 y5 (y6 + 1) rv3.2
set_option maxRecDepth 20000 in
set_option maxHeartbeats 4000000 in
theorem b_X11_hasNoBetter_L14 : ∀ (n : Nat) (y1 : Int32) (y3 : Int32) (y4 : Int32) (y5 : Int32) (y6 : Int32) (h : dH), B XC 5 RX11 cX11_hasNoBetter 7 (some .boolean) fiC 14 [.ref 0, .int y1, .null, .int y3, .int y4, .int y5, .int y6] [] h (f_X11_hasNoBetter_L14 n y1 y3 y4 y5 y6 h) := by
  intro n
  induction n with
  | zero =>
    intro y1 y3 y4 y5 y6 h
    exact B_none
  | succ n ih =>
    intro y1 y3 y4 y5 y6 h
    rw [f_X11_hasNoBetter_L14]
    refine B_iload dX11_hasNoBetter_14 rfl ?_
    refine B_iconst dX11_hasNoBetter_16 ic_3 ?_
    refine C_icmp_gt (tgt := 43) dX11_hasNoBetter_17 (by decide) (fun q6 => ?_) (fun q6 => ?_)
    · refine B_iconst dX11_hasNoBetter_43 ic_1 ?_
      exact B_zreturn dX11_hasNoBetter_44 rfl rfl rfl
    · refine B_aload_n dX11_hasNoBetter_20 rfl rfl ?_
      refine B_iload_n dX11_hasNoBetter_21 rfl rfl ?_
      refine B_iload dX11_hasNoBetter_22 rfl ?_
      refine B_iload_n dX11_hasNoBetter_24 rfl rfl ?_
      refine B_iload dX11_hasNoBetter_25 rfl ?_
      refine B_VI (st := []) dX11_hasNoBetter_27 cl_X11_336 (t_X11_has y1 y6 y3 y4 h) (Nat.le_of_ble_eq_true rfl) shC_0 rfl rfl (Nat.le_of_ble_eq_true rfl) (fun v3 h4 _ => ?_)
      refine B_iload dX11_hasNoBetter_30 rfl ?_
      refine C_icmp_le (tgt := 37) dX11_hasNoBetter_32 (by decide) (fun q5 => ?_) (fun q5 => ?_)
      · refine B_iinc (w := (y6 + 1)) (ls' := [.ref 0, .int y1, .null, .int y3, .int y4, .int y5, .int (y6 + 1)]) dX11_hasNoBetter_37 rfl (congrArg (fun z => y6 + z) ic_1) (Nat.le_of_ble_eq_true rfl) rfl rfl ?_
        refine B_goto (tgt := 14) dX11_hasNoBetter_40 (by decide) ?_
        exact ih y1 y3 y4 y5 (y6 + 1)  h4
      · refine B_iconst dX11_hasNoBetter_35 ic_0 ?_
        exact B_zreturn dX11_hasNoBetter_36 rfl rfl rfl
def f_X11_hasNoBetter (x1 : Int32) (x2 : Int32) (x3 : Int32) (x4 : Int32) (h : dH) : Option (Bool × dH) :=
  (f_X11_has x1 x2 x3 x4 h).bind fun rv1 =>
  f_X11_hasNoBetter_L14 dFu x1 x3 x4 rv1.1 0 rv1.2
set_option maxRecDepth 20000 in
set_option maxHeartbeats 4000000 in
theorem t_X11_hasNoBetter (x1 : Int32) (x2 : Int32) (x3 : Int32) (x4 : Int32) (h : dH) : T XC 5 yX11_hasNoBetter cX11_hasNoBetter 7 (some .boolean) fiC [.ref 0, .int x1, .int x2, .int x3, .int x4] h (f_X11_hasNoBetter x1 x2 x3 x4 h) := by
  refine T_of [.ref 0, .int x1, .int x2, .int x3, .int x4, .null, .null] (by decide) (fun _ => rfl) (fun _ => Nat.le_of_ble_eq_true rfl) ?_
  show B XC 5 RX11 cX11_hasNoBetter 7 (some .boolean) fiC 0 [.ref 0, .int x1, .int x2, .int x3, .int x4, .null, .null] [] h (f_X11_hasNoBetter x1 x2 x3 x4 h)
  unfold f_X11_hasNoBetter
  refine B_aload_n dX11_hasNoBetter_0 rfl rfl ?_
  refine B_iload_n dX11_hasNoBetter_1 rfl rfl ?_
  refine B_iload_n dX11_hasNoBetter_2 rfl rfl ?_
  refine B_iload_n dX11_hasNoBetter_3 rfl rfl ?_
  refine B_iload dX11_hasNoBetter_4 rfl ?_
  refine B_VI (st := []) dX11_hasNoBetter_6 cl_X11_336 (t_X11_has x1 x2 x3 x4 h) (Nat.le_of_ble_eq_true rfl) shC_0 rfl rfl (Nat.le_of_ble_eq_true rfl) (fun v1 h2 _ => ?_)
  refine B_istore (ls' := [.ref 0, .int x1, .int x2, .int x3, .int x4, .int v1, .null]) dX11_hasNoBetter_9 (Nat.le_of_ble_eq_true rfl) rfl rfl ?_
  refine B_iconst dX11_hasNoBetter_11 ic_0 ?_
  refine B_istore (ls' := [.ref 0, .int x1, .int x2, .int x3, .int x4, .int v1, .int 0]) dX11_hasNoBetter_12 (Nat.le_of_ble_eq_true rfl) rfl rfl ?_
  refine B_drop 2 (ls' := [.ref 0, .int x1, .null, .int x3, .int x4, .int v1, .int 0]) rfl ?_
  exact b_X11_hasNoBetter_L14 dFu x1 x3 x4 v1 0 h2
def f_X11_rests_J81 (kL22 : Int32 → Int32 → Int32 → Int32 → Int32 → dH → Option (Int32 × dH)) (kL31 : Int32 → Int32 → Int32 → Int32 → Int32 → Int32 → dH → Option (Int32 × dH)) (y1 : Int32) (y2 : Int32) (y3 : Int32) (y4 : Int32) (y5 : Int32) (y6 : Int32) (h : dH) : Option (Int32 × dH) :=
  kL31 y1 y2 y3 y4 y5 (y6 + 1) h
set_option maxRecDepth 20000 in
set_option maxHeartbeats 4000000 in
theorem b_X11_rests_J81 {kL22 : Int32 → Int32 → Int32 → Int32 → Int32 → dH → Option (Int32 × dH)} {kL31 : Int32 → Int32 → Int32 → Int32 → Int32 → Int32 → dH → Option (Int32 × dH)} (hkL22 : ∀ (y1 : Int32) (y2 : Int32) (y3 : Int32) (y4 : Int32) (y5 : Int32) (h : dH), B XC 6 RX11 cX11_rests 7 (some .int) fiI 22 [.ref 0, .int y1, .int y2, .int y3, .int y4, .int y5, .null] [] h (kL22 y1 y2 y3 y4 y5 h)) (hkL31 : ∀ (y1 : Int32) (y2 : Int32) (y3 : Int32) (y4 : Int32) (y5 : Int32) (y6 : Int32) (h : dH), B XC 6 RX11 cX11_rests 7 (some .int) fiI 31 [.ref 0, .int y1, .int y2, .int y3, .int y4, .int y5, .int y6] [] h (kL31 y1 y2 y3 y4 y5 y6 h)) (y1 : Int32) (y2 : Int32) (y3 : Int32) (y4 : Int32) (y5 : Int32) (y6 : Int32) (h : dH) : B XC 6 RX11 cX11_rests 7 (some .int) fiI 81 [.ref 0, .int y1, .int y2, .int y3, .int y4, .int y5, .int y6] [] h (f_X11_rests_J81 kL22 kL31 y1 y2 y3 y4 y5 y6 h) := by
  unfold f_X11_rests_J81
  refine B_iinc (w := (y6 + 1)) (ls' := [.ref 0, .int y1, .int y2, .int y3, .int y4, .int y5, .int (y6 + 1)]) dX11_rests_81 rfl (congrArg (fun z => y6 + z) ic_1) (Nat.le_of_ble_eq_true rfl) rfl rfl ?_
  refine B_goto (tgt := 31) dX11_rests_84 (by decide) ?_
  exact hkL31 y1 y2 y3 y4 y5 (y6 + 1)  h
def f_X11_rests_L31 (kL22 : Int32 → Int32 → Int32 → Int32 → Int32 → dH → Option (Int32 × dH)) : Nat → Int32 → Int32 → Int32 → Int32 → Int32 → Int32 → dH → Option (Int32 × dH)
  | 0, _, _, _, _, _, _, _ => none
  | n + 1, y1, y2, y3, y4, y5, y6, h =>
    if 3 < y6 then
    kL22 y1 y2 y3 y4 (y5 + 1) h
    else
    (f_X11_hasNoBetter y1 y5 y2 y6 h).bind fun rv5 =>
    if rv5.1 then
    (f_X11_hasNoBetter y2 y6 y1 y5 rv5.2).bind fun rv7 =>
    if rv7.1 then
    if y4 = y3 then
    some (((10 * y5) + y6), rv7.2)
    else
    f_X11_rests_J81 kL22 (f_X11_rests_L31 kL22 n) y1 y2 y3 (y4 + 1) y5 y6 rv7.2
    else
    f_X11_rests_J81 kL22 (f_X11_rests_L31 kL22 n) y1 y2 y3 y4 y5 y6 rv7.2
    else
    f_X11_rests_J81 kL22 (f_X11_rests_L31 kL22 n) y1 y2 y3 y4 y5 y6 rv5.2
set_option maxRecDepth 20000 in
set_option maxHeartbeats 4000000 in
theorem b_X11_rests_L31 {kL22 : Int32 → Int32 → Int32 → Int32 → Int32 → dH → Option (Int32 × dH)} (hkL22 : ∀ (y1 : Int32) (y2 : Int32) (y3 : Int32) (y4 : Int32) (y5 : Int32) (h : dH), B XC 6 RX11 cX11_rests 7 (some .int) fiI 22 [.ref 0, .int y1, .int y2, .int y3, .int y4, .int y5, .null] [] h (kL22 y1 y2 y3 y4 y5 h)) : ∀ (n : Nat) (y1 : Int32) (y2 : Int32) (y3 : Int32) (y4 : Int32) (y5 : Int32) (y6 : Int32) (h : dH), B XC 6 RX11 cX11_rests 7 (some .int) fiI 31 [.ref 0, .int y1, .int y2, .int y3, .int y4, .int y5, .int y6] [] h (f_X11_rests_L31 kL22 n y1 y2 y3 y4 y5 y6 h) := by
  intro n
  induction n with
  | zero =>
    intro y1 y2 y3 y4 y5 y6 h
    exact B_none
  | succ n ih =>
    intro y1 y2 y3 y4 y5 y6 h
    rw [f_X11_rests_L31]
    refine B_iload dX11_rests_31 rfl ?_
    refine B_iconst dX11_rests_33 ic_3 ?_
    refine C_icmp_gt (tgt := 87) dX11_rests_34 (by decide) (fun q12 => ?_) (fun q12 => ?_)
    · refine B_iinc (w := (y5 + 1)) (ls' := [.ref 0, .int y1, .int y2, .int y3, .int y4, .int (y5 + 1), .int y6]) dX11_rests_87 rfl (congrArg (fun z => y5 + z) ic_1) (Nat.le_of_ble_eq_true rfl) rfl rfl ?_
      refine B_goto (tgt := 22) dX11_rests_90 (by decide) ?_
      refine B_drop 6 (ls' := [.ref 0, .int y1, .int y2, .int y3, .int y4, .int (y5 + 1), .null]) rfl ?_
      exact hkL22 y1 y2 y3 y4 (y5 + 1)  h
    · refine B_aload_n dX11_rests_37 rfl rfl ?_
      refine B_iload_n dX11_rests_38 rfl rfl ?_
      refine B_iload dX11_rests_39 rfl ?_
      refine B_iload_n dX11_rests_41 rfl rfl ?_
      refine B_iload dX11_rests_42 rfl ?_
      refine B_VC (st := []) dX11_rests_44 cl_X11_344 (t_X11_hasNoBetter y1 y5 y2 y6 h) (Nat.le_of_ble_eq_true rfl) shC_0 rfl rfl (Nat.le_of_ble_eq_true rfl) (fun v5 h6 _ => ?_)
      refine C_ifb_eq (tgt := 81) dX11_rests_47 (by decide) (fun q11 => ?_) (fun q11 => ?_)
      · exact b_X11_rests_J81 hkL22 (fun qy1 qy2 qy3 qy4 qy5 qy6 qh => ih qy1 qy2 qy3 qy4 qy5 qy6 qh) y1 y2 y3 y4 y5 y6 h6
      · refine B_aload_n dX11_rests_50 rfl rfl ?_
        refine B_iload_n dX11_rests_51 rfl rfl ?_
        refine B_iload dX11_rests_52 rfl ?_
        refine B_iload_n dX11_rests_54 rfl rfl ?_
        refine B_iload dX11_rests_55 rfl ?_
        refine B_VC (st := []) dX11_rests_57 cl_X11_344 (t_X11_hasNoBetter y2 y6 y1 y5 h6) (Nat.le_of_ble_eq_true rfl) shC_0 rfl rfl (Nat.le_of_ble_eq_true rfl) (fun v7 h8 _ => ?_)
        refine C_ifb_eq (tgt := 81) dX11_rests_60 (by decide) (fun q10 => ?_) (fun q10 => ?_)
        · exact b_X11_rests_J81 hkL22 (fun qy1 qy2 qy3 qy4 qy5 qy6 qh => ih qy1 qy2 qy3 qy4 qy5 qy6 qh) y1 y2 y3 y4 y5 y6 h8
        · refine B_iload dX11_rests_63 rfl ?_
          refine B_iload_n dX11_rests_65 rfl rfl ?_
          refine C_icmp_ne (tgt := 78) dX11_rests_66 (by decide) (fun q9 => ?_) (fun q9 => ?_)
          · refine B_iinc (w := (y4 + 1)) (ls' := [.ref 0, .int y1, .int y2, .int y3, .int (y4 + 1), .int y5, .int y6]) dX11_rests_78 rfl (congrArg (fun z => y4 + z) ic_1) (Nat.le_of_ble_eq_true rfl) rfl rfl ?_
            exact b_X11_rests_J81 hkL22 (fun qy1 qy2 qy3 qy4 qy5 qy6 qh => ih qy1 qy2 qy3 qy4 qy5 qy6 qh) y1 y2 y3 (y4 + 1) y5 y6 h8
          · refine B_bipush dX11_rests_69 bp_10 ?_
            refine B_iload dX11_rests_71 rfl ?_
            refine B_imul dX11_rests_73 ?_
            refine B_iload dX11_rests_74 rfl ?_
            refine B_iadd dX11_rests_76 ?_
            exact B_ireturn dX11_rests_77 rfl rfl
def f_X11_rests_L22 : Nat → Int32 → Int32 → Int32 → Int32 → Int32 → dH → Option (Int32 × dH)
  | 0, _, _, _, _, _, _ => none
  | n + 1, y1, y2, y3, y4, y5, h =>
    if 3 < y5 then
    if y3 = (-1) then
    some (y4, h)
    else
    some ((-1), h)
    else
    f_X11_rests_L31 (f_X11_rests_L22 n) dFu y1 y2 y3 y4 y5 0 h
set_option maxRecDepth 20000 in
set_option maxHeartbeats 4000000 in
theorem b_X11_rests_L22 : ∀ (n : Nat) (y1 : Int32) (y2 : Int32) (y3 : Int32) (y4 : Int32) (y5 : Int32) (h : dH), B XC 6 RX11 cX11_rests 7 (some .int) fiI 22 [.ref 0, .int y1, .int y2, .int y3, .int y4, .int y5, .null] [] h (f_X11_rests_L22 n y1 y2 y3 y4 y5 h) := by
  intro n
  induction n with
  | zero =>
    intro y1 y2 y3 y4 y5 h
    exact B_none
  | succ n ih =>
    intro y1 y2 y3 y4 y5 h
    rw [f_X11_rests_L22]
    refine B_iload dX11_rests_22 rfl ?_
    refine B_iconst dX11_rests_24 ic_3 ?_
    refine C_icmp_gt (tgt := 93) dX11_rests_25 (by decide) (fun q4 => ?_) (fun q4 => ?_)
    · refine B_iload_n dX11_rests_93 rfl rfl ?_
      refine B_iconst dX11_rests_94 ic_m1 ?_
      refine C_icmp_ne (tgt := 103) dX11_rests_95 (by decide) (fun q3 => ?_) (fun q3 => ?_)
      · refine B_iconst dX11_rests_103 ic_m1 ?_
        exact B_ireturn dX11_rests_104 rfl rfl
      · refine B_iload dX11_rests_98 rfl ?_
        refine B_goto (tgt := 104) dX11_rests_100 (by decide) ?_
        exact B_ireturn dX11_rests_104 rfl rfl
    · refine B_iconst dX11_rests_28 ic_0 ?_
      refine B_istore (ls' := [.ref 0, .int y1, .int y2, .int y3, .int y4, .int y5, .int 0]) dX11_rests_29 (Nat.le_of_ble_eq_true rfl) rfl rfl ?_
      exact b_X11_rests_L31 (fun qy1 qy2 qy3 qy4 qy5 qh => ih qy1 qy2 qy3 qy4 qy5 qh) dFu y1 y2 y3 y4 y5 0 h
def f_X11_rests (x1 : Int32) (x2 : Int32) (x3 : Int32) (h : dH) : Option (Int32 × dH) :=
  if (f_X11_areTwo x1 x2 h) then
  if x3 < (-1) then
  some ((-1), h)
  else
  f_X11_rests_L22 dFu x1 x2 x3 0 0 h
  else
  some ((-1), h)
set_option maxRecDepth 20000 in
set_option maxHeartbeats 4000000 in
theorem t_X11_rests (x1 : Int32) (x2 : Int32) (x3 : Int32) (h : dH) : T XC 6 yX11_rests cX11_rests 7 (some .int) fiI [.ref 0, .int x1, .int x2, .int x3] h (f_X11_rests x1 x2 x3 h) := by
  refine T_of [.ref 0, .int x1, .int x2, .int x3, .null, .null, .null] (by decide) (fun _ => rfl) (fun _ => Nat.le_of_ble_eq_true rfl) ?_
  show B XC 6 RX11 cX11_rests 7 (some .int) fiI 0 [.ref 0, .int x1, .int x2, .int x3, .null, .null, .null] [] h (f_X11_rests x1 x2 x3 h)
  unfold f_X11_rests
  refine B_aload_n dX11_rests_0 rfl rfl ?_
  refine B_iload_n dX11_rests_1 rfl rfl ?_
  refine B_iload_n dX11_rests_2 rfl rfl ?_
  refine B_VTb (st := []) dX11_rests_3 cl_X11_330 (t_X11_areTwo x1 x2 h) (Nat.le_of_ble_eq_true rfl) shC_0 rfl rfl (Nat.le_of_ble_eq_true rfl) ?_
  refine C_ifb_eq (tgt := 14) dX11_rests_6 (by decide) (fun q2 => ?_) (fun q2 => ?_)
  · refine B_iconst dX11_rests_14 ic_m1 ?_
    exact B_ireturn dX11_rests_15 rfl rfl
  · refine B_iload_n dX11_rests_9 rfl rfl ?_
    refine B_iconst dX11_rests_10 ic_m1 ?_
    refine C_icmp_ge (tgt := 16) dX11_rests_11 (by decide) (fun q1 => ?_) (fun q1 => ?_)
    · refine B_iconst dX11_rests_16 ic_0 ?_
      refine B_istore (ls' := [.ref 0, .int x1, .int x2, .int x3, .int 0, .null, .null]) dX11_rests_17 (Nat.le_of_ble_eq_true rfl) rfl rfl ?_
      refine B_iconst dX11_rests_19 ic_0 ?_
      refine B_istore (ls' := [.ref 0, .int x1, .int x2, .int x3, .int 0, .int 0, .null]) dX11_rests_20 (Nat.le_of_ble_eq_true rfl) rfl rfl ?_
      exact b_X11_rests_L22 dFu x1 x2 x3 0 0 h
    · refine B_iconst dX11_rests_14 ic_m1 ?_
      exact B_ireturn dX11_rests_15 rfl rfl
def f_X11_cost (x1 : Int32) (h : dH) : Option (Int32) :=
  if (f_X1_isPlace 3 x1 h) then
  (f_X1_apart 3 (f_X8_place h) x1 h).bind fun v1 =>
  (f_X1_apart 3 (-1) x1 h).bind fun v2 =>
  some (v1 + v2)
  else
  some (-1)
set_option maxRecDepth 20000 in
set_option maxHeartbeats 4000000 in
theorem t_X11_cost (x1 : Int32) (h : dH) : T XC 1 yX11_cost cX11_cost 2 (some .int) (fiP h) [.ref 0, .int x1] h (f_X11_cost x1 h) := by
  refine T_of [.ref 0, .int x1] (by decide) (fun _ => rfl) (fun _ => Nat.le_of_ble_eq_true rfl) ?_
  show B XC 1 RX11 cX11_cost 2 (some .int) (fiP h) 0 [.ref 0, .int x1] [] h (f_X11_cost x1 h)
  unfold f_X11_cost
  refine B_aload_n dX11_cost_0 rfl rfl ?_
  refine B_getR dX11_cost_1 fl_X11_19 shC_0 rfl (rfC_0_1 _) ?_
  refine B_iload_n dX11_cost_4 rfl rfl ?_
  refine B_VTb (st := []) dX11_cost_5 cl_X11_164 (t_X1_isPlace 3 shC_3 x1 h) (Nat.le_of_ble_eq_true rfl) shC_3 rfl rfl (Nat.le_of_ble_eq_true rfl) ?_
  refine C_ifb_eq (tgt := 39) dX11_cost_8 (by decide) (fun q3 => ?_) (fun q3 => ?_)
  · refine B_iconst dX11_cost_39 ic_m1 ?_
    exact B_ireturn dX11_cost_40 rfl rfl
  · refine B_aload_n dX11_cost_11 rfl rfl ?_
    refine B_getR dX11_cost_12 fl_X11_19 shC_0 rfl (rfC_0_1 _) ?_
    refine B_aload_n dX11_cost_15 rfl rfl ?_
    refine B_getR dX11_cost_16 fl_X11_56 shC_0 rfl (rfC_0_6 _) ?_
    refine B_Vt (st := [.ref 3]) dX11_cost_19 cl_X11_190 (t_X8_place h) (Nat.le_of_ble_eq_true rfl) shC_66 rfl rfl (Nat.le_of_ble_eq_true rfl) ?_
    refine B_iload_n dX11_cost_22 rfl rfl ?_
    refine B_Vp (st := []) dX11_cost_23 cl_X11_193 (t_X1_apart 3 shC_3 (f_X8_place h) x1 h) (Nat.le_of_ble_eq_true rfl) shC_3 rfl rfl (Nat.le_of_ble_eq_true rfl) (fun v1 _ => ?_)
    refine B_aload_n dX11_cost_26 rfl rfl ?_
    refine B_getR dX11_cost_27 fl_X11_19 shC_0 rfl (rfC_0_1 _) ?_
    refine B_iconst dX11_cost_30 ic_m1 ?_
    refine B_iload_n dX11_cost_31 rfl rfl ?_
    refine B_Vp (st := [.int v1]) dX11_cost_32 cl_X11_193 (t_X1_apart 3 shC_3 (-1) x1 h) (Nat.le_of_ble_eq_true rfl) shC_3 rfl rfl (Nat.le_of_ble_eq_true rfl) (fun v2 _ => ?_)
    refine B_iadd dX11_cost_35 ?_
    refine B_goto (tgt := 40) dX11_cost_36 (by decide) ?_
    exact B_ireturn dX11_cost_40 rfl rfl
def f_X11_merit (x1 : Int32) (x2 : Int32) (h : dH) : Option (Int32) :=
  if x1 = 2 then
  (f_X8_patienceOf 66 x2 h).bind fun v2 =>
  (f_X8_troublesOf 66 x2 h).bind fun v3 =>
  some (v2 - v3)
  else
  if x1 = 3 then
  (f_X8_troublesOf 66 x2 h).bind fun v4 =>
  some v4
  else
  if x1 = 4 then
  (f_X1_toldOf 3 x2 3 h).bind fun v5 =>
  some v5
  else
  if x1 = 5 then
  (f_X1_apart 3 (-1) x2 h).bind fun v6 =>
  some v6
  else
  if x2 = (f_X8_place h) then
  some (-100)
  else
  (f_X1_apart 3 (f_X8_place h) x2 h).bind fun v7 =>
  some (-v7)
set_option maxRecDepth 20000 in
set_option maxHeartbeats 4000000 in
theorem t_X11_merit (x1 : Int32) (x2 : Int32) (h : dH) : T XC 2 yX11_merit cX11_merit 3 (some .int) (fiP h) [.ref 0, .int x1, .int x2] h (f_X11_merit x1 x2 h) := by
  refine T_of [.ref 0, .int x1, .int x2] (by decide) (fun _ => rfl) (fun _ => Nat.le_of_ble_eq_true rfl) ?_
  show B XC 2 RX11 cX11_merit 3 (some .int) (fiP h) 0 [.ref 0, .int x1, .int x2] [] h (f_X11_merit x1 x2 h)
  unfold f_X11_merit
  refine B_iload_n dX11_merit_0 rfl rfl ?_
  refine C_ite (fun n1_2 => ?_) (fun n1_2 => ?_)
  · refine B_tswIn (off := 31) (tgt := 32) dX11_merit_1 (by rw [n1_2]; decide) (by rw [n1_2]; decide) (by rw [n1_2]; decide) (by decide) ?_
    refine B_aload_n dX11_merit_32 rfl rfl ?_
    refine B_getR dX11_merit_33 fl_X11_56 shC_0 rfl (rfC_0_6 _) ?_
    refine B_iload_n dX11_merit_36 rfl rfl ?_
    refine B_Vp (st := []) dX11_merit_37 cl_X11_171 (t_X8_patienceOf 66 shC_66 x2 h) (Nat.le_of_ble_eq_true rfl) shC_66 rfl rfl (Nat.le_of_ble_eq_true rfl) (fun v2 _ => ?_)
    refine B_aload_n dX11_merit_40 rfl rfl ?_
    refine B_getR dX11_merit_41 fl_X11_56 shC_0 rfl (rfC_0_6 _) ?_
    refine B_iload_n dX11_merit_44 rfl rfl ?_
    refine B_Vp (st := [.int v2]) dX11_merit_45 cl_X11_174 (t_X8_troublesOf 66 shC_66 x2 h) (Nat.le_of_ble_eq_true rfl) shC_66 rfl rfl (Nat.le_of_ble_eq_true rfl) (fun v3 _ => ?_)
    refine B_isub dX11_merit_48 ?_
    exact B_ireturn dX11_merit_49 rfl rfl
  · refine C_ite (fun n1_3 => ?_) (fun n1_3 => ?_)
    · refine B_tswIn (off := 49) (tgt := 50) dX11_merit_1 (by rw [n1_3]; decide) (by rw [n1_3]; decide) (by rw [n1_3]; decide) (by decide) ?_
      refine B_aload_n dX11_merit_50 rfl rfl ?_
      refine B_getR dX11_merit_51 fl_X11_56 shC_0 rfl (rfC_0_6 _) ?_
      refine B_iload_n dX11_merit_54 rfl rfl ?_
      refine B_Vp (st := []) dX11_merit_55 cl_X11_174 (t_X8_troublesOf 66 shC_66 x2 h) (Nat.le_of_ble_eq_true rfl) shC_66 rfl rfl (Nat.le_of_ble_eq_true rfl) (fun v4 _ => ?_)
      exact B_ireturn dX11_merit_58 rfl rfl
    · refine C_ite (fun n1_4 => ?_) (fun n1_4 => ?_)
      · refine B_tswIn (off := 58) (tgt := 59) dX11_merit_1 (by rw [n1_4]; decide) (by rw [n1_4]; decide) (by rw [n1_4]; decide) (by decide) ?_
        refine B_aload_n dX11_merit_59 rfl rfl ?_
        refine B_getR dX11_merit_60 fl_X11_19 shC_0 rfl (rfC_0_1 _) ?_
        refine B_iload_n dX11_merit_63 rfl rfl ?_
        refine B_iconst dX11_merit_64 ic_3 ?_
        refine B_Vp (st := []) dX11_merit_65 cl_X11_180 (t_X1_toldOf 3 shC_3 x2 3 h) (Nat.le_of_ble_eq_true rfl) shC_3 rfl rfl (Nat.le_of_ble_eq_true rfl) (fun v5 _ => ?_)
        exact B_ireturn dX11_merit_68 rfl rfl
      · refine C_ite (fun n1_5 => ?_) (fun n1_5 => ?_)
        · refine B_tswIn (off := 68) (tgt := 69) dX11_merit_1 (by rw [n1_5]; decide) (by rw [n1_5]; decide) (by rw [n1_5]; decide) (by decide) ?_
          refine B_aload_n dX11_merit_69 rfl rfl ?_
          refine B_getR dX11_merit_70 fl_X11_19 shC_0 rfl (rfC_0_1 _) ?_
          refine B_iconst dX11_merit_73 ic_m1 ?_
          refine B_iload_n dX11_merit_74 rfl rfl ?_
          refine B_Vp (st := []) dX11_merit_75 cl_X11_193 (t_X1_apart 3 shC_3 (-1) x2 h) (Nat.le_of_ble_eq_true rfl) shC_3 rfl rfl (Nat.le_of_ble_eq_true rfl) (fun v6 _ => ?_)
          exact B_ireturn dX11_merit_78 rfl rfl
        · refine B_tswOut (tgt := 79) dX11_merit_1 (dsw (fun c h1 h2 => ?_)) (by decide) ?_
          · rcases (show c = 2 ∨ c = 3 ∨ c = 4 ∨ c = 5 by omega) with rfl | rfl | rfl | rfl
            · exact n1_2
            · exact n1_3
            · exact n1_4
            · exact n1_5
          · refine B_iload_n dX11_merit_79 rfl rfl ?_
            refine B_aload_n dX11_merit_80 rfl rfl ?_
            refine B_getR dX11_merit_81 fl_X11_56 shC_0 rfl (rfC_0_6 _) ?_
            refine B_Vt (st := [.int x2]) dX11_merit_84 cl_X11_190 (t_X8_place h) (Nat.le_of_ble_eq_true rfl) shC_66 rfl rfl (Nat.le_of_ble_eq_true rfl) ?_
            refine C_icmp_ne (tgt := 95) dX11_merit_87 (by decide) (fun q8 => ?_) (fun q8 => ?_)
            · refine B_aload_n dX11_merit_95 rfl rfl ?_
              refine B_getR dX11_merit_96 fl_X11_19 shC_0 rfl (rfC_0_1 _) ?_
              refine B_aload_n dX11_merit_99 rfl rfl ?_
              refine B_getR dX11_merit_100 fl_X11_56 shC_0 rfl (rfC_0_6 _) ?_
              refine B_Vt (st := [.ref 3]) dX11_merit_103 cl_X11_190 (t_X8_place h) (Nat.le_of_ble_eq_true rfl) shC_66 rfl rfl (Nat.le_of_ble_eq_true rfl) ?_
              refine B_iload_n dX11_merit_106 rfl rfl ?_
              refine B_Vp (st := []) dX11_merit_107 cl_X11_193 (t_X1_apart 3 shC_3 (f_X8_place h) x2 h) (Nat.le_of_ble_eq_true rfl) shC_3 rfl rfl (Nat.le_of_ble_eq_true rfl) (fun v7 _ => ?_)
              refine B_ineg dX11_merit_110 ?_
              exact B_ireturn dX11_merit_111 rfl rfl
            · refine B_bipush dX11_merit_90 bp_m100 ?_
              refine B_goto (tgt := 111) dX11_merit_92 (by decide) ?_
              exact B_ireturn dX11_merit_111 rfl rfl
def f_X11_placeWithMost_J32 (kL4 : Int32 → Int32 → Int32 → Option (Int32)) (y1 : Int32) (y2 : Int32) (y3 : Int32) (h : dH) : Option (Int32) :=
  kL4 y1 y2 (y3 + 1)
set_option maxRecDepth 20000 in
set_option maxHeartbeats 4000000 in
theorem b_X11_placeWithMost_J32 {kL4 : Int32 → Int32 → Int32 → Option (Int32)} (h : dH) (hkL4 : ∀ (y1 : Int32) (y2 : Int32) (y3 : Int32), B XC 3 RX11 cX11_placeWithMost 4 (some .int) (fiP h) 4 [.ref 0, .int y1, .int y2, .int y3] [] h (kL4 y1 y2 y3)) (y1 : Int32) (y2 : Int32) (y3 : Int32) : B XC 3 RX11 cX11_placeWithMost 4 (some .int) (fiP h) 32 [.ref 0, .int y1, .int y2, .int y3] [] h (f_X11_placeWithMost_J32 kL4 y1 y2 y3 h) := by
  unfold f_X11_placeWithMost_J32
  refine B_iinc (w := (y3 + 1)) (ls' := [.ref 0, .int y1, .int y2, .int (y3 + 1)]) dX11_placeWithMost_32 rfl (congrArg (fun z => y3 + z) ic_1) (Nat.le_of_ble_eq_true rfl) rfl rfl ?_
  refine B_goto (tgt := 4) dX11_placeWithMost_35 (by decide) ?_
  exact hkL4 y1 y2 (y3 + 1)  
def f_X11_placeWithMost_L4 (h : dH) : Nat → Int32 → Int32 → Int32 → Option (Int32)
  | 0, _, _, _ => none
  | n + 1, y1, y2, y3 =>
    if y3 < (h.1 3 2) then
    (f_X11_merit y1 y3 h).bind fun v1 =>
    (f_X11_merit y1 y2 h).bind fun v2 =>
    if v2 < v1 then
    f_X11_placeWithMost_J32 (f_X11_placeWithMost_L4 h n) y1 y3 y3 h
    else
    f_X11_placeWithMost_J32 (f_X11_placeWithMost_L4 h n) y1 y2 y3 h
    else
    some y2
set_option maxRecDepth 20000 in
set_option maxHeartbeats 4000000 in
theorem b_X11_placeWithMost_L4 (h : dH) : ∀ (n : Nat) (y1 : Int32) (y2 : Int32) (y3 : Int32), B XC 3 RX11 cX11_placeWithMost 4 (some .int) (fiP h) 4 [.ref 0, .int y1, .int y2, .int y3] [] h (f_X11_placeWithMost_L4 h n y1 y2 y3) := by
  intro n
  induction n with
  | zero =>
    intro y1 y2 y3
    exact B_none
  | succ n ih =>
    intro y1 y2 y3
    rw [f_X11_placeWithMost_L4]
    refine B_iload_n dX11_placeWithMost_4 rfl rfl ?_
    refine B_aload_n dX11_placeWithMost_5 rfl rfl ?_
    refine B_getR dX11_placeWithMost_6 fl_X11_19 shC_0 rfl (rfC_0_1 _) ?_
    refine B_getI dX11_placeWithMost_9 fl_X11_154 shC_3 rfl ?_
    refine C_icmp_ge (tgt := 38) dX11_placeWithMost_12 (by decide) (fun q4 => ?_) (fun q4 => ?_)
    · refine B_iload_n dX11_placeWithMost_38 rfl rfl ?_
      exact B_ireturn dX11_placeWithMost_39 rfl rfl
    · refine B_aload_n dX11_placeWithMost_15 rfl rfl ?_
      refine B_iload_n dX11_placeWithMost_16 rfl rfl ?_
      refine B_iload_n dX11_placeWithMost_17 rfl rfl ?_
      refine B_Vp (st := []) dX11_placeWithMost_18 cl_X11_365 (t_X11_merit y1 y3 h) (Nat.le_of_ble_eq_true rfl) shC_0 rfl rfl (Nat.le_of_ble_eq_true rfl) (fun v1 _ => ?_)
      refine B_aload_n dX11_placeWithMost_21 rfl rfl ?_
      refine B_iload_n dX11_placeWithMost_22 rfl rfl ?_
      refine B_iload_n dX11_placeWithMost_23 rfl rfl ?_
      refine B_Vp (st := [.int v1]) dX11_placeWithMost_24 cl_X11_365 (t_X11_merit y1 y2 h) (Nat.le_of_ble_eq_true rfl) shC_0 rfl rfl (Nat.le_of_ble_eq_true rfl) (fun v2 _ => ?_)
      refine C_icmp_le (tgt := 32) dX11_placeWithMost_27 (by decide) (fun q3 => ?_) (fun q3 => ?_)
      · exact b_X11_placeWithMost_J32 h (fun qy1 qy2 qy3 => ih qy1 qy2 qy3) y1 y2 y3
      · refine B_iload_n dX11_placeWithMost_30 rfl rfl ?_
        refine B_istore_n (ls' := [.ref 0, .int y1, .int y3, .int y3]) dX11_placeWithMost_31 rfl (Nat.le_of_ble_eq_true rfl) rfl rfl ?_
        exact b_X11_placeWithMost_J32 h (fun qy1 qy2 qy3 => ih qy1 qy2 qy3) y1 y3 y3
def f_X11_placeWithMost (x1 : Int32) (h : dH) : Option (Int32) :=
  f_X11_placeWithMost_L4 h dFu x1 0 1
set_option maxRecDepth 20000 in
set_option maxHeartbeats 4000000 in
theorem t_X11_placeWithMost (x1 : Int32) (h : dH) : T XC 3 yX11_placeWithMost cX11_placeWithMost 4 (some .int) (fiP h) [.ref 0, .int x1] h (f_X11_placeWithMost x1 h) := by
  refine T_of [.ref 0, .int x1, .null, .null] (by decide) (fun _ => rfl) (fun _ => Nat.le_of_ble_eq_true rfl) ?_
  show B XC 3 RX11 cX11_placeWithMost 4 (some .int) (fiP h) 0 [.ref 0, .int x1, .null, .null] [] h (f_X11_placeWithMost x1 h)
  unfold f_X11_placeWithMost
  refine B_iconst dX11_placeWithMost_0 ic_0 ?_
  refine B_istore_n (ls' := [.ref 0, .int x1, .int 0, .null]) dX11_placeWithMost_1 rfl (Nat.le_of_ble_eq_true rfl) rfl rfl ?_
  refine B_iconst dX11_placeWithMost_2 ic_1 ?_
  refine B_istore_n (ls' := [.ref 0, .int x1, .int 0, .int 1]) dX11_placeWithMost_3 rfl (Nat.le_of_ble_eq_true rfl) rfl rfl ?_
  exact b_X11_placeWithMost_L4 h dFu x1 0 1
def f_X11_all (x1 : Int32) (h : dH) : Option (Int32) :=
  if (f_X1_isThere h) then
  if x1 = 0 then
  some (f_X8_secrets h)
  else
  if x1 = 1 then
  (f_X8_tooMuch h).bind fun v2 =>
  some v2
  else
  if x1 = 2 then
  (f_X11_placeWithMost x1 h).bind fun v3 =>
  some v3
  else
  if x1 = 3 then
  (f_X11_placeWithMost x1 h).bind fun v4 =>
  some v4
  else
  if x1 = 4 then
  (f_X11_placeWithMost x1 h).bind fun v5 =>
  some v5
  else
  if x1 = 5 then
  (f_X11_placeWithMost x1 h).bind fun v6 =>
  some v6
  else
  if x1 = 6 then
  (f_X11_placeWithMost x1 h).bind fun v7 =>
  some v7
  else
  if x1 = 7 then
  (f_X8_reach h).bind fun v8 =>
  some v8
  else
  if x1 = 8 then
  some ((h.1 4 0) - (f_X8_tired h))
  else
  if x1 = 9 then
  (f_X1_spread h).bind fun v9 =>
  some v9
  else
  some (-1)
  else
  some (-1)
set_option maxRecDepth 20000 in
set_option maxHeartbeats 4000000 in
theorem t_X11_all (x1 : Int32) (h : dH) : T XC 4 yX11_all cX11_all 2 (some .int) (fiP h) [.ref 0, .int x1] h (f_X11_all x1 h) := by
  refine T_of [.ref 0, .int x1] (by decide) (fun _ => rfl) (fun _ => Nat.le_of_ble_eq_true rfl) ?_
  show B XC 4 RX11 cX11_all 2 (some .int) (fiP h) 0 [.ref 0, .int x1] [] h (f_X11_all x1 h)
  unfold f_X11_all
  refine B_aload_n dX11_all_0 rfl rfl ?_
  refine B_getR dX11_all_1 fl_X11_19 shC_0 rfl (rfC_0_1 _) ?_
  refine B_VTb (st := []) dX11_all_4 cl_X11_157 (t_X1_isThere h) (Nat.le_of_ble_eq_true rfl) shC_3 rfl rfl (Nat.le_of_ble_eq_true rfl) ?_
  refine C_ifb_ne (tgt := 12) dX11_all_7 (by decide) (fun q10 => ?_) (fun q10 => ?_)
  · refine B_iload_n dX11_all_12 rfl rfl ?_
    refine C_ite (fun n1_0 => ?_) (fun n1_0 => ?_)
    · refine B_tswIn (off := 55) (tgt := 68) dX11_all_13 (by rw [n1_0]; decide) (by rw [n1_0]; decide) (by rw [n1_0]; decide) (by decide) ?_
      refine B_aload_n dX11_all_68 rfl rfl ?_
      refine B_getR dX11_all_69 fl_X11_56 shC_0 rfl (rfC_0_6 _) ?_
      refine B_Vt (st := []) dX11_all_72 cl_X11_347 (t_X8_secrets h) (Nat.le_of_ble_eq_true rfl) shC_66 rfl rfl (Nat.le_of_ble_eq_true rfl) ?_
      exact B_ireturn dX11_all_75 rfl rfl
    · refine C_ite (fun n1_1 => ?_) (fun n1_1 => ?_)
      · refine B_tswIn (off := 63) (tgt := 76) dX11_all_13 (by rw [n1_1]; decide) (by rw [n1_1]; decide) (by rw [n1_1]; decide) (by decide) ?_
        refine B_aload_n dX11_all_76 rfl rfl ?_
        refine B_getR dX11_all_77 fl_X11_56 shC_0 rfl (rfC_0_6 _) ?_
        refine B_Vp (st := []) dX11_all_80 cl_X11_350 (t_X8_tooMuch h) (Nat.le_of_ble_eq_true rfl) shC_66 rfl rfl (Nat.le_of_ble_eq_true rfl) (fun v2 _ => ?_)
        exact B_ireturn dX11_all_83 rfl rfl
      · refine C_ite (fun n1_2 => ?_) (fun n1_2 => ?_)
        · refine B_tswIn (off := 71) (tgt := 84) dX11_all_13 (by rw [n1_2]; decide) (by rw [n1_2]; decide) (by rw [n1_2]; decide) (by decide) ?_
          refine B_aload_n dX11_all_84 rfl rfl ?_
          refine B_iload_n dX11_all_85 rfl rfl ?_
          refine B_Vp (st := []) dX11_all_86 cl_X11_353 (t_X11_placeWithMost x1 h) (Nat.le_of_ble_eq_true rfl) shC_0 rfl rfl (Nat.le_of_ble_eq_true rfl) (fun v3 _ => ?_)
          exact B_ireturn dX11_all_89 rfl rfl
        · refine C_ite (fun n1_3 => ?_) (fun n1_3 => ?_)
          · refine B_tswIn (off := 71) (tgt := 84) dX11_all_13 (by rw [n1_3]; decide) (by rw [n1_3]; decide) (by rw [n1_3]; decide) (by decide) ?_
            refine B_aload_n dX11_all_84 rfl rfl ?_
            refine B_iload_n dX11_all_85 rfl rfl ?_
            refine B_Vp (st := []) dX11_all_86 cl_X11_353 (t_X11_placeWithMost x1 h) (Nat.le_of_ble_eq_true rfl) shC_0 rfl rfl (Nat.le_of_ble_eq_true rfl) (fun v4 _ => ?_)
            exact B_ireturn dX11_all_89 rfl rfl
          · refine C_ite (fun n1_4 => ?_) (fun n1_4 => ?_)
            · refine B_tswIn (off := 71) (tgt := 84) dX11_all_13 (by rw [n1_4]; decide) (by rw [n1_4]; decide) (by rw [n1_4]; decide) (by decide) ?_
              refine B_aload_n dX11_all_84 rfl rfl ?_
              refine B_iload_n dX11_all_85 rfl rfl ?_
              refine B_Vp (st := []) dX11_all_86 cl_X11_353 (t_X11_placeWithMost x1 h) (Nat.le_of_ble_eq_true rfl) shC_0 rfl rfl (Nat.le_of_ble_eq_true rfl) (fun v5 _ => ?_)
              exact B_ireturn dX11_all_89 rfl rfl
            · refine C_ite (fun n1_5 => ?_) (fun n1_5 => ?_)
              · refine B_tswIn (off := 71) (tgt := 84) dX11_all_13 (by rw [n1_5]; decide) (by rw [n1_5]; decide) (by rw [n1_5]; decide) (by decide) ?_
                refine B_aload_n dX11_all_84 rfl rfl ?_
                refine B_iload_n dX11_all_85 rfl rfl ?_
                refine B_Vp (st := []) dX11_all_86 cl_X11_353 (t_X11_placeWithMost x1 h) (Nat.le_of_ble_eq_true rfl) shC_0 rfl rfl (Nat.le_of_ble_eq_true rfl) (fun v6 _ => ?_)
                exact B_ireturn dX11_all_89 rfl rfl
              · refine C_ite (fun n1_6 => ?_) (fun n1_6 => ?_)
                · refine B_tswIn (off := 71) (tgt := 84) dX11_all_13 (by rw [n1_6]; decide) (by rw [n1_6]; decide) (by rw [n1_6]; decide) (by decide) ?_
                  refine B_aload_n dX11_all_84 rfl rfl ?_
                  refine B_iload_n dX11_all_85 rfl rfl ?_
                  refine B_Vp (st := []) dX11_all_86 cl_X11_353 (t_X11_placeWithMost x1 h) (Nat.le_of_ble_eq_true rfl) shC_0 rfl rfl (Nat.le_of_ble_eq_true rfl) (fun v7 _ => ?_)
                  exact B_ireturn dX11_all_89 rfl rfl
                · refine C_ite (fun n1_7 => ?_) (fun n1_7 => ?_)
                  · refine B_tswIn (off := 77) (tgt := 90) dX11_all_13 (by rw [n1_7]; decide) (by rw [n1_7]; decide) (by rw [n1_7]; decide) (by decide) ?_
                    refine B_aload_n dX11_all_90 rfl rfl ?_
                    refine B_getR dX11_all_91 fl_X11_56 shC_0 rfl (rfC_0_6 _) ?_
                    refine B_Vp (st := []) dX11_all_94 cl_X11_356 (t_X8_reach h) (Nat.le_of_ble_eq_true rfl) shC_66 rfl rfl (Nat.le_of_ble_eq_true rfl) (fun v8 _ => ?_)
                    exact B_ireturn dX11_all_97 rfl rfl
                  · refine C_ite (fun n1_8 => ?_) (fun n1_8 => ?_)
                    · refine B_tswIn (off := 85) (tgt := 98) dX11_all_13 (by rw [n1_8]; decide) (by rw [n1_8]; decide) (by rw [n1_8]; decide) (by decide) ?_
                      refine B_aload_n dX11_all_98 rfl rfl ?_
                      refine B_getR dX11_all_99 fl_X11_19 shC_0 rfl (rfC_0_1 _) ?_
                      refine B_getR dX11_all_102 fl_X11_161 shC_3 rfl (rfC_3_0 _) ?_
                      refine B_iconst dX11_all_105 ic_0 ?_
                      refine L_iald dX11_all_106 shC_4 (by decide) di_0 ?_
                      refine B_aload_n dX11_all_107 rfl rfl ?_
                      refine B_getR dX11_all_108 fl_X11_56 shC_0 rfl (rfC_0_6 _) ?_
                      refine B_Vt (st := [.int (h.1 4 0)]) dX11_all_111 cl_X11_359 (t_X8_tired h) (Nat.le_of_ble_eq_true rfl) shC_66 rfl rfl (Nat.le_of_ble_eq_true rfl) ?_
                      refine B_isub dX11_all_114 ?_
                      exact B_ireturn dX11_all_115 rfl rfl
                    · refine C_ite (fun n1_9 => ?_) (fun n1_9 => ?_)
                      · refine B_tswIn (off := 103) (tgt := 116) dX11_all_13 (by rw [n1_9]; decide) (by rw [n1_9]; decide) (by rw [n1_9]; decide) (by decide) ?_
                        refine B_aload_n dX11_all_116 rfl rfl ?_
                        refine B_getR dX11_all_117 fl_X11_19 shC_0 rfl (rfC_0_1 _) ?_
                        refine B_Vp (st := []) dX11_all_120 cl_X11_362 (t_X1_spread h) (Nat.le_of_ble_eq_true rfl) shC_3 rfl rfl (Nat.le_of_ble_eq_true rfl) (fun v9 _ => ?_)
                        exact B_ireturn dX11_all_123 rfl rfl
                      · refine B_tswOut (tgt := 124) dX11_all_13 (dsw (fun c h1 h2 => ?_)) (by decide) ?_
                        · rcases (show c = 0 ∨ c = 1 ∨ c = 2 ∨ c = 3 ∨ c = 4 ∨ c = 5 ∨ c = 6 ∨ c = 7 ∨ c = 8 ∨ c = 9 by omega) with rfl | rfl | rfl | rfl | rfl | rfl | rfl | rfl | rfl | rfl
                          · exact n1_0
                          · exact n1_1
                          · exact n1_2
                          · exact n1_3
                          · exact n1_4
                          · exact n1_5
                          · exact n1_6
                          · exact n1_7
                          · exact n1_8
                          · exact n1_9
                        · refine B_iconst dX11_all_124 ic_m1 ?_
                          exact B_ireturn dX11_all_125 rfl rfl
  · refine B_iconst dX11_all_10 ic_m1 ?_
    exact B_ireturn dX11_all_11 rfl rfl
def f_X11_kinds (x1 : Int32) (h : dH) : Option (Int32) :=
  if (f_X1_isThere h) then
  if x1 < 0 then
  some (-1)
  else
  if x1 < 4 then
  (f_X1_ofKind x1 h).bind fun v1 =>
  some v1
  else
  some (-1)
  else
  some (-1)
set_option maxRecDepth 20000 in
set_option maxHeartbeats 4000000 in
theorem t_X11_kinds (x1 : Int32) (h : dH) : T XC 3 yX11_kinds cX11_kinds 2 (some .int) (fiP h) [.ref 0, .int x1] h (f_X11_kinds x1 h) := by
  refine T_of [.ref 0, .int x1] (by decide) (fun _ => rfl) (fun _ => Nat.le_of_ble_eq_true rfl) ?_
  show B XC 3 RX11 cX11_kinds 2 (some .int) (fiP h) 0 [.ref 0, .int x1] [] h (f_X11_kinds x1 h)
  unfold f_X11_kinds
  refine B_aload_n dX11_kinds_0 rfl rfl ?_
  refine B_getR dX11_kinds_1 fl_X11_19 shC_0 rfl (rfC_0_1 _) ?_
  refine B_VTb (st := []) dX11_kinds_4 cl_X11_157 (t_X1_isThere h) (Nat.le_of_ble_eq_true rfl) shC_3 rfl rfl (Nat.le_of_ble_eq_true rfl) ?_
  refine C_ifb_eq (tgt := 30) dX11_kinds_7 (by decide) (fun q4 => ?_) (fun q4 => ?_)
  · refine B_iconst dX11_kinds_30 ic_m1 ?_
    exact B_ireturn dX11_kinds_31 rfl rfl
  · refine B_iload_n dX11_kinds_10 rfl rfl ?_
    refine C_if_lt (tgt := 30) dX11_kinds_11 (by decide) (fun q3 => ?_) (fun q3 => ?_)
    · refine B_iconst dX11_kinds_30 ic_m1 ?_
      exact B_ireturn dX11_kinds_31 rfl rfl
    · refine B_iload_n dX11_kinds_14 rfl rfl ?_
      refine B_iconst dX11_kinds_15 ic_4 ?_
      refine C_icmp_ge (tgt := 30) dX11_kinds_16 (by decide) (fun q2 => ?_) (fun q2 => ?_)
      · refine B_iconst dX11_kinds_30 ic_m1 ?_
        exact B_ireturn dX11_kinds_31 rfl rfl
      · refine B_aload_n dX11_kinds_19 rfl rfl ?_
        refine B_getR dX11_kinds_20 fl_X11_19 shC_0 rfl (rfC_0_1 _) ?_
        refine B_iload_n dX11_kinds_23 rfl rfl ?_
        refine B_Vp (st := []) dX11_kinds_24 cl_X11_368 (t_X1_ofKind x1 h) (Nat.le_of_ble_eq_true rfl) shC_3 rfl rfl (Nat.le_of_ble_eq_true rfl) (fun v1 _ => ?_)
        refine B_goto (tgt := 31) dX11_kinds_27 (by decide) ?_
        exact B_ireturn dX11_kinds_31 rfl rfl
def f_X11_calm_L15 (h : dH) : Nat → Int32 → Int32 → Option (Int32)
  | 0, _, _ => none
  | n + 1, y1, y2 =>
    if 60 < y2 then
    some (-1)
    else
    (f_X8_troublesOf 66 y1 h).bind fun v2 =>
    (f_X8_patienceOf 66 y1 h).bind fun v3 =>
    if v3 < (v2 - (y2 * (h.1 4 2))) then
    (f_X11_calm_L15 h n) y1 (y2 + 1)
    else
    some y2
set_option maxRecDepth 20000 in
set_option maxHeartbeats 4000000 in
theorem b_X11_calm_L15 (h : dH) : ∀ (n : Nat) (y1 : Int32) (y2 : Int32), B XC 2 RX11 cX11_calm 3 (some .int) (fiP h) 15 [.ref 0, .int y1, .int y2] [] h (f_X11_calm_L15 h n y1 y2) := by
  intro n
  induction n with
  | zero =>
    intro y1 y2
    exact B_none
  | succ n ih =>
    intro y1 y2
    rw [f_X11_calm_L15]
    refine B_iload_n dX11_calm_15 rfl rfl ?_
    refine B_bipush dX11_calm_16 bp_60 ?_
    refine C_icmp_gt (tgt := 60) dX11_calm_18 (by decide) (fun q5 => ?_) (fun q5 => ?_)
    · refine B_iconst dX11_calm_60 ic_m1 ?_
      exact B_ireturn dX11_calm_61 rfl rfl
    · refine B_aload_n dX11_calm_21 rfl rfl ?_
      refine B_getR dX11_calm_22 fl_X11_56 shC_0 rfl (rfC_0_6 _) ?_
      refine B_iload_n dX11_calm_25 rfl rfl ?_
      refine B_Vp (st := []) dX11_calm_26 cl_X11_174 (t_X8_troublesOf 66 shC_66 y1 h) (Nat.le_of_ble_eq_true rfl) shC_66 rfl rfl (Nat.le_of_ble_eq_true rfl) (fun v2 _ => ?_)
      refine B_iload_n dX11_calm_29 rfl rfl ?_
      refine B_aload_n dX11_calm_30 rfl rfl ?_
      refine B_getR dX11_calm_31 fl_X11_19 shC_0 rfl (rfC_0_1 _) ?_
      refine B_getR dX11_calm_34 fl_X11_161 shC_3 rfl (rfC_3_0 _) ?_
      refine B_iconst dX11_calm_37 ic_2 ?_
      refine L_iald dX11_calm_38 shC_4 (by decide) di_2 ?_
      refine B_imul dX11_calm_39 ?_
      refine B_isub dX11_calm_40 ?_
      refine B_aload_n dX11_calm_41 rfl rfl ?_
      refine B_getR dX11_calm_42 fl_X11_56 shC_0 rfl (rfC_0_6 _) ?_
      refine B_iload_n dX11_calm_45 rfl rfl ?_
      refine B_Vp (st := [.int (v2 - (y2 * (h.1 4 2)))]) dX11_calm_46 cl_X11_171 (t_X8_patienceOf 66 shC_66 y1 h) (Nat.le_of_ble_eq_true rfl) shC_66 rfl rfl (Nat.le_of_ble_eq_true rfl) (fun v3 _ => ?_)
      refine C_icmp_gt (tgt := 54) dX11_calm_49 (by decide) (fun q4 => ?_) (fun q4 => ?_)
      · refine B_iinc (w := (y2 + 1)) (ls' := [.ref 0, .int y1, .int (y2 + 1)]) dX11_calm_54 rfl (congrArg (fun z => y2 + z) ic_1) (Nat.le_of_ble_eq_true rfl) rfl rfl ?_
        refine B_goto (tgt := 15) dX11_calm_57 (by decide) ?_
        exact ih y1 (y2 + 1)  
      · refine B_iload_n dX11_calm_52 rfl rfl ?_
        exact B_ireturn dX11_calm_53 rfl rfl
def f_X11_calm (x1 : Int32) (h : dH) : Option (Int32) :=
  if (f_X1_isPlace 3 x1 h) then
  f_X11_calm_L15 h dFu x1 0
  else
  some (-1)
set_option maxRecDepth 20000 in
set_option maxHeartbeats 4000000 in
theorem t_X11_calm (x1 : Int32) (h : dH) : T XC 2 yX11_calm cX11_calm 3 (some .int) (fiP h) [.ref 0, .int x1] h (f_X11_calm x1 h) := by
  refine T_of [.ref 0, .int x1, .null] (by decide) (fun _ => rfl) (fun _ => Nat.le_of_ble_eq_true rfl) ?_
  show B XC 2 RX11 cX11_calm 3 (some .int) (fiP h) 0 [.ref 0, .int x1, .null] [] h (f_X11_calm x1 h)
  unfold f_X11_calm
  refine B_aload_n dX11_calm_0 rfl rfl ?_
  refine B_getR dX11_calm_1 fl_X11_19 shC_0 rfl (rfC_0_1 _) ?_
  refine B_iload_n dX11_calm_4 rfl rfl ?_
  refine B_VTb (st := []) dX11_calm_5 cl_X11_164 (t_X1_isPlace 3 shC_3 x1 h) (Nat.le_of_ble_eq_true rfl) shC_3 rfl rfl (Nat.le_of_ble_eq_true rfl) ?_
  refine C_ifb_ne (tgt := 13) dX11_calm_8 (by decide) (fun q1 => ?_) (fun q1 => ?_)
  · refine B_iconst dX11_calm_13 ic_0 ?_
    refine B_istore_n (ls' := [.ref 0, .int x1, .int 0]) dX11_calm_14 rfl (Nat.le_of_ble_eq_true rfl) rfl rfl ?_
    exact b_X11_calm_L15 h dFu x1 0
  · refine B_iconst dX11_calm_11 ic_m1 ?_
    exact B_ireturn dX11_calm_12 rfl rfl
def f_X11_image (h : dH) : Option (Int32 × dH) :=
  if (f_X1_isThere h) then
  (f_X8_saveTo 74 28 0 h).bind fun h2 =>
  (f_X4_copyFrom 75 72 h2).bind fun h4 =>
  (some (dPut h4 0 15 1)).bind fun h5 =>
  some ((f_X8_daysGone h5), h5)
  else
  some ((-1), h)
set_option maxRecDepth 20000 in
set_option maxHeartbeats 4000000 in
theorem t_X11_image (h : dH) : T XC 2 yX11_image cX11_image 1 (some .int) fiI [.ref 0] h (f_X11_image h) := by
  refine T_of [.ref 0] (by decide) (fun _ => rfl) (fun _ => Nat.le_of_ble_eq_true rfl) ?_
  show B XC 2 RX11 cX11_image 1 (some .int) fiI 0 [.ref 0] [] h (f_X11_image h)
  unfold f_X11_image
  refine B_aload_n dX11_image_0 rfl rfl ?_
  refine B_getR dX11_image_1 fl_X11_19 shC_0 rfl (rfC_0_1 _) ?_
  refine B_VTb (st := []) dX11_image_4 cl_X11_157 (t_X1_isThere h) (Nat.le_of_ble_eq_true rfl) shC_3 rfl rfl (Nat.le_of_ble_eq_true rfl) ?_
  refine C_ifb_ne (tgt := 12) dX11_image_7 (by decide) (fun q6 => ?_) (fun q6 => ?_)
  · refine B_aload_n dX11_image_12 rfl rfl ?_
    refine B_getR dX11_image_13 fl_X11_56 shC_0 rfl (rfC_0_6 _) ?_
    refine B_aload_n dX11_image_16 rfl rfl ?_
    refine B_getR dX11_image_17 fl_X11_77 shC_0 rfl (rfC_0_10 _) ?_
    refine B_iconst dX11_image_20 ic_0 ?_
    refine B_VV (st := []) dX11_image_21 cl_X11_371 (t_X8_saveTo 74 28 shC_74 0 h) (Nat.le_of_ble_eq_true rfl) shC_66 rfl rfl (Nat.le_of_ble_eq_true rfl) (fun h2 _ => ?_)
    refine B_aload_n dX11_image_24 rfl rfl ?_
    refine B_getR dX11_image_25 fl_X11_81 shC_0 rfl (rfC_0_11 _) ?_
    refine B_aload_n dX11_image_28 rfl rfl ?_
    refine B_getR dX11_image_29 fl_X11_73 shC_0 rfl (rfC_0_9 _) ?_
    refine B_VV (st := []) dX11_image_32 cl_X11_374 (t_X4_copyFrom 75 shC_75 72 shC_72 h2) (Nat.le_of_ble_eq_true rfl) shC_75 rfl rfl (Nat.le_of_ble_eq_true rfl) (fun h4 _ => ?_)
    refine B_aload_n dX11_image_35 rfl rfl ?_
    refine B_iconst dX11_image_36 ic_1 ?_
    refine B_putZ dX11_image_37 fl_X11_150 fw_X11_15 shC_0 rfl (Or.inr rfl) ?_
    refine B_lh (fun h5 => ?_)
    refine B_aload_n dX11_image_40 rfl rfl ?_
    refine B_getR dX11_image_41 fl_X11_56 shC_0 rfl (rfC_0_6 _) ?_
    refine B_Vt (st := []) dX11_image_44 cl_X11_239 (t_X8_daysGone h5) (Nat.le_of_ble_eq_true rfl) shC_66 rfl rfl (Nat.le_of_ble_eq_true rfl) ?_
    exact B_ireturn dX11_image_47 rfl rfl
  · refine B_iconst dX11_image_10 ic_m1 ?_
    exact B_ireturn dX11_image_11 rfl rfl
def f_X11_back (h : dH) : Option (Int32 × dH) :=
  if (h.1 0 15) = 0 then
  some ((-1), h)
  else
  (f_X8_loadFrom 66 74 28 0 h).bind fun h2 =>
  (f_X4_copyFrom 72 75 h2).bind fun h4 =>
  (f_X0_forget h4).bind fun h6 =>
  some ((f_X8_daysGone h6), h6)
set_option maxRecDepth 20000 in
set_option maxHeartbeats 4000000 in
theorem t_X11_back (h : dH) : T XC 2 yX11_back cX11_back 1 (some .int) fiI [.ref 0] h (f_X11_back h) := by
  refine T_of [.ref 0] (by decide) (fun _ => rfl) (fun _ => Nat.le_of_ble_eq_true rfl) ?_
  show B XC 2 RX11 cX11_back 1 (some .int) fiI 0 [.ref 0] [] h (f_X11_back h)
  unfold f_X11_back
  refine B_aload_n dX11_back_0 rfl rfl ?_
  refine B_getZ dX11_back_1 fl_X11_150 shC_0 rfl ?_
  refine C_if_ne (tgt := 9) dX11_back_4 (by decide) (fun q7 => ?_) (fun q7 => ?_)
  · refine B_aload_n dX11_back_9 rfl rfl ?_
    refine B_getR dX11_back_10 fl_X11_56 shC_0 rfl (rfC_0_6 _) ?_
    refine B_aload_n dX11_back_13 rfl rfl ?_
    refine B_getR dX11_back_14 fl_X11_77 shC_0 rfl (rfC_0_10 _) ?_
    refine B_iconst dX11_back_17 ic_0 ?_
    refine B_VV (st := []) dX11_back_18 cl_X11_262 (t_X8_loadFrom 66 shC_66 74 28 shC_74 0 h) (Nat.le_of_ble_eq_true rfl) shC_66 rfl rfl (Nat.le_of_ble_eq_true rfl) (fun h2 _ => ?_)
    refine B_aload_n dX11_back_21 rfl rfl ?_
    refine B_getR dX11_back_22 fl_X11_73 shC_0 rfl (rfC_0_9 _) ?_
    refine B_aload_n dX11_back_25 rfl rfl ?_
    refine B_getR dX11_back_26 fl_X11_81 shC_0 rfl (rfC_0_11 _) ?_
    refine B_VV (st := []) dX11_back_29 cl_X11_374 (t_X4_copyFrom 72 shC_72 75 shC_75 h2) (Nat.le_of_ble_eq_true rfl) shC_72 rfl rfl (Nat.le_of_ble_eq_true rfl) (fun h4 _ => ?_)
    refine B_aload_n dX11_back_32 rfl rfl ?_
    refine B_getR dX11_back_33 fl_X11_66 shC_0 rfl (rfC_0_8 _) ?_
    refine B_VV (st := []) dX11_back_36 cl_X11_146 (t_X0_forget h4) (Nat.le_of_ble_eq_true rfl) shC_70 rfl rfl (Nat.le_of_ble_eq_true rfl) (fun h6 _ => ?_)
    refine B_aload_n dX11_back_39 rfl rfl ?_
    refine B_getR dX11_back_40 fl_X11_56 shC_0 rfl (rfC_0_6 _) ?_
    refine B_Vt (st := []) dX11_back_43 cl_X11_239 (t_X8_daysGone h6) (Nat.le_of_ble_eq_true rfl) shC_66 rfl rfl (Nat.le_of_ble_eq_true rfl) ?_
    exact B_ireturn dX11_back_46 rfl rfl
  · refine B_iconst dX11_back_7 ic_m1 ?_
    exact B_ireturn dX11_back_8 rfl rfl
def f_X11_count (x1 : Int32) (h : dH) : Int32 :=
  if x1 = 0 then
  (h.1 3 2)
  else
  if x1 = 1 then
  (h.1 42 1)
  else
  if x1 = 2 then
  (h.1 52 0)
  else
  if x1 = 3 then
  (h.1 1 1)
  else
  if x1 = 4 then
  (h.1 42 2)
  else
  if x1 = 5 then
  (f_X8_daysGone h)
  else
  if x1 = 6 then
  (f_X8_hour h)
  else
  if x1 = 7 then
  (f_X8_tired h)
  else
  if x1 = 8 then
  (f_X8_place h)
  else
  if x1 = 9 then
  (f_X8_seenToday h)
  else
  if x1 = 10 then
  (f_X8_seenInAll 66 h)
  else
  if x1 = 11 then
  (h.1 0 16)
  else
  if x1 = 12 then
  (h.1 77 0)
  else
  if x1 = 13 then
  (f_X4_lengthOn (f_X8_daysGone h) h)
  else
  if x1 = 14 then
  (h.1 70 0)
  else
  (-1000000)
set_option maxRecDepth 20000 in
set_option maxHeartbeats 4000000 in
theorem t_X11_count (x1 : Int32) (h : dH) : T XC 2 yX11_count cX11_count 2 (some .int) (fiP h) [.ref 0, .int x1] h (some (f_X11_count x1 h)) := by
  refine T_of [.ref 0, .int x1] (by decide) (fun _ => rfl) (fun _ => Nat.le_of_ble_eq_true rfl) ?_
  show B XC 2 RX11 cX11_count 2 (some .int) (fiP h) 0 [.ref 0, .int x1] [] h (some (f_X11_count x1 h))
  unfold f_X11_count
  refine B_iload_n dX11_count_0 rfl rfl ?_
  refine C_some ?_
  refine C_ite (fun n1_0 => ?_) (fun n1_0 => ?_)
  · refine B_tswIn (off := 75) (tgt := 76) dX11_count_1 (by rw [n1_0]; decide) (by rw [n1_0]; decide) (by rw [n1_0]; decide) (by decide) ?_
    refine B_aload_n dX11_count_76 rfl rfl ?_
    refine B_getR dX11_count_77 fl_X11_19 shC_0 rfl (rfC_0_1 _) ?_
    refine B_getI dX11_count_80 fl_X11_154 shC_3 rfl ?_
    exact B_ireturn dX11_count_83 rfl rfl
  · refine C_some ?_
    refine C_ite (fun n1_1 => ?_) (fun n1_1 => ?_)
    · refine B_tswIn (off := 83) (tgt := 84) dX11_count_1 (by rw [n1_1]; decide) (by rw [n1_1]; decide) (by rw [n1_1]; decide) (by decide) ?_
      refine B_aload_n dX11_count_84 rfl rfl ?_
      refine B_getR dX11_count_85 fl_X11_40 shC_0 rfl (rfC_0_4 _) ?_
      refine B_getI dX11_count_88 fl_X11_184 shC_42 rfl ?_
      exact B_ireturn dX11_count_91 rfl rfl
    · refine C_some ?_
      refine C_ite (fun n1_2 => ?_) (fun n1_2 => ?_)
      · refine B_tswIn (off := 91) (tgt := 92) dX11_count_1 (by rw [n1_2]; decide) (by rw [n1_2]; decide) (by rw [n1_2]; decide) (by decide) ?_
        refine B_aload_n dX11_count_92 rfl rfl ?_
        refine B_getR dX11_count_93 fl_X11_47 shC_0 rfl (rfC_0_5 _) ?_
        refine B_getI dX11_count_96 fl_X11_377 shC_52 rfl ?_
        exact B_ireturn dX11_count_99 rfl rfl
      · refine C_some ?_
        refine C_ite (fun n1_3 => ?_) (fun n1_3 => ?_)
        · refine B_tswIn (off := 99) (tgt := 100) dX11_count_1 (by rw [n1_3]; decide) (by rw [n1_3]; decide) (by rw [n1_3]; decide) (by decide) ?_
          refine B_aload_n dX11_count_100 rfl rfl ?_
          refine B_getR dX11_count_101 fl_X11_10 shC_0 rfl (rfC_0_0 _) ?_
          refine B_getI dX11_count_104 fl_X11_117 shC_1 rfl ?_
          exact B_ireturn dX11_count_107 rfl rfl
        · refine C_some ?_
          refine C_ite (fun n1_4 => ?_) (fun n1_4 => ?_)
          · refine B_tswIn (off := 107) (tgt := 108) dX11_count_1 (by rw [n1_4]; decide) (by rw [n1_4]; decide) (by rw [n1_4]; decide) (by decide) ?_
            refine B_aload_n dX11_count_108 rfl rfl ?_
            refine B_getR dX11_count_109 fl_X11_40 shC_0 rfl (rfC_0_4 _) ?_
            refine B_getI dX11_count_112 fl_X11_187 shC_42 rfl ?_
            exact B_ireturn dX11_count_115 rfl rfl
          · refine C_some ?_
            refine C_ite (fun n1_5 => ?_) (fun n1_5 => ?_)
            · refine B_tswIn (off := 115) (tgt := 116) dX11_count_1 (by rw [n1_5]; decide) (by rw [n1_5]; decide) (by rw [n1_5]; decide) (by decide) ?_
              refine B_aload_n dX11_count_116 rfl rfl ?_
              refine B_getR dX11_count_117 fl_X11_56 shC_0 rfl (rfC_0_6 _) ?_
              refine B_Vt (st := []) dX11_count_120 cl_X11_239 (t_X8_daysGone h) (Nat.le_of_ble_eq_true rfl) shC_66 rfl rfl (Nat.le_of_ble_eq_true rfl) ?_
              exact B_ireturn dX11_count_123 rfl rfl
            · refine C_some ?_
              refine C_ite (fun n1_6 => ?_) (fun n1_6 => ?_)
              · refine B_tswIn (off := 123) (tgt := 124) dX11_count_1 (by rw [n1_6]; decide) (by rw [n1_6]; decide) (by rw [n1_6]; decide) (by decide) ?_
                refine B_aload_n dX11_count_124 rfl rfl ?_
                refine B_getR dX11_count_125 fl_X11_56 shC_0 rfl (rfC_0_6 _) ?_
                refine B_Vt (st := []) dX11_count_128 cl_X11_378 (t_X8_hour h) (Nat.le_of_ble_eq_true rfl) shC_66 rfl rfl (Nat.le_of_ble_eq_true rfl) ?_
                exact B_ireturn dX11_count_131 rfl rfl
              · refine C_some ?_
                refine C_ite (fun n1_7 => ?_) (fun n1_7 => ?_)
                · refine B_tswIn (off := 131) (tgt := 132) dX11_count_1 (by rw [n1_7]; decide) (by rw [n1_7]; decide) (by rw [n1_7]; decide) (by decide) ?_
                  refine B_aload_n dX11_count_132 rfl rfl ?_
                  refine B_getR dX11_count_133 fl_X11_56 shC_0 rfl (rfC_0_6 _) ?_
                  refine B_Vt (st := []) dX11_count_136 cl_X11_359 (t_X8_tired h) (Nat.le_of_ble_eq_true rfl) shC_66 rfl rfl (Nat.le_of_ble_eq_true rfl) ?_
                  exact B_ireturn dX11_count_139 rfl rfl
                · refine C_some ?_
                  refine C_ite (fun n1_8 => ?_) (fun n1_8 => ?_)
                  · refine B_tswIn (off := 139) (tgt := 140) dX11_count_1 (by rw [n1_8]; decide) (by rw [n1_8]; decide) (by rw [n1_8]; decide) (by decide) ?_
                    refine B_aload_n dX11_count_140 rfl rfl ?_
                    refine B_getR dX11_count_141 fl_X11_56 shC_0 rfl (rfC_0_6 _) ?_
                    refine B_Vt (st := []) dX11_count_144 cl_X11_190 (t_X8_place h) (Nat.le_of_ble_eq_true rfl) shC_66 rfl rfl (Nat.le_of_ble_eq_true rfl) ?_
                    exact B_ireturn dX11_count_147 rfl rfl
                  · refine C_some ?_
                    refine C_ite (fun n1_9 => ?_) (fun n1_9 => ?_)
                    · refine B_tswIn (off := 147) (tgt := 148) dX11_count_1 (by rw [n1_9]; decide) (by rw [n1_9]; decide) (by rw [n1_9]; decide) (by decide) ?_
                      refine B_aload_n dX11_count_148 rfl rfl ?_
                      refine B_getR dX11_count_149 fl_X11_56 shC_0 rfl (rfC_0_6 _) ?_
                      refine B_Vt (st := []) dX11_count_152 cl_X11_381 (t_X8_seenToday h) (Nat.le_of_ble_eq_true rfl) shC_66 rfl rfl (Nat.le_of_ble_eq_true rfl) ?_
                      exact B_ireturn dX11_count_155 rfl rfl
                    · refine C_some ?_
                      refine C_ite (fun n1_10 => ?_) (fun n1_10 => ?_)
                      · refine B_tswIn (off := 155) (tgt := 156) dX11_count_1 (by rw [n1_10]; decide) (by rw [n1_10]; decide) (by rw [n1_10]; decide) (by decide) ?_
                        refine B_aload_n dX11_count_156 rfl rfl ?_
                        refine B_getR dX11_count_157 fl_X11_56 shC_0 rfl (rfC_0_6 _) ?_
                        refine B_Vt (st := []) dX11_count_160 cl_X11_269 (t_X8_seenInAll 66 shC_66 h) (Nat.le_of_ble_eq_true rfl) shC_66 rfl rfl (Nat.le_of_ble_eq_true rfl) ?_
                        exact B_ireturn dX11_count_163 rfl rfl
                      · refine C_some ?_
                        refine C_ite (fun n1_11 => ?_) (fun n1_11 => ?_)
                        · refine B_tswIn (off := 163) (tgt := 164) dX11_count_1 (by rw [n1_11]; decide) (by rw [n1_11]; decide) (by rw [n1_11]; decide) (by decide) ?_
                          refine B_aload_n dX11_count_164 rfl rfl ?_
                          refine B_getI dX11_count_165 fl_X11_109 shC_0 rfl ?_
                          exact B_ireturn dX11_count_168 rfl rfl
                        · refine C_some ?_
                          refine C_ite (fun n1_12 => ?_) (fun n1_12 => ?_)
                          · refine B_tswIn (off := 168) (tgt := 169) dX11_count_1 (by rw [n1_12]; decide) (by rw [n1_12]; decide) (by rw [n1_12]; decide) (by decide) ?_
                            refine B_aload_n dX11_count_169 rfl rfl ?_
                            refine B_getR dX11_count_170 fl_X11_89 shC_0 rfl (rfC_0_12 _) ?_
                            refine B_getI dX11_count_173 fl_X11_384 shC_77 rfl ?_
                            exact B_ireturn dX11_count_176 rfl rfl
                          · refine C_some ?_
                            refine C_ite (fun n1_13 => ?_) (fun n1_13 => ?_)
                            · refine B_tswIn (off := 176) (tgt := 177) dX11_count_1 (by rw [n1_13]; decide) (by rw [n1_13]; decide) (by rw [n1_13]; decide) (by decide) ?_
                              refine B_aload_n dX11_count_177 rfl rfl ?_
                              refine B_getR dX11_count_178 fl_X11_56 shC_0 rfl (rfC_0_6 _) ?_
                              refine B_Vt (st := []) dX11_count_181 cl_X11_239 (t_X8_daysGone h) (Nat.le_of_ble_eq_true rfl) shC_66 rfl rfl (Nat.le_of_ble_eq_true rfl) ?_
                              refine B_St (st := []) dX11_count_184 cl_X11_387 (t_X4_lengthOn (f_X8_daysGone h) h) (Nat.le_of_ble_eq_true rfl) rfl rfl (Nat.le_of_ble_eq_true rfl) ?_
                              exact B_ireturn dX11_count_187 rfl rfl
                            · refine C_some ?_
                              refine C_ite (fun n1_14 => ?_) (fun n1_14 => ?_)
                              · refine B_tswIn (off := 187) (tgt := 188) dX11_count_1 (by rw [n1_14]; decide) (by rw [n1_14]; decide) (by rw [n1_14]; decide) (by decide) ?_
                                refine B_aload_n dX11_count_188 rfl rfl ?_
                                refine B_getR dX11_count_189 fl_X11_66 shC_0 rfl (rfC_0_8 _) ?_
                                refine B_getI dX11_count_192 fl_X11_390 shC_70 rfl ?_
                                exact B_ireturn dX11_count_195 rfl rfl
                              · refine B_tswOut (tgt := 196) dX11_count_1 (dsw (fun c h1 h2 => ?_)) (by decide) ?_
                                · rcases (show c = 0 ∨ c = 1 ∨ c = 2 ∨ c = 3 ∨ c = 4 ∨ c = 5 ∨ c = 6 ∨ c = 7 ∨ c = 8 ∨ c = 9 ∨ c = 10 ∨ c = 11 ∨ c = 12 ∨ c = 13 ∨ c = 14 by omega) with rfl | rfl | rfl | rfl | rfl | rfl | rfl | rfl | rfl | rfl | rfl | rfl | rfl | rfl | rfl
                                  · exact n1_0
                                  · exact n1_1
                                  · exact n1_2
                                  · exact n1_3
                                  · exact n1_4
                                  · exact n1_5
                                  · exact n1_6
                                  · exact n1_7
                                  · exact n1_8
                                  · exact n1_9
                                  · exact n1_10
                                  · exact n1_11
                                  · exact n1_12
                                  · exact n1_13
                                  · exact n1_14
                                · refine B_ldc dX11_count_196 kc_X11_249 ?_
                                  exact B_ireturn dX11_count_198 rfl rfl
