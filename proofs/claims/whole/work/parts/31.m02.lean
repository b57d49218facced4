def f_X12_log (x1 : Int32) (x2 : Int32) (h : dH) : Option (Int32 × dH) :=
  (some (dPut h 0 0 0)).bind fun h1 =>
  if (f_X12_isIn ((x1 : Int32).toInt64) 0 ((((h1.1 11 28) - 1) : Int32).toInt64) h1) then
  if (f_X12_isIn ((x2 : Int32).toInt64) 0 2 h1) then
  if dIn ((29 + (3 * (((h1.1 11 28) - 1) - x1))) + x2) 209 then
  some ((h1.1 11 (dI ((29 + (3 * (((h1.1 11 28) - 1) - x1))) + x2))), h1)
  else none
  else
  some ((-1), h1)
  else
  some ((-1), h1)
set_option maxRecDepth 20000 in
set_option maxHeartbeats 4000000 in
theorem t_X12_log (x1 : Int32) (x2 : Int32) (h : dH) : T XM 1 yX12_log cX12_log 3 (some .int) fiI [.ref 0, .int x1, .int x2] h (f_X12_log x1 x2 h) := by
  refine T_of [.ref 0, .int x1, .int x2] (by decide) (fun _ => rfl) (fun _ => Nat.le_of_ble_eq_true rfl) ?_
  show B XM 1 RX12 cX12_log 3 (some .int) fiI 0 [.ref 0, .int x1, .int x2] [] h (f_X12_log x1 x2 h)
  unfold f_X12_log
  refine B_aload_n dX12_log_0 rfl rfl ?_
  refine B_iconst dX12_log_1 ic_0 ?_
  refine B_putI dX12_log_2 fl_X12_103 fw_X12_0 shM_0 rfl ?_
  refine B_lh (fun h1 => ?_)
  refine B_iload_n dX12_log_5 rfl rfl ?_
  refine B_i2l dX12_log_6 ?_
  refine B_lconst (v := 0) dX12_log_7 (by decide) ?_
  refine B_aload_n dX12_log_8 rfl rfl ?_
  refine B_getR dX12_log_9 fl_X12_55 shM_0 rfl (rfM_0_28 _) ?_
  refine B_bipush dX12_log_12 bp_28 ?_
  refine L_iald dX12_log_14 shM_11 (by decide) di_28 ?_
  refine B_iconst dX12_log_15 ic_1 ?_
  refine B_isub dX12_log_16 ?_
  refine B_i2l dX12_log_17 ?_
  refine B_STb (st := []) dX12_log_18 cl_X12_224 (t_X12_isIn ((x1 : Int32).toInt64) 0 ((((h1.1 11 28) - 1) : Int32).toInt64) h1) (Nat.le_of_ble_eq_true rfl) rfl rfl (Nat.le_of_ble_eq_true rfl) ?_
  refine C_ifb_eq (tgt := 62) dX12_log_21 (by decide) (fun q4 => ?_) (fun q4 => ?_)
  · refine B_iconst dX12_log_62 ic_m1 ?_
    exact B_ireturn dX12_log_63 rfl rfl
  · refine B_iload_n dX12_log_24 rfl rfl ?_
    refine B_i2l dX12_log_25 ?_
    refine B_lconst (v := 0) dX12_log_26 (by decide) ?_
    refine B_ldc2 dX12_log_27 kc_X12_274 ?_
    refine B_STb (st := []) dX12_log_30 cl_X12_224 (t_X12_isIn ((x2 : Int32).toInt64) 0 2 h1) (Nat.le_of_ble_eq_true rfl) rfl rfl (Nat.le_of_ble_eq_true rfl) ?_
    refine C_ifb_eq (tgt := 62) dX12_log_33 (by decide) (fun q3 => ?_) (fun q3 => ?_)
    · refine B_iconst dX12_log_62 ic_m1 ?_
      exact B_ireturn dX12_log_63 rfl rfl
    · refine B_aload_n dX12_log_36 rfl rfl ?_
      refine B_getR dX12_log_37 fl_X12_55 shM_0 rfl (rfM_0_28 _) ?_
      refine B_bipush dX12_log_40 bp_29 ?_
      refine B_iconst dX12_log_42 ic_3 ?_
      refine B_aload_n dX12_log_43 rfl rfl ?_
      refine B_getR dX12_log_44 fl_X12_55 shM_0 rfl (rfM_0_28 _) ?_
      refine B_bipush dX12_log_47 bp_28 ?_
      refine L_iald dX12_log_49 shM_11 (by decide) di_28 ?_
      refine B_iconst dX12_log_50 ic_1 ?_
      refine B_isub dX12_log_51 ?_
      refine B_iload_n dX12_log_52 rfl rfl ?_
      refine B_isub dX12_log_53 ?_
      refine B_imul dX12_log_54 ?_
      refine B_iadd dX12_log_55 ?_
      refine B_iload_n dX12_log_56 rfl rfl ?_
      refine B_iadd dX12_log_57 ?_
      refine C_chk (fun q2 => ?_)
      refine L_iald dX12_log_58 shM_11 q2 rfl ?_
      refine B_goto (tgt := 63) dX12_log_59 (by decide) ?_
      exact B_ireturn dX12_log_63 rfl rfl
def f_X12_isPlan (x1 : Int32) (h : dH) : Bool :=
  if x1 < 0 then
  false
  else
  if x1 < (h.1 0 26) then
  true
  else
  false
set_option maxRecDepth 20000 in
set_option maxHeartbeats 4000000 in
theorem t_X12_isPlan (x1 : Int32) (h : dH) : T XM 0 yX12_isPlan cX12_isPlan 2 (some .boolean) (fiB h) [.ref 0, .int x1] h (some (f_X12_isPlan x1 h)) := by
  refine T_of [.ref 0, .int x1] (by decide) (fun _ => rfl) (fun _ => Nat.le_of_ble_eq_true rfl) ?_
  show B XM 0 RX12 cX12_isPlan 2 (some .boolean) (fiB h) 0 [.ref 0, .int x1] [] h (some (f_X12_isPlan x1 h))
  unfold f_X12_isPlan
  refine B_iload_n dX12_isPlan_0 rfl rfl ?_
  refine C_some ?_
  refine C_if_lt (tgt := 16) dX12_isPlan_1 (by decide) (fun q2 => ?_) (fun q2 => ?_)
  · refine B_iconst dX12_isPlan_16 ic_0 ?_
    exact B_zreturn dX12_isPlan_17 rfl rfl rfl
  · refine B_iload_n dX12_isPlan_4 rfl rfl ?_
    refine B_aload_n dX12_isPlan_5 rfl rfl ?_
    refine B_getI dX12_isPlan_6 fl_X12_288 shM_0 rfl ?_
    refine C_some ?_
    refine C_icmp_ge (tgt := 16) dX12_isPlan_9 (by decide) (fun q1 => ?_) (fun q1 => ?_)
    · refine B_iconst dX12_isPlan_16 ic_0 ?_
      exact B_zreturn dX12_isPlan_17 rfl rfl rfl
    · refine B_iconst dX12_isPlan_12 ic_1 ?_
      refine B_goto (tgt := 17) dX12_isPlan_13 (by decide) ?_
      exact B_zreturn dX12_isPlan_17 rfl rfl rfl
def f_X12_step (x1 : Int32) (x2 : Int32) (x3 : Int32) (h : dH) : Option (Int32 × dH) :=
  (some (dPut h 0 0 0)).bind fun h1 =>
  if (f_X12_isPlan x1 h1) then
  if dIn x1 5 then
  if (f_X12_isIn ((x2 : Int32).toInt64) 0 ((((h1.1 10 (dI x1)) - 1) : Int32).toInt64) h1) then
  if (f_X12_isIn ((x3 : Int32).toInt64) 0 1 h1) then
  if dIn ((2 * ((16 * x1) + x2)) + x3) 160 then
  some ((h1.1 9 (dI ((2 * ((16 * x1) + x2)) + x3))), h1)
  else none
  else
  some ((-1000000), h1)
  else
  some ((-1000000), h1)
  else none
  else
  some ((-1000000), h1)
set_option maxRecDepth 20000 in
set_option maxHeartbeats 4000000 in
theorem t_X12_step (x1 : Int32) (x2 : Int32) (x3 : Int32) (h : dH) : T XM 1 yX12_step cX12_step 4 (some .int) fiI [.ref 0, .int x1, .int x2, .int x3] h (f_X12_step x1 x2 x3 h) := by
  refine T_of [.ref 0, .int x1, .int x2, .int x3] (by decide) (fun _ => rfl) (fun _ => Nat.le_of_ble_eq_true rfl) ?_
  show B XM 1 RX12 cX12_step 4 (some .int) fiI 0 [.ref 0, .int x1, .int x2, .int x3] [] h (f_X12_step x1 x2 x3 h)
  unfold f_X12_step
  refine B_aload_n dX12_step_0 rfl rfl ?_
  refine B_iconst dX12_step_1 ic_0 ?_
  refine B_putI dX12_step_2 fl_X12_103 fw_X12_0 shM_0 rfl ?_
  refine B_lh (fun h1 => ?_)
  refine B_aload_n dX12_step_5 rfl rfl ?_
  refine B_iload_n dX12_step_6 rfl rfl ?_
  refine B_VTb (st := []) dX12_step_7 cl_X12_397 (t_X12_isPlan x1 h1) (Nat.le_of_ble_eq_true rfl) shM_0 rfl rfl (Nat.le_of_ble_eq_true rfl) ?_
  refine C_ifb_eq (tgt := 59) dX12_step_10 (by decide) (fun q6 => ?_) (fun q6 => ?_)
  · refine B_ldcw dX12_step_59 kc_X12_400 ?_
    exact B_ireturn dX12_step_62 rfl rfl
  · refine B_iload_n dX12_step_13 rfl rfl ?_
    refine B_i2l dX12_step_14 ?_
    refine B_lconst (v := 0) dX12_step_15 (by decide) ?_
    refine B_aload_n dX12_step_16 rfl rfl ?_
    refine B_getR dX12_step_17 fl_X12_52 shM_0 rfl (rfM_0_23 _) ?_
    refine B_iload_n dX12_step_20 rfl rfl ?_
    refine C_chk (fun q2 => ?_)
    refine L_iald dX12_step_21 shM_10 q2 rfl ?_
    refine B_iconst dX12_step_22 ic_1 ?_
    refine B_isub dX12_step_23 ?_
    refine B_i2l dX12_step_24 ?_
    refine B_STb (st := []) dX12_step_25 cl_X12_224 (t_X12_isIn ((x2 : Int32).toInt64) 0 ((((h1.1 10 (dI x1)) - 1) : Int32).toInt64) h1) (Nat.le_of_ble_eq_true rfl) rfl rfl (Nat.le_of_ble_eq_true rfl) ?_
    refine C_ifb_eq (tgt := 59) dX12_step_28 (by decide) (fun q5 => ?_) (fun q5 => ?_)
    · refine B_ldcw dX12_step_59 kc_X12_400 ?_
      exact B_ireturn dX12_step_62 rfl rfl
    · refine B_iload_n dX12_step_31 rfl rfl ?_
      refine B_i2l dX12_step_32 ?_
      refine B_lconst (v := 0) dX12_step_33 (by decide) ?_
      refine B_lconst (v := 1) dX12_step_34 (by decide) ?_
      refine B_STb (st := []) dX12_step_35 cl_X12_224 (t_X12_isIn ((x3 : Int32).toInt64) 0 1 h1) (Nat.le_of_ble_eq_true rfl) rfl rfl (Nat.le_of_ble_eq_true rfl) ?_
      refine C_ifb_eq (tgt := 59) dX12_step_38 (by decide) (fun q4 => ?_) (fun q4 => ?_)
      · refine B_ldcw dX12_step_59 kc_X12_400 ?_
        exact B_ireturn dX12_step_62 rfl rfl
      · refine B_aload_n dX12_step_41 rfl rfl ?_
        refine B_getR dX12_step_42 fl_X12_49 shM_0 rfl (rfM_0_22 _) ?_
        refine B_iconst dX12_step_45 ic_2 ?_
        refine B_bipush dX12_step_46 bp_16 ?_
        refine B_iload_n dX12_step_48 rfl rfl ?_
        refine B_imul dX12_step_49 ?_
        refine B_iload_n dX12_step_50 rfl rfl ?_
        refine B_iadd dX12_step_51 ?_
        refine B_imul dX12_step_52 ?_
        refine B_iload_n dX12_step_53 rfl rfl ?_
        refine B_iadd dX12_step_54 ?_
        refine C_chk (fun q3 => ?_)
        refine L_iald dX12_step_55 shM_9 q3 rfl ?_
        refine B_goto (tgt := 62) dX12_step_56 (by decide) ?_
        exact B_ireturn dX12_step_62 rfl rfl
def f_X12_canStep (w : Nat) (x2 : Int32) (h : dH) : Option (Bool) :=
  if dIn x2 160 then
  if (h.1 9 (dI x2)) = 0 then
  if dIn (x2 + 1) 160 then
  (f_X12_canWalk w (h.1 9 (dI (x2 + 1))) h).bind fun v4 =>
  some v4
  else none
  else
  if (h.1 9 (dI x2)) = 1 then
  some (f_X12_canRest w h)
  else
  if (h.1 9 (dI x2)) = 2 then
  if dIn (x2 + 1) 160 then
  some (f_X12_canRestore w (h.1 9 (dI (x2 + 1))) h)
  else none
  else
  if (h.1 w 27) < 999 then
  some true
  else
  some false
  else none
set_option maxRecDepth 20000 in
set_option maxHeartbeats 4000000 in
theorem t_X12_canStep (w : Nat) (hw : XM.1[w]? = some (.inr (0, 209))) (x2 : Int32) (h : dH) : T XM 4 yX12_canStep cX12_canStep 3 (some .boolean) (fiB h) [.ref 0, .ref w, .int x2] h (f_X12_canStep w x2 h) := by
  refine T_of [.ref 0, .ref w, .int x2] (by decide) (fun _ => rfl) (fun _ => Nat.le_of_ble_eq_true rfl) ?_
  show B XM 4 RX12 cX12_canStep 3 (some .boolean) (fiB h) 0 [.ref 0, .ref w, .int x2] [] h (f_X12_canStep w x2 h)
  unfold f_X12_canStep
  refine B_aload_n dX12_canStep_0 rfl rfl ?_
  refine B_getR dX12_canStep_1 fl_X12_49 shM_0 rfl (rfM_0_22 _) ?_
  refine B_iload_n dX12_canStep_4 rfl rfl ?_
  refine C_chk (fun q1 => ?_)
  refine L_iald dX12_canStep_5 shM_9 q1 rfl ?_
  refine C_ite (fun n2_0 => ?_) (fun n2_0 => ?_)
  · refine B_tswIn (off := 26) (tgt := 32) dX12_canStep_6 (by rw [n2_0]; decide) (by rw [n2_0]; decide) (by rw [n2_0]; decide) (by decide) ?_
    refine B_aload_n dX12_canStep_32 rfl rfl ?_
    refine B_aload_n dX12_canStep_33 rfl rfl ?_
    refine B_aload_n dX12_canStep_34 rfl rfl ?_
    refine B_getR dX12_canStep_35 fl_X12_49 shM_0 rfl (rfM_0_22 _) ?_
    refine B_iload_n dX12_canStep_38 rfl rfl ?_
    refine B_iconst dX12_canStep_39 ic_1 ?_
    refine B_iadd dX12_canStep_40 ?_
    refine C_chk (fun q3 => ?_)
    refine L_iald dX12_canStep_41 shM_9 q3 rfl ?_
    refine B_Vpb (st := []) dX12_canStep_42 cl_X12_353 (t_X12_canWalk w hw (h.1 9 (dI (x2 + 1))) h) (Nat.le_of_ble_eq_true rfl) shM_0 rfl rfl (Nat.le_of_ble_eq_true rfl) (fun v4 _ => ?_)
    exact B_zreturn dX12_canStep_45 rfl (nar_bi v4) rfl
  · refine C_ite (fun n2_1 => ?_) (fun n2_1 => ?_)
    · refine B_tswIn (off := 40) (tgt := 46) dX12_canStep_6 (by rw [n2_1]; decide) (by rw [n2_1]; decide) (by rw [n2_1]; decide) (by decide) ?_
      refine B_aload_n dX12_canStep_46 rfl rfl ?_
      refine B_aload_n dX12_canStep_47 rfl rfl ?_
      refine B_VTb (st := []) dX12_canStep_48 cl_X12_364 (t_X12_canRest w hw h) (Nat.le_of_ble_eq_true rfl) shM_0 rfl rfl (Nat.le_of_ble_eq_true rfl) ?_
      exact B_zreturn dX12_canStep_51 rfl (nar_bi (f_X12_canRest w h)) rfl
    · refine C_ite (fun n2_2 => ?_) (fun n2_2 => ?_)
      · refine B_tswIn (off := 46) (tgt := 52) dX12_canStep_6 (by rw [n2_2]; decide) (by rw [n2_2]; decide) (by rw [n2_2]; decide) (by decide) ?_
        refine B_aload_n dX12_canStep_52 rfl rfl ?_
        refine B_aload_n dX12_canStep_53 rfl rfl ?_
        refine B_aload_n dX12_canStep_54 rfl rfl ?_
        refine B_getR dX12_canStep_55 fl_X12_49 shM_0 rfl (rfM_0_22 _) ?_
        refine B_iload_n dX12_canStep_58 rfl rfl ?_
        refine B_iconst dX12_canStep_59 ic_1 ?_
        refine B_iadd dX12_canStep_60 ?_
        refine C_chk (fun q5 => ?_)
        refine L_iald dX12_canStep_61 shM_9 q5 rfl ?_
        refine B_VTb (st := []) dX12_canStep_62 cl_X12_372 (t_X12_canRestore w hw (h.1 9 (dI (x2 + 1))) h) (Nat.le_of_ble_eq_true rfl) shM_0 rfl rfl (Nat.le_of_ble_eq_true rfl) ?_
        exact B_zreturn dX12_canStep_65 rfl (nar_bi (f_X12_canRestore w (h.1 9 (dI (x2 + 1))) h)) rfl
      · refine B_tswOut (tgt := 66) dX12_canStep_6 (dsw (fun c h1 h2 => ?_)) (by decide) ?_
        · rcases (show c = 0 ∨ c = 1 ∨ c = 2 by omega) with rfl | rfl | rfl
          · exact n2_0
          · exact n2_1
          · exact n2_2
        · refine B_aload_n dX12_canStep_66 rfl rfl ?_
          refine B_bipush dX12_canStep_67 bp_27 ?_
          refine L_iald dX12_canStep_69 hw (by decide) di_27 ?_
          refine B_sipush dX12_canStep_70 sp_999 ?_
          refine C_icmp_ge (tgt := 80) dX12_canStep_73 (by decide) (fun q6 => ?_) (fun q6 => ?_)
          · refine B_iconst dX12_canStep_80 ic_0 ?_
            exact B_zreturn dX12_canStep_81 rfl rfl rfl
          · refine B_iconst dX12_canStep_76 ic_1 ?_
            refine B_goto (tgt := 81) dX12_canStep_77 (by decide) ?_
            exact B_zreturn dX12_canStep_81 rfl rfl rfl
def f_X12_steps0 (w : Nat) (x2 : Int32) (h : dH) : Option (dH) :=
  if dIn x2 160 then
  if (h.1 9 (dI x2)) = 0 then
  if dIn (x2 + 1) 160 then
  (f_X12_walks w (h.1 9 (dI (x2 + 1))) (h.1 5 2) h).bind fun rv4 =>
  some rv4.2
  else none
  else
  if (h.1 9 (dI x2)) = 1 then
  (f_X12_sitsDown w h).bind fun h7 =>
  some h7
  else
  if (h.1 9 (dI x2)) = 2 then
  if dIn (x2 + 1) 160 then
  (f_X12_restores w (h.1 9 (dI (x2 + 1))) h).bind fun h10 =>
  some h10
  else none
  else
  (f_X12_goDay w h).bind fun h12 =>
  some h12
  else none
set_option maxRecDepth 20000 in
set_option maxHeartbeats 4000000 in
theorem t_X12_steps0 (w : Nat) (hw : XM.1[w]? = some (.inr (0, 209))) (x2 : Int32) (h : dH) : T XM 86 yX12_steps0 cX12_steps0 4 none fiV [.ref 0, .ref w, .int x2] h (f_X12_steps0 w x2 h) := by
  refine T_of [.ref 0, .ref w, .int x2, .null] (by decide) (fun _ => rfl) (fun _ => Nat.le_of_ble_eq_true rfl) ?_
  show B XM 86 RX12 cX12_steps0 4 none fiV 0 [.ref 0, .ref w, .int x2, .null] [] h (f_X12_steps0 w x2 h)
  unfold f_X12_steps0
  refine B_aload_n dX12_steps0_0 rfl rfl ?_
  refine B_getR dX12_steps0_1 fl_X12_49 shM_0 rfl (rfM_0_22 _) ?_
  refine B_iload_n dX12_steps0_4 rfl rfl ?_
  refine C_chk (fun q1 => ?_)
  refine L_iald dX12_steps0_5 shM_9 q1 rfl ?_
  refine C_ite (fun n2_0 => ?_) (fun n2_0 => ?_)
  · refine B_tswIn (off := 26) (tgt := 32) dX12_steps0_6 (by rw [n2_0]; decide) (by rw [n2_0]; decide) (by rw [n2_0]; decide) (by decide) ?_
    refine B_aload_n dX12_steps0_32 rfl rfl ?_
    refine B_aload_n dX12_steps0_33 rfl rfl ?_
    refine B_aload_n dX12_steps0_34 rfl rfl ?_
    refine B_getR dX12_steps0_35 fl_X12_49 shM_0 rfl (rfM_0_22 _) ?_
    refine B_iload_n dX12_steps0_38 rfl rfl ?_
    refine B_iconst dX12_steps0_39 ic_1 ?_
    refine B_iadd dX12_steps0_40 ?_
    refine C_chk (fun q3 => ?_)
    refine L_iald dX12_steps0_41 shM_9 q3 rfl ?_
    refine B_aload_n dX12_steps0_42 rfl rfl ?_
    refine B_getR dX12_steps0_43 fl_X12_37 shM_0 rfl (rfM_0_18 _) ?_
    refine B_iconst dX12_steps0_46 ic_2 ?_
    refine L_iald dX12_steps0_47 shM_5 (by decide) di_2 ?_
    refine B_VI (st := []) dX12_steps0_48 cl_X12_360 (t_X12_walks w hw (h.1 9 (dI (x2 + 1))) (h.1 5 2) h) (Nat.le_of_ble_eq_true rfl) shM_0 rfl rfl (Nat.le_of_ble_eq_true rfl) (fun v4 h5 _ => ?_)
    refine B_istore_n (ls' := [.ref 0, .ref w, .int x2, .int v4]) dX12_steps0_51 rfl (Nat.le_of_ble_eq_true rfl) rfl rfl ?_
    refine B_goto (tgt := 82) dX12_steps0_52 (by decide) ?_
    exact B_return dX12_steps0_82 rfl rfl
  · refine C_ite (fun n2_1 => ?_) (fun n2_1 => ?_)
    · refine B_tswIn (off := 49) (tgt := 55) dX12_steps0_6 (by rw [n2_1]; decide) (by rw [n2_1]; decide) (by rw [n2_1]; decide) (by decide) ?_
      refine B_aload_n dX12_steps0_55 rfl rfl ?_
      refine B_SV (st := []) dX12_steps0_56 cl_X12_368 (t_X12_sitsDown w hw h) (Nat.le_of_ble_eq_true rfl) rfl rfl (Nat.le_of_ble_eq_true rfl) (fun h7 _ => ?_)
      refine B_goto (tgt := 82) dX12_steps0_59 (by decide) ?_
      exact B_return dX12_steps0_82 rfl rfl
    · refine C_ite (fun n2_2 => ?_) (fun n2_2 => ?_)
      · refine B_tswIn (off := 56) (tgt := 62) dX12_steps0_6 (by rw [n2_2]; decide) (by rw [n2_2]; decide) (by rw [n2_2]; decide) (by decide) ?_
        refine B_aload_n dX12_steps0_62 rfl rfl ?_
        refine B_aload_n dX12_steps0_63 rfl rfl ?_
        refine B_getR dX12_steps0_64 fl_X12_49 shM_0 rfl (rfM_0_22 _) ?_
        refine B_iload_n dX12_steps0_67 rfl rfl ?_
        refine B_iconst dX12_steps0_68 ic_1 ?_
        refine B_iadd dX12_steps0_69 ?_
        refine C_chk (fun q8 => ?_)
        refine L_iald dX12_steps0_70 shM_9 q8 rfl ?_
        refine B_SV (st := []) dX12_steps0_71 cl_X12_375 (t_X12_restores w hw (h.1 9 (dI (x2 + 1))) h) (Nat.le_of_ble_eq_true rfl) rfl rfl (Nat.le_of_ble_eq_true rfl) (fun h10 _ => ?_)
        refine B_goto (tgt := 82) dX12_steps0_74 (by decide) ?_
        exact B_return dX12_steps0_82 rfl rfl
      · refine B_tswOut (tgt := 77) dX12_steps0_6 (dsw (fun c h1 h2 => ?_)) (by decide) ?_
        · rcases (show c = 0 ∨ c = 1 ∨ c = 2 by omega) with rfl | rfl | rfl
          · exact n2_0
          · exact n2_1
          · exact n2_2
        · refine B_aload_n dX12_steps0_77 rfl rfl ?_
          refine B_aload_n dX12_steps0_78 rfl rfl ?_
          refine B_VV (st := []) dX12_steps0_79 cl_X12_381 (t_X12_goDay w hw h) (Nat.le_of_ble_eq_true rfl) shM_0 rfl rfl (Nat.le_of_ble_eq_true rfl) (fun h12 _ => ?_)
          exact B_return dX12_steps0_82 rfl rfl
def f_X12_run_J98 (y1 : Int32) (y2 : Int32) (y3 : Int32) (h : dH) : Option (Int32 × dH) :=
  if y2 = 1 then
  some (((h.1 12 25) - (h.1 11 25)), h)
  else
  if dIn y1 5 then
  if y3 = (h.1 10 (dI y1)) then
  some ((-1), h)
  else
  some (y3, h)
  else none
set_option maxRecDepth 20000 in
set_option maxHeartbeats 4000000 in
theorem b_X12_run_J98 (y1 : Int32) (y2 : Int32) (y3 : Int32) (h : dH) : B XM 87 RX12 cX12_run 4 (some .int) fiI 98 [.ref 0, .int y1, .int y2, .int y3] [] h (f_X12_run_J98 y1 y2 y3 h) := by
  unfold f_X12_run_J98
  refine B_iload_n dX12_run_98 rfl rfl ?_
  refine B_iconst dX12_run_99 ic_1 ?_
  refine C_icmp_ne (tgt := 119) dX12_run_100 (by decide) (fun q15 => ?_) (fun q15 => ?_)
  · refine B_iload_n dX12_run_119 rfl rfl ?_
    refine B_aload_n dX12_run_120 rfl rfl ?_
    refine B_getR dX12_run_121 fl_X12_52 shM_0 rfl (rfM_0_23 _) ?_
    refine B_iload_n dX12_run_124 rfl rfl ?_
    refine C_chk (fun q13 => ?_)
    refine L_iald dX12_run_125 shM_10 q13 rfl ?_
    refine C_icmp_ne (tgt := 133) dX12_run_126 (by decide) (fun q14 => ?_) (fun q14 => ?_)
    · refine B_iload_n dX12_run_133 rfl rfl ?_
      exact B_ireturn dX12_run_134 rfl rfl
    · refine B_iconst dX12_run_129 ic_m1 ?_
      refine B_goto (tgt := 134) dX12_run_130 (by decide) ?_
      exact B_ireturn dX12_run_134 rfl rfl
  · refine B_aload_n dX12_run_103 rfl rfl ?_
    refine B_getR dX12_run_104 fl_X12_58 shM_0 rfl (rfM_0_29 _) ?_
    refine B_bipush dX12_run_107 bp_25 ?_
    refine L_iald dX12_run_109 shM_12 (by decide) di_25 ?_
    refine B_aload_n dX12_run_110 rfl rfl ?_
    refine B_getR dX12_run_111 fl_X12_55 shM_0 rfl (rfM_0_28 _) ?_
    refine B_bipush dX12_run_114 bp_25 ?_
    refine L_iald dX12_run_116 shM_11 (by decide) di_25 ?_
    refine B_isub dX12_run_117 ?_
    exact B_ireturn dX12_run_118 rfl rfl
def f_X12_run_L47 : Nat → Int32 → Int32 → Int32 → dH → Option (Int32 × dH)
  | 0, _, _, _, _ => none
  | n + 1, y1, y2, y3, h =>
    if dIn y1 5 then
    if y3 < (h.1 10 (dI y1)) then
    (f_X12_canStep 12 (2 * ((16 * y1) + y3)) h).bind fun v8 =>
    if v8 then
    (f_X12_steps0 12 (2 * ((16 * y1) + y3)) h).bind fun h10 =>
    (f_X12_run_L47 n) y1 y2 (y3 + 1) h10
    else
    f_X12_run_J98 y1 y2 y3 h
    else
    f_X12_run_J98 y1 y2 y3 h
    else none
set_option maxRecDepth 20000 in
set_option maxHeartbeats 4000000 in
theorem b_X12_run_L47 : ∀ (n : Nat) (y1 : Int32) (y2 : Int32) (y3 : Int32) (h : dH), B XM 87 RX12 cX12_run 4 (some .int) fiI 47 [.ref 0, .int y1, .int y2, .int y3] [] h (f_X12_run_L47 n y1 y2 y3 h) := by
  intro n
  induction n with
  | zero =>
    intro y1 y2 y3 h
    exact B_none
  | succ n ih =>
    intro y1 y2 y3 h
    rw [f_X12_run_L47]
    refine B_iload_n dX12_run_47 rfl rfl ?_
    refine B_aload_n dX12_run_48 rfl rfl ?_
    refine B_getR dX12_run_49 fl_X12_52 shM_0 rfl (rfM_0_23 _) ?_
    refine B_iload_n dX12_run_52 rfl rfl ?_
    refine C_chk (fun q7 => ?_)
    refine L_iald dX12_run_53 shM_10 q7 rfl ?_
    refine C_icmp_ge (tgt := 98) dX12_run_54 (by decide) (fun q12 => ?_) (fun q12 => ?_)
    · exact b_X12_run_J98 y1 y2 y3 h
    · refine B_aload_n dX12_run_57 rfl rfl ?_
      refine B_aload_n dX12_run_58 rfl rfl ?_
      refine B_getR dX12_run_59 fl_X12_58 shM_0 rfl (rfM_0_29 _) ?_
      refine B_iconst dX12_run_62 ic_2 ?_
      refine B_bipush dX12_run_63 bp_16 ?_
      refine B_iload_n dX12_run_65 rfl rfl ?_
      refine B_imul dX12_run_66 ?_
      refine B_iload_n dX12_run_67 rfl rfl ?_
      refine B_iadd dX12_run_68 ?_
      refine B_imul dX12_run_69 ?_
      refine B_Vpb (st := []) dX12_run_70 cl_X12_405 (t_X12_canStep 12 shM_12 (2 * ((16 * y1) + y3)) h) (Nat.le_of_ble_eq_true rfl) shM_0 rfl rfl (Nat.le_of_ble_eq_true rfl) (fun v8 _ => ?_)
      refine C_ifb_eq (tgt := 98) dX12_run_73 (by decide) (fun q11 => ?_) (fun q11 => ?_)
      · exact b_X12_run_J98 y1 y2 y3 h
      · refine B_aload_n dX12_run_76 rfl rfl ?_
        refine B_aload_n dX12_run_77 rfl rfl ?_
        refine B_getR dX12_run_78 fl_X12_58 shM_0 rfl (rfM_0_29 _) ?_
        refine B_iconst dX12_run_81 ic_2 ?_
        refine B_bipush dX12_run_82 bp_16 ?_
        refine B_iload_n dX12_run_84 rfl rfl ?_
        refine B_imul dX12_run_85 ?_
        refine B_iload_n dX12_run_86 rfl rfl ?_
        refine B_iadd dX12_run_87 ?_
        refine B_imul dX12_run_88 ?_
        refine B_VV (st := []) dX12_run_89 cl_X12_408 (t_X12_steps0 12 shM_12 (2 * ((16 * y1) + y3)) h) (Nat.le_of_ble_eq_true rfl) shM_0 rfl rfl (Nat.le_of_ble_eq_true rfl) (fun h10 _ => ?_)
        refine B_iinc (w := (y3 + 1)) (ls' := [.ref 0, .int y1, .int y2, .int (y3 + 1)]) dX12_run_92 rfl (congrArg (fun z => y3 + z) ic_1) (Nat.le_of_ble_eq_true rfl) rfl rfl ?_
        refine B_goto (tgt := 47) dX12_run_95 (by decide) ?_
        exact ih y1 y2 (y3 + 1)  h10
def f_X12_run (x1 : Int32) (x2 : Int32) (h : dH) : Option (Int32 × dH) :=
  (some (dPut h 0 0 0)).bind fun h1 =>
  if (f_X12_isPlan x1 h1) then
  if (h1.1 0 24) = 0 then
  some ((-1000000), h1)
  else
  if (f_X12_isIn ((x2 : Int32).toInt64) 0 1 h1) then
  (f_X12_copy h1).bind fun h3 =>
  f_X12_run_L47 dFu x1 x2 0 h3
  else
  some ((-1000000), h1)
  else
  some ((-1000000), h1)
set_option maxRecDepth 20000 in
set_option maxHeartbeats 4000000 in
theorem t_X12_run (x1 : Int32) (x2 : Int32) (h : dH) : T XM 87 yX12_run cX12_run 4 (some .int) fiI [.ref 0, .int x1, .int x2] h (f_X12_run x1 x2 h) := by
  refine T_of [.ref 0, .int x1, .int x2, .null] (by decide) (fun _ => rfl) (fun _ => Nat.le_of_ble_eq_true rfl) ?_
  show B XM 87 RX12 cX12_run 4 (some .int) fiI 0 [.ref 0, .int x1, .int x2, .null] [] h (f_X12_run x1 x2 h)
  unfold f_X12_run
  refine B_aload_n dX12_run_0 rfl rfl ?_
  refine B_iconst dX12_run_1 ic_0 ?_
  refine B_putI dX12_run_2 fl_X12_103 fw_X12_0 shM_0 rfl ?_
  refine B_lh (fun h1 => ?_)
  refine B_aload_n dX12_run_5 rfl rfl ?_
  refine B_iload_n dX12_run_6 rfl rfl ?_
  refine B_VTb (st := []) dX12_run_7 cl_X12_397 (t_X12_isPlan x1 h1) (Nat.le_of_ble_eq_true rfl) shM_0 rfl rfl (Nat.le_of_ble_eq_true rfl) ?_
  refine C_ifb_eq (tgt := 30) dX12_run_10 (by decide) (fun q6 => ?_) (fun q6 => ?_)
  · refine B_ldcw dX12_run_30 kc_X12_400 ?_
    exact B_ireturn dX12_run_33 rfl rfl
  · refine B_aload_n dX12_run_13 rfl rfl ?_
    refine B_getI dX12_run_14 fl_X12_293 shM_0 rfl ?_
    refine C_if_eq (tgt := 30) dX12_run_17 (by decide) (fun q5 => ?_) (fun q5 => ?_)
    · refine B_ldcw dX12_run_30 kc_X12_400 ?_
      exact B_ireturn dX12_run_33 rfl rfl
    · refine B_iload_n dX12_run_20 rfl rfl ?_
      refine B_i2l dX12_run_21 ?_
      refine B_lconst (v := 0) dX12_run_22 (by decide) ?_
      refine B_lconst (v := 1) dX12_run_23 (by decide) ?_
      refine B_STb (st := []) dX12_run_24 cl_X12_224 (t_X12_isIn ((x2 : Int32).toInt64) 0 1 h1) (Nat.le_of_ble_eq_true rfl) rfl rfl (Nat.le_of_ble_eq_true rfl) ?_
      refine C_ifb_ne (tgt := 34) dX12_run_27 (by decide) (fun q4 => ?_) (fun q4 => ?_)
      · refine B_aload_n dX12_run_34 rfl rfl ?_
        refine B_getR dX12_run_35 fl_X12_55 shM_0 rfl (rfM_0_28 _) ?_
        refine B_aload_n dX12_run_38 rfl rfl ?_
        refine B_getR dX12_run_39 fl_X12_58 shM_0 rfl (rfM_0_29 _) ?_
        refine B_SV (st := []) dX12_run_42 cl_X12_401 (t_X12_copy h1) (Nat.le_of_ble_eq_true rfl) rfl rfl (Nat.le_of_ble_eq_true rfl) (fun h3 _ => ?_)
        refine B_iconst dX12_run_45 ic_0 ?_
        refine B_istore_n (ls' := [.ref 0, .int x1, .int x2, .int 0]) dX12_run_46 rfl (Nat.le_of_ble_eq_true rfl) rfl rfl ?_
        exact b_X12_run_L47 dFu x1 x2 0 h3
      · refine B_ldcw dX12_run_30 kc_X12_400 ?_
        exact B_ireturn dX12_run_33 rfl rfl
def f_X12_perform_L24 : Nat → Int32 → Int32 → dH → Option (Int32 × dH)
  | 0, _, _, _ => none
  | n + 1, y1, y2, h =>
    if dIn y1 5 then
    if y2 < (h.1 10 (dI y1)) then
    (f_X12_canStep 11 (2 * ((16 * y1) + y2)) h).bind fun v5 =>
    if v5 then
    (f_X12_remember h).bind fun h7 =>
    (f_X12_steps0 11 (2 * ((16 * y1) + y2)) h7).bind fun h9 =>
    (f_X12_perform_L24 n) y1 (y2 + 1) h9
    else
    some (y2, h)
    else
    some (y2, h)
    else none
set_option maxRecDepth 20000 in
set_option maxHeartbeats 4000000 in
theorem b_X12_perform_L24 : ∀ (n : Nat) (y1 : Int32) (y2 : Int32) (h : dH), B XM 87 RX12 cX12_perform 3 (some .int) fiI 24 [.ref 0, .int y1, .int y2] [] h (f_X12_perform_L24 n y1 y2 h) := by
  intro n
  induction n with
  | zero =>
    intro y1 y2 h
    exact B_none
  | succ n ih =>
    intro y1 y2 h
    rw [f_X12_perform_L24]
    refine B_iload_n dX12_perform_24 rfl rfl ?_
    refine B_aload_n dX12_perform_25 rfl rfl ?_
    refine B_getR dX12_perform_26 fl_X12_52 shM_0 rfl (rfM_0_23 _) ?_
    refine B_iload_n dX12_perform_29 rfl rfl ?_
    refine C_chk (fun q4 => ?_)
    refine L_iald dX12_perform_30 shM_10 q4 rfl ?_
    refine C_icmp_ge (tgt := 79) dX12_perform_31 (by decide) (fun q11 => ?_) (fun q11 => ?_)
    · refine B_iload_n dX12_perform_79 rfl rfl ?_
      exact B_ireturn dX12_perform_80 rfl rfl
    · refine B_aload_n dX12_perform_34 rfl rfl ?_
      refine B_aload_n dX12_perform_35 rfl rfl ?_
      refine B_getR dX12_perform_36 fl_X12_55 shM_0 rfl (rfM_0_28 _) ?_
      refine B_iconst dX12_perform_39 ic_2 ?_
      refine B_bipush dX12_perform_40 bp_16 ?_
      refine B_iload_n dX12_perform_42 rfl rfl ?_
      refine B_imul dX12_perform_43 ?_
      refine B_iload_n dX12_perform_44 rfl rfl ?_
      refine B_iadd dX12_perform_45 ?_
      refine B_imul dX12_perform_46 ?_
      refine B_Vpb (st := []) dX12_perform_47 cl_X12_405 (t_X12_canStep 11 shM_11 (2 * ((16 * y1) + y2)) h) (Nat.le_of_ble_eq_true rfl) shM_0 rfl rfl (Nat.le_of_ble_eq_true rfl) (fun v5 _ => ?_)
      refine C_ifb_eq (tgt := 79) dX12_perform_50 (by decide) (fun q10 => ?_) (fun q10 => ?_)
      · refine B_iload_n dX12_perform_79 rfl rfl ?_
        exact B_ireturn dX12_perform_80 rfl rfl
      · refine B_aload_n dX12_perform_53 rfl rfl ?_
        refine B_VV (st := []) dX12_perform_54 cl_X12_357 (t_X12_remember h) (Nat.le_of_ble_eq_true rfl) shM_0 rfl rfl (Nat.le_of_ble_eq_true rfl) (fun h7 _ => ?_)
        refine B_aload_n dX12_perform_57 rfl rfl ?_
        refine B_aload_n dX12_perform_58 rfl rfl ?_
        refine B_getR dX12_perform_59 fl_X12_55 shM_0 rfl (rfM_0_28 _) ?_
        refine B_iconst dX12_perform_62 ic_2 ?_
        refine B_bipush dX12_perform_63 bp_16 ?_
        refine B_iload_n dX12_perform_65 rfl rfl ?_
        refine B_imul dX12_perform_66 ?_
        refine B_iload_n dX12_perform_67 rfl rfl ?_
        refine B_iadd dX12_perform_68 ?_
        refine B_imul dX12_perform_69 ?_
        refine B_VV (st := []) dX12_perform_70 cl_X12_408 (t_X12_steps0 11 shM_11 (2 * ((16 * y1) + y2)) h7) (Nat.le_of_ble_eq_true rfl) shM_0 rfl rfl (Nat.le_of_ble_eq_true rfl) (fun h9 _ => ?_)
        refine B_iinc (w := (y2 + 1)) (ls' := [.ref 0, .int y1, .int (y2 + 1)]) dX12_perform_73 rfl (congrArg (fun z => y2 + z) ic_1) (Nat.le_of_ble_eq_true rfl) rfl rfl ?_
        refine B_goto (tgt := 24) dX12_perform_76 (by decide) ?_
        exact ih y1 (y2 + 1)  h9
def f_X12_perform (x1 : Int32) (h : dH) : Option (Int32 × dH) :=
  (some (dPut h 0 0 0)).bind fun h1 =>
  if (f_X12_isPlan x1 h1) then
  if (h1.1 0 24) = 0 then
  some ((-1), h1)
  else
  f_X12_perform_L24 dFu x1 0 h1
  else
  some ((-1), h1)
set_option maxRecDepth 20000 in
set_option maxHeartbeats 4000000 in
theorem t_X12_perform (x1 : Int32) (h : dH) : T XM 87 yX12_perform cX12_perform 3 (some .int) fiI [.ref 0, .int x1] h (f_X12_perform x1 h) := by
  refine T_of [.ref 0, .int x1, .null] (by decide) (fun _ => rfl) (fun _ => Nat.le_of_ble_eq_true rfl) ?_
  show B XM 87 RX12 cX12_perform 3 (some .int) fiI 0 [.ref 0, .int x1, .null] [] h (f_X12_perform x1 h)
  unfold f_X12_perform
  refine B_aload_n dX12_perform_0 rfl rfl ?_
  refine B_iconst dX12_perform_1 ic_0 ?_
  refine B_putI dX12_perform_2 fl_X12_103 fw_X12_0 shM_0 rfl ?_
  refine B_lh (fun h1 => ?_)
  refine B_aload_n dX12_perform_5 rfl rfl ?_
  refine B_iload_n dX12_perform_6 rfl rfl ?_
  refine B_VTb (st := []) dX12_perform_7 cl_X12_397 (t_X12_isPlan x1 h1) (Nat.le_of_ble_eq_true rfl) shM_0 rfl rfl (Nat.le_of_ble_eq_true rfl) ?_
  refine C_ifb_eq (tgt := 20) dX12_perform_10 (by decide) (fun q3 => ?_) (fun q3 => ?_)
  · refine B_iconst dX12_perform_20 ic_m1 ?_
    exact B_ireturn dX12_perform_21 rfl rfl
  · refine B_aload_n dX12_perform_13 rfl rfl ?_
    refine B_getI dX12_perform_14 fl_X12_293 shM_0 rfl ?_
    refine C_if_ne (tgt := 22) dX12_perform_17 (by decide) (fun q2 => ?_) (fun q2 => ?_)
    · refine B_iconst dX12_perform_22 ic_0 ?_
      refine B_istore_n (ls' := [.ref 0, .int x1, .int 0]) dX12_perform_23 rfl (Nat.le_of_ble_eq_true rfl) rfl rfl ?_
      exact b_X12_perform_L24 dFu x1 0 h1
    · refine B_iconst dX12_perform_20 ic_m1 ?_
      exact B_ireturn dX12_perform_21 rfl rfl
def f_X12_troubles (x1 : Int32) (h : dH) : Option (Int32 × dH) :=
  (some (dPut h 0 0 0)).bind fun h1 =>
  if (f_X12_isPlace x1 h1) then
  (f_X12_of x1 3 h1).bind fun v2 =>
  (f_X12_trouble 11 x1 v2 (h1.1 5 2) h1).bind fun rv3 =>
  some (rv3.1, rv3.2)
  else
  some ((-1), h1)
set_option maxRecDepth 20000 in
set_option maxHeartbeats 4000000 in
theorem t_X12_troubles (x1 : Int32) (h : dH) : T XM 85 yX12_troubles cX12_troubles 2 (some .int) fiI [.ref 0, .int x1] h (f_X12_troubles x1 h) := by
  refine T_of [.ref 0, .int x1] (by decide) (fun _ => rfl) (fun _ => Nat.le_of_ble_eq_true rfl) ?_
  show B XM 85 RX12 cX12_troubles 2 (some .int) fiI 0 [.ref 0, .int x1] [] h (f_X12_troubles x1 h)
  unfold f_X12_troubles
  refine B_aload_n dX12_troubles_0 rfl rfl ?_
  refine B_iconst dX12_troubles_1 ic_0 ?_
  refine B_putI dX12_troubles_2 fl_X12_103 fw_X12_0 shM_0 rfl ?_
  refine B_lh (fun h1 => ?_)
  refine B_aload_n dX12_troubles_5 rfl rfl ?_
  refine B_iload_n dX12_troubles_6 rfl rfl ?_
  refine B_VTb (st := []) dX12_troubles_7 cl_X12_339 (t_X12_isPlace x1 h1) (Nat.le_of_ble_eq_true rfl) shM_0 rfl rfl (Nat.le_of_ble_eq_true rfl) ?_
  refine C_ifb_eq (tgt := 37) dX12_troubles_10 (by decide) (fun q5 => ?_) (fun q5 => ?_)
  · refine B_iconst dX12_troubles_37 ic_m1 ?_
    exact B_ireturn dX12_troubles_38 rfl rfl
  · refine B_aload_n dX12_troubles_13 rfl rfl ?_
    refine B_aload_n dX12_troubles_14 rfl rfl ?_
    refine B_getR dX12_troubles_15 fl_X12_55 shM_0 rfl (rfM_0_28 _) ?_
    refine B_iload_n dX12_troubles_18 rfl rfl ?_
    refine B_aload_n dX12_troubles_19 rfl rfl ?_
    refine B_iload_n dX12_troubles_20 rfl rfl ?_
    refine B_iconst dX12_troubles_21 ic_3 ?_
    refine B_Vp (st := [.int x1, .ref 11, .ref 0]) dX12_troubles_22 cl_X12_305 (t_X12_of x1 3 h1) (Nat.le_of_ble_eq_true rfl) shM_0 rfl rfl (Nat.le_of_ble_eq_true rfl) (fun v2 _ => ?_)
    refine B_aload_n dX12_troubles_25 rfl rfl ?_
    refine B_getR dX12_troubles_26 fl_X12_37 shM_0 rfl (rfM_0_18 _) ?_
    refine B_iconst dX12_troubles_29 ic_2 ?_
    refine L_iald dX12_troubles_30 shM_5 (by decide) di_2 ?_
    refine B_VI (st := []) dX12_troubles_31 cl_X12_342 (t_X12_trouble 11 shM_11 x1 v2 (h1.1 5 2) h1) (Nat.le_of_ble_eq_true rfl) shM_0 rfl rfl (Nat.le_of_ble_eq_true rfl) (fun v3 h4 _ => ?_)
    refine B_goto (tgt := 38) dX12_troubles_34 (by decide) ?_
    exact B_ireturn dX12_troubles_38 rfl rfl
def f_X12_keep_L2 : Nat → Int32 → Int32 → dH → Option (dH)
  | 0, _, _, _ => none
  | n + 1, y1, y2, h =>
    if y2 < 29 then
    if dIn y2 209 then
    if dIn ((29 * y1) + y2) 232 then
    (some (dPut h 16 (dI ((29 * y1) + y2)) (h.1 12 (dI y2)))).bind fun h3 =>
    (f_X12_keep_L2 n) y1 (y2 + 1) h3
    else none
    else none
    else
    some h
set_option maxRecDepth 20000 in
set_option maxHeartbeats 4000000 in
theorem b_X12_keep_L2 : ∀ (n : Nat) (y1 : Int32) (y2 : Int32) (h : dH), B XM 0 RX12 cX12_keep 3 none fiV 2 [.ref 0, .int y1, .int y2] [] h (f_X12_keep_L2 n y1 y2 h) := by
  intro n
  induction n with
  | zero =>
    intro y1 y2 h
    exact B_none
  | succ n ih =>
    intro y1 y2 h
    rw [f_X12_keep_L2]
    refine B_iload_n dX12_keep_2 rfl rfl ?_
    refine B_bipush dX12_keep_3 bp_29 ?_
    refine C_icmp_ge (tgt := 31) dX12_keep_5 (by decide) (fun q4 => ?_) (fun q4 => ?_)
    · exact B_return dX12_keep_31 rfl rfl
    · refine B_aload_n dX12_keep_8 rfl rfl ?_
      refine B_getR dX12_keep_9 fl_X12_78 shM_0 rfl (rfM_0_37 _) ?_
      refine B_bipush dX12_keep_12 bp_29 ?_
      refine B_iload_n dX12_keep_14 rfl rfl ?_
      refine B_imul dX12_keep_15 ?_
      refine B_iload_n dX12_keep_16 rfl rfl ?_
      refine B_iadd dX12_keep_17 ?_
      refine B_aload_n dX12_keep_18 rfl rfl ?_
      refine B_getR dX12_keep_19 fl_X12_58 shM_0 rfl (rfM_0_29 _) ?_
      refine B_iload_n dX12_keep_22 rfl rfl ?_
      refine C_chk (fun q1 => ?_)
      refine L_iald dX12_keep_23 shM_12 q1 rfl ?_
      refine C_chk (fun q2 => ?_)
      refine L_iast dX12_keep_24 shM_16 q2 rfl ?_
      refine B_lh (fun h3 => ?_)
      refine B_iinc (w := (y2 + 1)) (ls' := [.ref 0, .int y1, .int (y2 + 1)]) dX12_keep_25 rfl (congrArg (fun z => y2 + z) ic_1) (Nat.le_of_ble_eq_true rfl) rfl rfl ?_
      refine B_goto (tgt := 2) dX12_keep_28 (by decide) ?_
      exact ih y1 (y2 + 1)  h3
def f_X12_keep (x1 : Int32) (h : dH) : Option (dH) :=
  f_X12_keep_L2 dFu x1 0 h
set_option maxRecDepth 20000 in
set_option maxHeartbeats 4000000 in
theorem t_X12_keep (x1 : Int32) (h : dH) : T XM 0 yX12_keep cX12_keep 3 none fiV [.ref 0, .int x1] h (f_X12_keep x1 h) := by
  refine T_of [.ref 0, .int x1, .null] (by decide) (fun _ => rfl) (fun _ => Nat.le_of_ble_eq_true rfl) ?_
  show B XM 0 RX12 cX12_keep 3 none fiV 0 [.ref 0, .int x1, .null] [] h (f_X12_keep x1 h)
  unfold f_X12_keep
  refine B_iconst dX12_keep_0 ic_0 ?_
  refine B_istore_n (ls' := [.ref 0, .int x1, .int 0]) dX12_keep_1 rfl (Nat.le_of_ble_eq_true rfl) rfl rfl ?_
  exact b_X12_keep_L2 dFu x1 0 h
def f_X12_again_L2 : Nat → Int32 → Int32 → dH → Option (dH)
  | 0, _, _, _ => none
  | n + 1, y1, y2, h =>
    if y2 < 29 then
    if dIn ((29 * y1) + y2) 232 then
    if dIn y2 209 then
    (some (dPut h 12 (dI y2) (h.1 16 (dI ((29 * y1) + y2))))).bind fun h3 =>
    (f_X12_again_L2 n) y1 (y2 + 1) h3
    else none
    else none
    else
    some h
set_option maxRecDepth 20000 in
set_option maxHeartbeats 4000000 in
theorem b_X12_again_L2 : ∀ (n : Nat) (y1 : Int32) (y2 : Int32) (h : dH), B XM 0 RX12 cX12_again 3 none fiV 2 [.ref 0, .int y1, .int y2] [] h (f_X12_again_L2 n y1 y2 h) := by
  intro n
  induction n with
  | zero =>
    intro y1 y2 h
    exact B_none
  | succ n ih =>
    intro y1 y2 h
    rw [f_X12_again_L2]
    refine B_iload_n dX12_again_2 rfl rfl ?_
    refine B_bipush dX12_again_3 bp_29 ?_
    refine C_icmp_ge (tgt := 31) dX12_again_5 (by decide) (fun q4 => ?_) (fun q4 => ?_)
    · exact B_return dX12_again_31 rfl rfl
    · refine B_aload_n dX12_again_8 rfl rfl ?_
      refine B_getR dX12_again_9 fl_X12_58 shM_0 rfl (rfM_0_29 _) ?_
      refine B_iload_n dX12_again_12 rfl rfl ?_
      refine B_aload_n dX12_again_13 rfl rfl ?_
      refine B_getR dX12_again_14 fl_X12_78 shM_0 rfl (rfM_0_37 _) ?_
      refine B_bipush dX12_again_17 bp_29 ?_
      refine B_iload_n dX12_again_19 rfl rfl ?_
      refine B_imul dX12_again_20 ?_
      refine B_iload_n dX12_again_21 rfl rfl ?_
      refine B_iadd dX12_again_22 ?_
      refine C_chk (fun q1 => ?_)
      refine L_iald dX12_again_23 shM_16 q1 rfl ?_
      refine C_chk (fun q2 => ?_)
      refine L_iast dX12_again_24 shM_12 q2 rfl ?_
      refine B_lh (fun h3 => ?_)
      refine B_iinc (w := (y2 + 1)) (ls' := [.ref 0, .int y1, .int (y2 + 1)]) dX12_again_25 rfl (congrArg (fun z => y2 + z) ic_1) (Nat.le_of_ble_eq_true rfl) rfl rfl ?_
      refine B_goto (tgt := 2) dX12_again_28 (by decide) ?_
      exact ih y1 (y2 + 1)  h3
def f_X12_again (x1 : Int32) (h : dH) : Option (dH) :=
  f_X12_again_L2 dFu x1 0 h
set_option maxRecDepth 20000 in
set_option maxHeartbeats 4000000 in
theorem t_X12_again (x1 : Int32) (h : dH) : T XM 0 yX12_again cX12_again 3 none fiV [.ref 0, .int x1] h (f_X12_again x1 h) := by
  refine T_of [.ref 0, .int x1, .null] (by decide) (fun _ => rfl) (fun _ => Nat.le_of_ble_eq_true rfl) ?_
  show B XM 0 RX12 cX12_again 3 none fiV 0 [.ref 0, .int x1, .null] [] h (f_X12_again x1 h)
  unfold f_X12_again
  refine B_iconst dX12_again_0 ic_0 ?_
  refine B_istore_n (ls' := [.ref 0, .int x1, .int 0]) dX12_again_1 rfl (Nat.le_of_ble_eq_true rfl) rfl rfl ?_
  exact b_X12_again_L2 dFu x1 0 h
def f_X12_goSees_J214 (rc_X12_goSees : Int32 → Int32 → Int32 → dH → Option (dH)) (kL128 : Int32 → Int32 → Int32 → Int32 → dH → Option (dH)) (y1 : Int32) (y2 : Int32) (y3 : Int32) (y4 : Int32) (h : dH) : Option (dH) :=
  kL128 y1 y2 y3 (y4 + 1) h
set_option maxRecDepth 20000 in
set_option maxHeartbeats 4000000 in
theorem b_X12_goSees_J214 {Dr : Nat} {rc_X12_goSees : Int32 → Int32 → Int32 → dH → Option (dH)} {kL128 : Int32 → Int32 → Int32 → Int32 → dH → Option (dH)} (hDr : 86 ≤ Dr) (hrc_X12_goSees : ∀ (x1 : Int32) (x2 : Int32) (x3 : Int32) (h : dH), T XM Dr yX12_goSees cX12_goSees 6 none fiV [.ref 0, .int x1, .int x2, .int x3] h (rc_X12_goSees x1 x2 x3 h)) (hkL128 : ∀ (y1 : Int32) (y2 : Int32) (y3 : Int32) (y4 : Int32) (h : dH), B XM (Dr + 1) RX12 cX12_goSees 6 none fiV 128 [.ref 0, .int y1, .int y2, .int y3, .int y4, .null] [] h (kL128 y1 y2 y3 y4 h)) (y1 : Int32) (y2 : Int32) (y3 : Int32) (y4 : Int32) (h : dH) : B XM (Dr + 1) RX12 cX12_goSees 6 none fiV 214 [.ref 0, .int y1, .int y2, .int y3, .int y4, .null] [] h (f_X12_goSees_J214 rc_X12_goSees kL128 y1 y2 y3 y4 h) := by
  unfold f_X12_goSees_J214
  refine B_iinc (w := (y4 + 1)) (ls' := [.ref 0, .int y1, .int y2, .int y3, .int (y4 + 1), .null]) dX12_goSees_214 rfl (congrArg (fun z => y4 + z) ic_1) (Nat.le_of_ble_eq_true rfl) rfl rfl ?_
  refine B_goto (tgt := 128) dX12_goSees_217 (by decide) ?_
  exact hkL128 y1 y2 y3 (y4 + 1)  h
def f_X12_goSees_J206 (rc_X12_goSees : Int32 → Int32 → Int32 → dH → Option (dH)) (kL128 : Int32 → Int32 → Int32 → Int32 → dH → Option (dH)) (y1 : Int32) (y2 : Int32) (y3 : Int32) (y4 : Int32) (z1 : Int32) (z2 : Int32) (z3 : Int32) (h : dH) : Option (dH) :=
  (rc_X12_goSees z1 z2 z3 h).bind fun h25 =>
  (f_X12_again y1 h25).bind fun h27 =>
  f_X12_goSees_J214 rc_X12_goSees kL128 y1 y2 y3 y4 h27
set_option maxRecDepth 20000 in
set_option maxHeartbeats 4000000 in
theorem b_X12_goSees_J206 {Dr : Nat} {rc_X12_goSees : Int32 → Int32 → Int32 → dH → Option (dH)} {kL128 : Int32 → Int32 → Int32 → Int32 → dH → Option (dH)} (hDr : 86 ≤ Dr) (hrc_X12_goSees : ∀ (x1 : Int32) (x2 : Int32) (x3 : Int32) (h : dH), T XM Dr yX12_goSees cX12_goSees 6 none fiV [.ref 0, .int x1, .int x2, .int x3] h (rc_X12_goSees x1 x2 x3 h)) (hkL128 : ∀ (y1 : Int32) (y2 : Int32) (y3 : Int32) (y4 : Int32) (h : dH), B XM (Dr + 1) RX12 cX12_goSees 6 none fiV 128 [.ref 0, .int y1, .int y2, .int y3, .int y4, .null] [] h (kL128 y1 y2 y3 y4 h)) (y1 : Int32) (y2 : Int32) (y3 : Int32) (y4 : Int32) (z1 : Int32) (z2 : Int32) (z3 : Int32) (h : dH) : B XM (Dr + 1) RX12 cX12_goSees 6 none fiV 206 [.ref 0, .int y1, .int y2, .int y3, .int y4, .null] [.int z3, .int z2, .int z1, .ref 0] h (f_X12_goSees_J206 rc_X12_goSees kL128 y1 y2 y3 y4 z1 z2 z3 h) := by
  unfold f_X12_goSees_J206
  refine B_VV (st := []) dX12_goSees_206 cl_X12_426 (hrc_X12_goSees z1 z2 z3 h) (by omega) shM_0 rfl rfl (Nat.le_of_ble_eq_true rfl) (fun h25 _ => ?_)
  refine B_aload_n dX12_goSees_209 rfl rfl ?_
  refine B_iload_n dX12_goSees_210 rfl rfl ?_
  refine B_VV (st := []) dX12_goSees_211 cl_X12_430 (t_X12_again y1 h25) (by omega) shM_0 rfl rfl (Nat.le_of_ble_eq_true rfl) (fun h27 _ => ?_)
  exact b_X12_goSees_J214 hDr hrc_X12_goSees hkL128 y1 y2 y3 y4 h27
def f_X12_goSees_L128 (rc_X12_goSees : Int32 → Int32 → Int32 → dH → Option (dH)) : Nat → Int32 → Int32 → Int32 → Int32 → dH → Option (dH)
  | 0, _, _, _, _, _ => none
  | n + 1, y1, y2, y3, y4, h =>
    if y4 < (h.1 0 24) then
    if (f_X12_has y2 y4 h) then
    f_X12_goSees_J214 rc_X12_goSees (f_X12_goSees_L128 rc_X12_goSees n) y1 y2 y3 y4 h
    else
    (f_X12_canWalk 12 y4 h).bind fun v12 =>
    if v12 then
    (f_X12_walks 12 y4 (h.1 5 2) h).bind fun rv13 =>
    if y1 = 0 then
    f_X12_goSees_J206 rc_X12_goSees (f_X12_goSees_L128 rc_X12_goSees n) y1 y2 y3 y4 (y1 + 1) (y2 ||| (1 <<< (y4 &&& 31))) y4 rv13.2
    else
    f_X12_goSees_J206 rc_X12_goSees (f_X12_goSees_L128 rc_X12_goSees n) y1 y2 y3 y4 (y1 + 1) (y2 ||| (1 <<< (y4 &&& 31))) ((10 * y3) + y4) rv13.2
    else
    f_X12_goSees_J214 rc_X12_goSees (f_X12_goSees_L128 rc_X12_goSees n) y1 y2 y3 y4 h
    else
    some h
set_option maxRecDepth 20000 in
set_option maxHeartbeats 4000000 in
theorem b_X12_goSees_L128 {Dr : Nat} {rc_X12_goSees : Int32 → Int32 → Int32 → dH → Option (dH)} (hDr : 86 ≤ Dr) (hrc_X12_goSees : ∀ (x1 : Int32) (x2 : Int32) (x3 : Int32) (h : dH), T XM Dr yX12_goSees cX12_goSees 6 none fiV [.ref 0, .int x1, .int x2, .int x3] h (rc_X12_goSees x1 x2 x3 h)) : ∀ (n : Nat) (y1 : Int32) (y2 : Int32) (y3 : Int32) (y4 : Int32) (h : dH), B XM (Dr + 1) RX12 cX12_goSees 6 none fiV 128 [.ref 0, .int y1, .int y2, .int y3, .int y4, .null] [] h (f_X12_goSees_L128 rc_X12_goSees n y1 y2 y3 y4 h) := by
  intro n
  induction n with
  | zero =>
    intro y1 y2 y3 y4 h
    exact B_none
  | succ n ih =>
    intro y1 y2 y3 y4 h
    rw [f_X12_goSees_L128]
    refine B_iload dX12_goSees_128 rfl ?_
    refine B_aload_n dX12_goSees_130 rfl rfl ?_
    refine B_getI dX12_goSees_131 fl_X12_293 shM_0 rfl ?_
    refine C_icmp_ge (tgt := 220) dX12_goSees_134 (by decide) (fun q18 => ?_) (fun q18 => ?_)
    · exact B_return dX12_goSees_220 rfl rfl
    · refine B_iload_n dX12_goSees_137 rfl rfl ?_
      refine B_iload dX12_goSees_138 rfl ?_
      refine B_STb (st := []) dX12_goSees_140 cl_X12_236 (t_X12_has y2 y4 h) (by omega) rfl rfl (Nat.le_of_ble_eq_true rfl) ?_
      refine C_ifb_ne (tgt := 214) dX12_goSees_143 (by decide) (fun q17 => ?_) (fun q17 => ?_)
      · exact b_X12_goSees_J214 hDr hrc_X12_goSees (fun qy1 qy2 qy3 qy4 qh => ih qy1 qy2 qy3 qy4 qh) y1 y2 y3 y4 h
      · refine B_aload_n dX12_goSees_146 rfl rfl ?_
        refine B_aload_n dX12_goSees_147 rfl rfl ?_
        refine B_getR dX12_goSees_148 fl_X12_58 shM_0 rfl (rfM_0_29 _) ?_
        refine B_iload dX12_goSees_151 rfl ?_
        refine B_Vpb (st := []) dX12_goSees_153 cl_X12_353 (t_X12_canWalk 12 shM_12 y4 h) (by omega) shM_0 rfl rfl (Nat.le_of_ble_eq_true rfl) (fun v12 _ => ?_)
        refine C_ifb_ne (tgt := 162) dX12_goSees_156 (by decide) (fun q16 => ?_) (fun q16 => ?_)
        · refine B_aload_n dX12_goSees_162 rfl rfl ?_
          refine B_aload_n dX12_goSees_163 rfl rfl ?_
          refine B_getR dX12_goSees_164 fl_X12_58 shM_0 rfl (rfM_0_29 _) ?_
          refine B_iload dX12_goSees_167 rfl ?_
          refine B_aload_n dX12_goSees_169 rfl rfl ?_
          refine B_getR dX12_goSees_170 fl_X12_37 shM_0 rfl (rfM_0_18 _) ?_
          refine B_iconst dX12_goSees_173 ic_2 ?_
          refine L_iald dX12_goSees_174 shM_5 (by decide) di_2 ?_
          refine B_VI (st := []) dX12_goSees_175 cl_X12_360 (t_X12_walks 12 shM_12 y4 (h.1 5 2) h) (by omega) shM_0 rfl rfl (Nat.le_of_ble_eq_true rfl) (fun v13 h14 _ => ?_)
          refine B_istore (ls' := [.ref 0, .int y1, .int y2, .int y3, .int y4, .int v13]) dX12_goSees_178 (Nat.le_of_ble_eq_true rfl) rfl rfl ?_
          refine B_aload_n dX12_goSees_180 rfl rfl ?_
          refine B_iload_n dX12_goSees_181 rfl rfl ?_
          refine B_iconst dX12_goSees_182 ic_1 ?_
          refine B_iadd dX12_goSees_183 ?_
          refine B_iload_n dX12_goSees_184 rfl rfl ?_
          refine B_iconst dX12_goSees_185 ic_1 ?_
          refine B_iload dX12_goSees_186 rfl ?_
          refine B_ishl dX12_goSees_188 ?_
          refine B_ior dX12_goSees_189 ?_
          refine B_iload_n dX12_goSees_190 rfl rfl ?_
          refine C_if_ne (tgt := 199) dX12_goSees_191 (by decide) (fun q15 => ?_) (fun q15 => ?_)
          · refine B_bipush dX12_goSees_199 bp_10 ?_
            refine B_iload_n dX12_goSees_201 rfl rfl ?_
            refine B_imul dX12_goSees_202 ?_
            refine B_iload dX12_goSees_203 rfl ?_
            refine B_iadd dX12_goSees_205 ?_
            refine B_drop 5 (ls' := [.ref 0, .int y1, .int y2, .int y3, .int y4, .null]) rfl ?_
            exact b_X12_goSees_J206 hDr hrc_X12_goSees (fun qy1 qy2 qy3 qy4 qh => ih qy1 qy2 qy3 qy4 qh) y1 y2 y3 y4 (y1 + 1) (y2 ||| (1 <<< (y4 &&& 31))) ((10 * y3) + y4) h14
          · refine B_iload dX12_goSees_194 rfl ?_
            refine B_goto (tgt := 206) dX12_goSees_196 (by decide) ?_
            refine B_drop 5 (ls' := [.ref 0, .int y1, .int y2, .int y3, .int y4, .null]) rfl ?_
            exact b_X12_goSees_J206 hDr hrc_X12_goSees (fun qy1 qy2 qy3 qy4 qh => ih qy1 qy2 qy3 qy4 qh) y1 y2 y3 y4 (y1 + 1) (y2 ||| (1 <<< (y4 &&& 31))) y4 h14
        · refine B_goto (tgt := 214) dX12_goSees_159 (by decide) ?_
          exact b_X12_goSees_J214 hDr hrc_X12_goSees (fun qy1 qy2 qy3 qy4 qh => ih qy1 qy2 qy3 qy4 qh) y1 y2 y3 y4 h
def f_X12_goSees_J120 (rc_X12_goSees : Int32 → Int32 → Int32 → dH → Option (dH)) (y1 : Int32) (y2 : Int32) (y3 : Int32) (h : dH) : Option (dH) :=
  (f_X12_keep y1 h).bind fun h11 =>
  f_X12_goSees_L128 rc_X12_goSees dFu y1 y2 y3 0 h11
set_option maxRecDepth 20000 in
set_option maxHeartbeats 4000000 in
theorem b_X12_goSees_J120 {Dr : Nat} {rc_X12_goSees : Int32 → Int32 → Int32 → dH → Option (dH)} (hDr : 86 ≤ Dr) (hrc_X12_goSees : ∀ (x1 : Int32) (x2 : Int32) (x3 : Int32) (h : dH), T XM Dr yX12_goSees cX12_goSees 6 none fiV [.ref 0, .int x1, .int x2, .int x3] h (rc_X12_goSees x1 x2 x3 h)) (y1 : Int32) (y2 : Int32) (y3 : Int32) (h : dH) : B XM (Dr + 1) RX12 cX12_goSees 6 none fiV 120 [.ref 0, .int y1, .int y2, .int y3, .null, .null] [] h (f_X12_goSees_J120 rc_X12_goSees y1 y2 y3 h) := by
  unfold f_X12_goSees_J120
  refine B_aload_n dX12_goSees_120 rfl rfl ?_
  refine B_iload_n dX12_goSees_121 rfl rfl ?_
  refine B_VV (st := []) dX12_goSees_122 cl_X12_423 (t_X12_keep y1 h) (by omega) shM_0 rfl rfl (Nat.le_of_ble_eq_true rfl) (fun h11 _ => ?_)
  refine B_iconst dX12_goSees_125 ic_0 ?_
  refine B_istore (ls' := [.ref 0, .int y1, .int y2, .int y3, .int 0, .null]) dX12_goSees_126 (Nat.le_of_ble_eq_true rfl) rfl rfl ?_
  exact b_X12_goSees_L128 hDr hrc_X12_goSees dFu y1 y2 y3 0 h11
def f_X12_goSees_J86 (rc_X12_goSees : Int32 → Int32 → Int32 → dH → Option (dH)) (y1 : Int32) (y2 : Int32) (y3 : Int32) (y4 : Int32) (z0 : Bool) (h : dH) : Option (dH) :=
  if z0 then
  (some (dPut h 0 39 y4)).bind fun h19 =>
  (some (dPut h19 0 40 y1)).bind fun h20 =>
  (some (dPut h20 0 38 y3)).bind fun h21 =>
  (some (dPut h21 0 41 (h21.1 12 21))).bind fun h22 =>
  f_X12_goSees_J120 rc_X12_goSees y1 y2 y3 h22
  else
  f_X12_goSees_J120 rc_X12_goSees y1 y2 y3 h
set_option maxRecDepth 20000 in
set_option maxHeartbeats 4000000 in
theorem b_X12_goSees_J86 {Dr : Nat} {rc_X12_goSees : Int32 → Int32 → Int32 → dH → Option (dH)} (hDr : 86 ≤ Dr) (hrc_X12_goSees : ∀ (x1 : Int32) (x2 : Int32) (x3 : Int32) (h : dH), T XM Dr yX12_goSees cX12_goSees 6 none fiV [.ref 0, .int x1, .int x2, .int x3] h (rc_X12_goSees x1 x2 x3 h)) (y1 : Int32) (y2 : Int32) (y3 : Int32) (y4 : Int32) (z0 : Bool) (h : dH) : B XM (Dr + 1) RX12 cX12_goSees 6 none fiV 86 [.ref 0, .int y1, .int y2, .int y3, .int y4, .null] [.int (bi z0)] h (f_X12_goSees_J86 rc_X12_goSees y1 y2 y3 y4 z0 h) := by
  unfold f_X12_goSees_J86
  refine B_istore (ls' := [.ref 0, .int y1, .int y2, .int y3, .int y4, .int (bi z0)]) dX12_goSees_86 (Nat.le_of_ble_eq_true rfl) rfl rfl ?_
  refine B_iload dX12_goSees_88 rfl ?_
  refine C_ifb_eq (tgt := 120) dX12_goSees_90 (by decide) (fun q23 => ?_) (fun q23 => ?_)
  · refine B_drop 4 (ls' := [.ref 0, .int y1, .int y2, .int y3, .null, .int (bi z0)]) rfl ?_
    refine B_drop 5 (ls' := [.ref 0, .int y1, .int y2, .int y3, .null, .null]) rfl ?_
    exact b_X12_goSees_J120 hDr hrc_X12_goSees y1 y2 y3 h
  · refine B_aload_n dX12_goSees_93 rfl rfl ?_
    refine B_iload dX12_goSees_94 rfl ?_
    refine B_putI dX12_goSees_96 fl_X12_411 fw_X12_39 shM_0 rfl ?_
    refine B_lh (fun h19 => ?_)
    refine B_aload_n dX12_goSees_99 rfl rfl ?_
    refine B_iload_n dX12_goSees_100 rfl rfl ?_
    refine B_putI dX12_goSees_101 fl_X12_414 fw_X12_40 shM_0 rfl ?_
    refine B_lh (fun h20 => ?_)
    refine B_aload_n dX12_goSees_104 rfl rfl ?_
    refine B_iload_n dX12_goSees_105 rfl rfl ?_
    refine B_putI dX12_goSees_106 fl_X12_417 fw_X12_38 shM_0 rfl ?_
    refine B_lh (fun h21 => ?_)
    refine B_aload_n dX12_goSees_109 rfl rfl ?_
    refine B_aload_n dX12_goSees_110 rfl rfl ?_
    refine B_getR dX12_goSees_111 fl_X12_58 shM_0 rfl (rfM_0_29 _) ?_
    refine B_bipush dX12_goSees_114 bp_21 ?_
    refine L_iald dX12_goSees_116 shM_12 (by decide) di_21 ?_
    refine B_putI dX12_goSees_117 fl_X12_420 fw_X12_41 shM_0 rfl ?_
    refine B_lh (fun h22 => ?_)
    refine B_drop 4 (ls' := [.ref 0, .int y1, .int y2, .int y3, .null, .int (bi z0)]) rfl ?_
    refine B_drop 5 (ls' := [.ref 0, .int y1, .int y2, .int y3, .null, .null]) rfl ?_
    exact b_X12_goSees_J120 hDr hrc_X12_goSees y1 y2 y3 h22
def f_X12_goSees_J81 (rc_X12_goSees : Int32 → Int32 → Int32 → dH → Option (dH)) (y1 : Int32) (y2 : Int32) (y3 : Int32) (y4 : Int32) (h : dH) : Option (dH) :=
  f_X12_goSees_J86 rc_X12_goSees y1 y2 y3 y4 true h
set_option maxRecDepth 20000 in
set_option maxHeartbeats 4000000 in
theorem b_X12_goSees_J81 {Dr : Nat} {rc_X12_goSees : Int32 → Int32 → Int32 → dH → Option (dH)} (hDr : 86 ≤ Dr) (hrc_X12_goSees : ∀ (x1 : Int32) (x2 : Int32) (x3 : Int32) (h : dH), T XM Dr yX12_goSees cX12_goSees 6 none fiV [.ref 0, .int x1, .int x2, .int x3] h (rc_X12_goSees x1 x2 x3 h)) (y1 : Int32) (y2 : Int32) (y3 : Int32) (y4 : Int32) (h : dH) : B XM (Dr + 1) RX12 cX12_goSees 6 none fiV 81 [.ref 0, .int y1, .int y2, .int y3, .int y4, .null] [] h (f_X12_goSees_J81 rc_X12_goSees y1 y2 y3 y4 h) := by
  unfold f_X12_goSees_J81
  refine B_iconst dX12_goSees_81 ic_1 ?_
  refine B_goto (tgt := 86) dX12_goSees_82 (by decide) ?_
  exact b_X12_goSees_J86 hDr hrc_X12_goSees y1 y2 y3 y4 true h
def f_X12_goSees_J85 (rc_X12_goSees : Int32 → Int32 → Int32 → dH → Option (dH)) (y1 : Int32) (y2 : Int32) (y3 : Int32) (y4 : Int32) (h : dH) : Option (dH) :=
  f_X12_goSees_J86 rc_X12_goSees y1 y2 y3 y4 false h
set_option maxRecDepth 20000 in
set_option maxHeartbeats 4000000 in
theorem b_X12_goSees_J85 {Dr : Nat} {rc_X12_goSees : Int32 → Int32 → Int32 → dH → Option (dH)} (hDr : 86 ≤ Dr) (hrc_X12_goSees : ∀ (x1 : Int32) (x2 : Int32) (x3 : Int32) (h : dH), T XM Dr yX12_goSees cX12_goSees 6 none fiV [.ref 0, .int x1, .int x2, .int x3] h (rc_X12_goSees x1 x2 x3 h)) (y1 : Int32) (y2 : Int32) (y3 : Int32) (y4 : Int32) (h : dH) : B XM (Dr + 1) RX12 cX12_goSees 6 none fiV 85 [.ref 0, .int y1, .int y2, .int y3, .int y4, .null] [] h (f_X12_goSees_J85 rc_X12_goSees y1 y2 y3 y4 h) := by
  unfold f_X12_goSees_J85
  refine B_iconst dX12_goSees_85 ic_0 ?_
  exact b_X12_goSees_J86 hDr hrc_X12_goSees y1 y2 y3 y4 false h
def f_X12_goSees (rc_X12_goSees : Int32 → Int32 → Int32 → dH → Option (dH)) (x1 : Int32) (x2 : Int32) (x3 : Int32) (h : dH) : Option (dH) :=
  (f_X12_tooMuch 12 h).bind fun v1 =>
  (f_X12_tooMuch 11 h).bind fun v2 =>
  if (v1 &&& (v2 ^^^ (-1))) = 0 then
  (some (((h.1 12 24) - (h.1 11 24)))).bind fun v3 =>
  if (h.1 0 39) < v3 then
  f_X12_goSees_J81 rc_X12_goSees x1 x2 x3 v3 h
  else
  if v3 = (h.1 0 39) then
  if x1 < (h.1 0 40) then
  f_X12_goSees_J81 rc_X12_goSees x1 x2 x3 v3 h
  else
  if x1 = (h.1 0 40) then
  if x3 < (h.1 0 38) then
  f_X12_goSees_J81 rc_X12_goSees x1 x2 x3 v3 h
  else
  f_X12_goSees_J85 rc_X12_goSees x1 x2 x3 v3 h
  else
  f_X12_goSees_J85 rc_X12_goSees x1 x2 x3 v3 h
  else
  f_X12_goSees_J85 rc_X12_goSees x1 x2 x3 v3 h
  else
  f_X12_goSees_J120 rc_X12_goSees x1 x2 x3 h
set_option maxRecDepth 20000 in
set_option maxHeartbeats 4000000 in
theorem t_X12_goSees {Dr : Nat} {rc_X12_goSees : Int32 → Int32 → Int32 → dH → Option (dH)} (hDr : 86 ≤ Dr) (hrc_X12_goSees : ∀ (x1 : Int32) (x2 : Int32) (x3 : Int32) (h : dH), T XM Dr yX12_goSees cX12_goSees 6 none fiV [.ref 0, .int x1, .int x2, .int x3] h (rc_X12_goSees x1 x2 x3 h)) (x1 : Int32) (x2 : Int32) (x3 : Int32) (h : dH) : T XM (Dr + 1) yX12_goSees cX12_goSees 6 none fiV [.ref 0, .int x1, .int x2, .int x3] h (f_X12_goSees rc_X12_goSees x1 x2 x3 h) := by
  refine T_of [.ref 0, .int x1, .int x2, .int x3, .null, .null] (by decide) (fun _ => rfl) (fun _ => Nat.le_of_ble_eq_true rfl) ?_
  show B XM (Dr + 1) RX12 cX12_goSees 6 none fiV 0 [.ref 0, .int x1, .int x2, .int x3, .null, .null] [] h (f_X12_goSees rc_X12_goSees x1 x2 x3 h)
  unfold f_X12_goSees
  refine B_aload_n dX12_goSees_0 rfl rfl ?_
  refine B_aload_n dX12_goSees_1 rfl rfl ?_
  refine B_getR dX12_goSees_2 fl_X12_58 shM_0 rfl (rfM_0_29 _) ?_
  refine B_Vp (st := []) dX12_goSees_5 cl_X12_346 (t_X12_tooMuch 12 shM_12 h) (by omega) shM_0 rfl rfl (Nat.le_of_ble_eq_true rfl) (fun v1 _ => ?_)
  refine B_aload_n dX12_goSees_8 rfl rfl ?_
  refine B_aload_n dX12_goSees_9 rfl rfl ?_
  refine B_getR dX12_goSees_10 fl_X12_55 shM_0 rfl (rfM_0_28 _) ?_
  refine B_Vp (st := [.int v1]) dX12_goSees_13 cl_X12_346 (t_X12_tooMuch 11 shM_11 h) (by omega) shM_0 rfl rfl (Nat.le_of_ble_eq_true rfl) (fun v2 _ => ?_)
  refine B_iconst dX12_goSees_16 ic_m1 ?_
  refine B_ixor dX12_goSees_17 ?_
  refine B_iand dX12_goSees_18 ?_
  refine C_if_ne (tgt := 120) dX12_goSees_19 (by decide) (fun q9 => ?_) (fun q9 => ?_)
  · exact b_X12_goSees_J120 hDr hrc_X12_goSees x1 x2 x3 h
  · refine B_aload_n dX12_goSees_22 rfl rfl ?_
    refine B_getR dX12_goSees_23 fl_X12_58 shM_0 rfl (rfM_0_29 _) ?_
    refine B_bipush dX12_goSees_26 bp_24 ?_
    refine L_iald dX12_goSees_28 shM_12 (by decide) di_24 ?_
    refine B_aload_n dX12_goSees_29 rfl rfl ?_
    refine B_getR dX12_goSees_30 fl_X12_55 shM_0 rfl (rfM_0_28 _) ?_
    refine B_bipush dX12_goSees_33 bp_24 ?_
    refine L_iald dX12_goSees_35 shM_11 (by decide) di_24 ?_
    refine B_isub dX12_goSees_36 ?_
    refine B_lv (fun v3 => ?_)
    refine B_istore (ls' := [.ref 0, .int x1, .int x2, .int x3, .int v3, .null]) dX12_goSees_37 (Nat.le_of_ble_eq_true rfl) rfl rfl ?_
    refine B_iload dX12_goSees_39 rfl ?_
    refine B_aload_n dX12_goSees_41 rfl rfl ?_
    refine B_getI dX12_goSees_42 fl_X12_411 shM_0 rfl ?_
    refine C_icmp_gt (tgt := 81) dX12_goSees_45 (by decide) (fun q8 => ?_) (fun q8 => ?_)
    · exact b_X12_goSees_J81 hDr hrc_X12_goSees x1 x2 x3 v3 h
    · refine B_iload dX12_goSees_48 rfl ?_
      refine B_aload_n dX12_goSees_50 rfl rfl ?_
      refine B_getI dX12_goSees_51 fl_X12_411 shM_0 rfl ?_
      refine C_icmp_ne (tgt := 85) dX12_goSees_54 (by decide) (fun q7 => ?_) (fun q7 => ?_)
      · exact b_X12_goSees_J85 hDr hrc_X12_goSees x1 x2 x3 v3 h
      · refine B_iload_n dX12_goSees_57 rfl rfl ?_
        refine B_aload_n dX12_goSees_58 rfl rfl ?_
        refine B_getI dX12_goSees_59 fl_X12_414 shM_0 rfl ?_
        refine C_icmp_lt (tgt := 81) dX12_goSees_62 (by decide) (fun q6 => ?_) (fun q6 => ?_)
        · exact b_X12_goSees_J81 hDr hrc_X12_goSees x1 x2 x3 v3 h
        · refine B_iload_n dX12_goSees_65 rfl rfl ?_
          refine B_aload_n dX12_goSees_66 rfl rfl ?_
          refine B_getI dX12_goSees_67 fl_X12_414 shM_0 rfl ?_
          refine C_icmp_ne (tgt := 85) dX12_goSees_70 (by decide) (fun q5 => ?_) (fun q5 => ?_)
          · exact b_X12_goSees_J85 hDr hrc_X12_goSees x1 x2 x3 v3 h
          · refine B_iload_n dX12_goSees_73 rfl rfl ?_
            refine B_aload_n dX12_goSees_74 rfl rfl ?_
            refine B_getI dX12_goSees_75 fl_X12_417 shM_0 rfl ?_
            refine C_icmp_ge (tgt := 85) dX12_goSees_78 (by decide) (fun q4 => ?_) (fun q4 => ?_)
            · exact b_X12_goSees_J85 hDr hrc_X12_goSees x1 x2 x3 v3 h
            · exact b_X12_goSees_J81 hDr hrc_X12_goSees x1 x2 x3 v3 h
def g_X12_goSees : Nat → (Int32 → Int32 → Int32 → dH → Option (dH))
  | 0 => (fun _ _ _ _ => none)
  | n + 1 => (f_X12_goSees (g_X12_goSees n))
def r_X12_goSees (n : Nat) : Int32 → Int32 → Int32 → dH → Option (dH) := (g_X12_goSees n)
set_option maxRecDepth 20000 in
set_option maxHeartbeats 4000000 in
theorem t_g_X12_goSees : ∀ n : Nat, (∀ (x1 : Int32) (x2 : Int32) (x3 : Int32) (h : dH), T XM (86 + n) yX12_goSees cX12_goSees 6 none fiV [.ref 0, .int x1, .int x2, .int x3] h (r_X12_goSees n x1 x2 x3 h)) := by
  intro n
  induction n with
  | zero =>
    exact fun _ _ _ _ => T_none
  | succ n ih =>
    exact fun x1 x2 x3 h => (t_X12_goSees (Nat.le_add_right 86 n) ih x1 x2 x3 h : T _ (86 + n + 1) _ _ _ _ _ _ _ _)
theorem t_X12_goSees_r : ∀ (x1 : Int32) (x2 : Int32) (x3 : Int32) (h : dH), T XM 95 yX12_goSees cX12_goSees 6 none fiV [.ref 0, .int x1, .int x2, .int x3] h (r_X12_goSees 9 x1 x2 x3 h) := (t_g_X12_goSees 9)
def f_X12_sees (x1 : Int32) (h : dH) : Option (Int32 × dH) :=
  (some (dPut h 0 0 0)).bind fun h1 =>
  if (h1.1 0 24) = 0 then
  some ((-1), h1)
  else
  if (f_X12_isIn ((x1 : Int32).toInt64) 0 2 h1) then
  (f_X12_copy h1).bind fun h3 =>
  (some (dPut h3 0 38 (-1))).bind fun h4 =>
  (some (dPut h4 0 39 (-1))).bind fun h5 =>
  (some (dPut h5 0 40 0)).bind fun h6 =>
  ((r_X12_goSees 9) 0 0 (-1) h6).bind fun h8 =>
  if x1 = 0 then
  some ((h8.1 0 38), h8)
  else
  if x1 = 1 then
  some ((h8.1 0 39), h8)
  else
  some ((h8.1 0 41), h8)
  else
  some ((-1), h1)
set_option maxRecDepth 20000 in
set_option maxHeartbeats 4000000 in
theorem t_X12_sees (x1 : Int32) (h : dH) : T XM 96 yX12_sees cX12_sees 2 (some .int) fiI [.ref 0, .int x1] h (f_X12_sees x1 h) := by
  refine T_of [.ref 0, .int x1] (by decide) (fun _ => rfl) (fun _ => Nat.le_of_ble_eq_true rfl) ?_
  show B XM 96 RX12 cX12_sees 2 (some .int) fiI 0 [.ref 0, .int x1] [] h (f_X12_sees x1 h)
  unfold f_X12_sees
  refine B_aload_n dX12_sees_0 rfl rfl ?_
  refine B_iconst dX12_sees_1 ic_0 ?_
  refine B_putI dX12_sees_2 fl_X12_103 fw_X12_0 shM_0 rfl ?_
  refine B_lh (fun h1 => ?_)
  refine B_aload_n dX12_sees_5 rfl rfl ?_
  refine B_getI dX12_sees_6 fl_X12_293 shM_0 rfl ?_
  refine C_if_eq (tgt := 24) dX12_sees_9 (by decide) (fun q12 => ?_) (fun q12 => ?_)
  · refine B_iconst dX12_sees_24 ic_m1 ?_
    exact B_ireturn dX12_sees_25 rfl rfl
  · refine B_iload_n dX12_sees_12 rfl rfl ?_
    refine B_i2l dX12_sees_13 ?_
    refine B_lconst (v := 0) dX12_sees_14 (by decide) ?_
    refine B_ldc2 dX12_sees_15 kc_X12_274 ?_
    refine B_STb (st := []) dX12_sees_18 cl_X12_224 (t_X12_isIn ((x1 : Int32).toInt64) 0 2 h1) (Nat.le_of_ble_eq_true rfl) rfl rfl (Nat.le_of_ble_eq_true rfl) ?_
    refine C_ifb_ne (tgt := 26) dX12_sees_21 (by decide) (fun q11 => ?_) (fun q11 => ?_)
    · refine B_aload_n dX12_sees_26 rfl rfl ?_
      refine B_getR dX12_sees_27 fl_X12_55 shM_0 rfl (rfM_0_28 _) ?_
      refine B_aload_n dX12_sees_30 rfl rfl ?_
      refine B_getR dX12_sees_31 fl_X12_58 shM_0 rfl (rfM_0_29 _) ?_
      refine B_SV (st := []) dX12_sees_34 cl_X12_401 (t_X12_copy h1) (Nat.le_of_ble_eq_true rfl) rfl rfl (Nat.le_of_ble_eq_true rfl) (fun h3 _ => ?_)
      refine B_aload_n dX12_sees_37 rfl rfl ?_
      refine B_iconst dX12_sees_38 ic_m1 ?_
      refine B_putI dX12_sees_39 fl_X12_417 fw_X12_38 shM_0 rfl ?_
      refine B_lh (fun h4 => ?_)
      refine B_aload_n dX12_sees_42 rfl rfl ?_
      refine B_iconst dX12_sees_43 ic_m1 ?_
      refine B_putI dX12_sees_44 fl_X12_411 fw_X12_39 shM_0 rfl ?_
      refine B_lh (fun h5 => ?_)
      refine B_aload_n dX12_sees_47 rfl rfl ?_
      refine B_iconst dX12_sees_48 ic_0 ?_
      refine B_putI dX12_sees_49 fl_X12_414 fw_X12_40 shM_0 rfl ?_
      refine B_lh (fun h6 => ?_)
      refine B_aload_n dX12_sees_52 rfl rfl ?_
      refine B_iconst dX12_sees_53 ic_0 ?_
      refine B_iconst dX12_sees_54 ic_0 ?_
      refine B_iconst dX12_sees_55 ic_m1 ?_
      refine B_VV (st := []) dX12_sees_56 cl_X12_426 (t_X12_goSees_r 0 0 (-1) h6) (Nat.le_of_ble_eq_true rfl) shM_0 rfl rfl (Nat.le_of_ble_eq_true rfl) (fun h8 _ => ?_)
      refine B_iload_n dX12_sees_59 rfl rfl ?_
      refine C_if_ne (tgt := 70) dX12_sees_60 (by decide) (fun q10 => ?_) (fun q10 => ?_)
      · refine B_iload_n dX12_sees_70 rfl rfl ?_
        refine B_iconst dX12_sees_71 ic_1 ?_
        refine C_icmp_ne (tgt := 82) dX12_sees_72 (by decide) (fun q9 => ?_) (fun q9 => ?_)
        · refine B_aload_n dX12_sees_82 rfl rfl ?_
          refine B_getI dX12_sees_83 fl_X12_420 shM_0 rfl ?_
          exact B_ireturn dX12_sees_86 rfl rfl
        · refine B_aload_n dX12_sees_75 rfl rfl ?_
          refine B_getI dX12_sees_76 fl_X12_411 shM_0 rfl ?_
          refine B_goto (tgt := 86) dX12_sees_79 (by decide) ?_
          exact B_ireturn dX12_sees_86 rfl rfl
      · refine B_aload_n dX12_sees_63 rfl rfl ?_
        refine B_getI dX12_sees_64 fl_X12_417 shM_0 rfl ?_
        refine B_goto (tgt := 86) dX12_sees_67 (by decide) ?_
        exact B_ireturn dX12_sees_86 rfl rfl
    · refine B_iconst dX12_sees_24 ic_m1 ?_
      exact B_ireturn dX12_sees_25 rfl rfl
def f_X12_goLeast_J21 (rc_X12_goLeast : Int32 → Int32 → Int32 → Int32 → dH → Option (dH)) (y3 : Int32) (y4 : Int32) (h : dH) : Option (dH) :=
  (some (dPut h 0 39 y3)).bind fun h16 =>
  some (dPut h16 0 38 y4)
set_option maxRecDepth 20000 in
set_option maxHeartbeats 4000000 in
theorem b_X12_goLeast_J21 {Dr : Nat} {rc_X12_goLeast : Int32 → Int32 → Int32 → Int32 → dH → Option (dH)} (hDr : 86 ≤ Dr) (hrc_X12_goLeast : ∀ (x1 : Int32) (x2 : Int32) (x3 : Int32) (x4 : Int32) (h : dH), T XM Dr yX12_goLeast cX12_goLeast 7 none fiV [.ref 0, .int x1, .int x2, .int x3, .int x4] h (rc_X12_goLeast x1 x2 x3 x4 h)) (y3 : Int32) (y4 : Int32) (h : dH) : B XM (Dr + 1) RX12 cX12_goLeast 7 none fiV 21 [.ref 0, .null, .null, .int y3, .int y4, .null, .null] [] h (f_X12_goLeast_J21 rc_X12_goLeast y3 y4 h) := by
  unfold f_X12_goLeast_J21
  refine B_aload_n dX12_goLeast_21 rfl rfl ?_
  refine B_iload_n dX12_goLeast_22 rfl rfl ?_
  refine B_putI dX12_goLeast_23 fl_X12_411 fw_X12_39 shM_0 rfl ?_
  refine B_lh (fun h16 => ?_)
  refine B_aload_n dX12_goLeast_26 rfl rfl ?_
  refine B_iload dX12_goLeast_27 rfl ?_
  refine B_putI dX12_goLeast_29 fl_X12_417 fw_X12_38 shM_0 rfl ?_
  exact B_return dX12_goLeast_32 rfl rfl
def f_X12_goLeast_J125 (rc_X12_goLeast : Int32 → Int32 → Int32 → Int32 → dH → Option (dH)) (kL41 : Int32 → Int32 → Int32 → Int32 → Int32 → dH → Option (dH)) (y1 : Int32) (y2 : Int32) (y3 : Int32) (y4 : Int32) (y5 : Int32) (h : dH) : Option (dH) :=
  kL41 y1 y2 y3 y4 (y5 + 1) h
set_option maxRecDepth 20000 in
set_option maxHeartbeats 4000000 in
theorem b_X12_goLeast_J125 {Dr : Nat} {rc_X12_goLeast : Int32 → Int32 → Int32 → Int32 → dH → Option (dH)} {kL41 : Int32 → Int32 → Int32 → Int32 → Int32 → dH → Option (dH)} (hDr : 86 ≤ Dr) (hrc_X12_goLeast : ∀ (x1 : Int32) (x2 : Int32) (x3 : Int32) (x4 : Int32) (h : dH), T XM Dr yX12_goLeast cX12_goLeast 7 none fiV [.ref 0, .int x1, .int x2, .int x3, .int x4] h (rc_X12_goLeast x1 x2 x3 x4 h)) (hkL41 : ∀ (y1 : Int32) (y2 : Int32) (y3 : Int32) (y4 : Int32) (y5 : Int32) (h : dH), B XM (Dr + 1) RX12 cX12_goLeast 7 none fiV 41 [.ref 0, .int y1, .int y2, .int y3, .int y4, .int y5, .null] [] h (kL41 y1 y2 y3 y4 y5 h)) (y1 : Int32) (y2 : Int32) (y3 : Int32) (y4 : Int32) (y5 : Int32) (h : dH) : B XM (Dr + 1) RX12 cX12_goLeast 7 none fiV 125 [.ref 0, .int y1, .int y2, .int y3, .int y4, .int y5, .null] [] h (f_X12_goLeast_J125 rc_X12_goLeast kL41 y1 y2 y3 y4 y5 h) := by
  unfold f_X12_goLeast_J125
  refine B_iinc (w := (y5 + 1)) (ls' := [.ref 0, .int y1, .int y2, .int y3, .int y4, .int (y5 + 1), .null]) dX12_goLeast_125 rfl (congrArg (fun z => y5 + z) ic_1) (Nat.le_of_ble_eq_true rfl) rfl rfl ?_
  refine B_goto (tgt := 41) dX12_goLeast_128 (by decide) ?_
  exact hkL41 y1 y2 y3 y4 (y5 + 1)  h
def f_X12_goLeast_L41 (rc_X12_goLeast : Int32 → Int32 → Int32 → Int32 → dH → Option (dH)) : Nat → Int32 → Int32 → Int32 → Int32 → Int32 → dH → Option (dH)
  | 0, _, _, _, _, _, _ => none
  | n + 1, y1, y2, y3, y4, y5, h =>
    if y5 < (h.1 0 24) then
    if (f_X12_has y2 y5 h) then
    (f_X12_canWalk 12 y5 h).bind fun v6 =>
    if v6 then
    (f_X12_walks 12 y5 (h.1 5 2) h).bind fun rv7 =>
    (rc_X12_goLeast (y1 + 1) (y2 &&& ((1 <<< (y5 &&& 31)) ^^^ (-1))) (y3 + rv7.1) ((10 * y4) + y5) rv7.2).bind fun h10 =>
    (f_X12_again y1 h10).bind fun h12 =>
    f_X12_goLeast_J125 rc_X12_goLeast (f_X12_goLeast_L41 rc_X12_goLeast n) y1 y2 y3 y4 y5 h12
    else
    f_X12_goLeast_J125 rc_X12_goLeast (f_X12_goLeast_L41 rc_X12_goLeast n) y1 y2 y3 y4 y5 h
    else
    f_X12_goLeast_J125 rc_X12_goLeast (f_X12_goLeast_L41 rc_X12_goLeast n) y1 y2 y3 y4 y5 h
    else
    some h
set_option maxRecDepth 20000 in
set_option maxHeartbeats 4000000 in
theorem b_X12_goLeast_L41 {Dr : Nat} {rc_X12_goLeast : Int32 → Int32 → Int32 → Int32 → dH → Option (dH)} (hDr : 86 ≤ Dr) (hrc_X12_goLeast : ∀ (x1 : Int32) (x2 : Int32) (x3 : Int32) (x4 : Int32) (h : dH), T XM Dr yX12_goLeast cX12_goLeast 7 none fiV [.ref 0, .int x1, .int x2, .int x3, .int x4] h (rc_X12_goLeast x1 x2 x3 x4 h)) : ∀ (n : Nat) (y1 : Int32) (y2 : Int32) (y3 : Int32) (y4 : Int32) (y5 : Int32) (h : dH), B XM (Dr + 1) RX12 cX12_goLeast 7 none fiV 41 [.ref 0, .int y1, .int y2, .int y3, .int y4, .int y5, .null] [] h (f_X12_goLeast_L41 rc_X12_goLeast n y1 y2 y3 y4 y5 h) := by
  intro n
  induction n with
  | zero =>
    intro y1 y2 y3 y4 y5 h
    exact B_none
  | succ n ih =>
    intro y1 y2 y3 y4 y5 h
    rw [f_X12_goLeast_L41]
    refine B_iload dX12_goLeast_41 rfl ?_
    refine B_aload_n dX12_goLeast_43 rfl rfl ?_
    refine B_getI dX12_goLeast_44 fl_X12_293 shM_0 rfl ?_
    refine C_icmp_ge (tgt := 131) dX12_goLeast_47 (by decide) (fun q15 => ?_) (fun q15 => ?_)
    · exact B_return dX12_goLeast_131 rfl rfl
    · refine B_iload_n dX12_goLeast_50 rfl rfl ?_
      refine B_iload dX12_goLeast_51 rfl ?_
      refine B_STb (st := []) dX12_goLeast_53 cl_X12_236 (t_X12_has y2 y5 h) (by omega) rfl rfl (Nat.le_of_ble_eq_true rfl) ?_
      refine C_ifb_eq (tgt := 125) dX12_goLeast_56 (by decide) (fun q14 => ?_) (fun q14 => ?_)
      · exact b_X12_goLeast_J125 hDr hrc_X12_goLeast (fun qy1 qy2 qy3 qy4 qy5 qh => ih qy1 qy2 qy3 qy4 qy5 qh) y1 y2 y3 y4 y5 h
      · refine B_aload_n dX12_goLeast_59 rfl rfl ?_
        refine B_aload_n dX12_goLeast_60 rfl rfl ?_
        refine B_getR dX12_goLeast_61 fl_X12_58 shM_0 rfl (rfM_0_29 _) ?_
        refine B_iload dX12_goLeast_64 rfl ?_
        refine B_Vpb (st := []) dX12_goLeast_66 cl_X12_353 (t_X12_canWalk 12 shM_12 y5 h) (by omega) shM_0 rfl rfl (Nat.le_of_ble_eq_true rfl) (fun v6 _ => ?_)
        refine C_ifb_ne (tgt := 75) dX12_goLeast_69 (by decide) (fun q13 => ?_) (fun q13 => ?_)
        · refine B_aload_n dX12_goLeast_75 rfl rfl ?_
          refine B_aload_n dX12_goLeast_76 rfl rfl ?_
          refine B_getR dX12_goLeast_77 fl_X12_58 shM_0 rfl (rfM_0_29 _) ?_
          refine B_iload dX12_goLeast_80 rfl ?_
          refine B_aload_n dX12_goLeast_82 rfl rfl ?_
          refine B_getR dX12_goLeast_83 fl_X12_37 shM_0 rfl (rfM_0_18 _) ?_
          refine B_iconst dX12_goLeast_86 ic_2 ?_
          refine L_iald dX12_goLeast_87 shM_5 (by decide) di_2 ?_
          refine B_VI (st := []) dX12_goLeast_88 cl_X12_360 (t_X12_walks 12 shM_12 y5 (h.1 5 2) h) (by omega) shM_0 rfl rfl (Nat.le_of_ble_eq_true rfl) (fun v7 h8 _ => ?_)
          refine B_istore (ls' := [.ref 0, .int y1, .int y2, .int y3, .int y4, .int y5, .int v7]) dX12_goLeast_91 (Nat.le_of_ble_eq_true rfl) rfl rfl ?_
          refine B_aload_n dX12_goLeast_93 rfl rfl ?_
          refine B_iload_n dX12_goLeast_94 rfl rfl ?_
          refine B_iconst dX12_goLeast_95 ic_1 ?_
          refine B_iadd dX12_goLeast_96 ?_
          refine B_iload_n dX12_goLeast_97 rfl rfl ?_
          refine B_iconst dX12_goLeast_98 ic_1 ?_
          refine B_iload dX12_goLeast_99 rfl ?_
          refine B_ishl dX12_goLeast_101 ?_
          refine B_iconst dX12_goLeast_102 ic_m1 ?_
          refine B_ixor dX12_goLeast_103 ?_
          refine B_iand dX12_goLeast_104 ?_
          refine B_iload_n dX12_goLeast_105 rfl rfl ?_
          refine B_iload dX12_goLeast_106 rfl ?_
          refine B_iadd dX12_goLeast_108 ?_
          refine B_bipush dX12_goLeast_109 bp_10 ?_
          refine B_iload dX12_goLeast_111 rfl ?_
          refine B_imul dX12_goLeast_113 ?_
          refine B_iload dX12_goLeast_114 rfl ?_
          refine B_iadd dX12_goLeast_116 ?_
          refine B_VV (st := []) dX12_goLeast_117 cl_X12_433 (hrc_X12_goLeast (y1 + 1) (y2 &&& ((1 <<< (y5 &&& 31)) ^^^ (-1))) (y3 + v7) ((10 * y4) + y5) h8) (by omega) shM_0 rfl rfl (Nat.le_of_ble_eq_true rfl) (fun h10 _ => ?_)
          refine B_aload_n dX12_goLeast_120 rfl rfl ?_
          refine B_iload_n dX12_goLeast_121 rfl rfl ?_
          refine B_VV (st := []) dX12_goLeast_122 cl_X12_430 (t_X12_again y1 h10) (by omega) shM_0 rfl rfl (Nat.le_of_ble_eq_true rfl) (fun h12 _ => ?_)
          refine B_drop 6 (ls' := [.ref 0, .int y1, .int y2, .int y3, .int y4, .int y5, .null]) rfl ?_
          exact b_X12_goLeast_J125 hDr hrc_X12_goLeast (fun qy1 qy2 qy3 qy4 qy5 qh => ih qy1 qy2 qy3 qy4 qy5 qh) y1 y2 y3 y4 y5 h12
        · refine B_goto (tgt := 125) dX12_goLeast_72 (by decide) ?_
          exact b_X12_goLeast_J125 hDr hrc_X12_goLeast (fun qy1 qy2 qy3 qy4 qy5 qh => ih qy1 qy2 qy3 qy4 qy5 qh) y1 y2 y3 y4 y5 h
def f_X12_goLeast (rc_X12_goLeast : Int32 → Int32 → Int32 → Int32 → dH → Option (dH)) (x1 : Int32) (x2 : Int32) (x3 : Int32) (x4 : Int32) (h : dH) : Option (dH) :=
  if x2 = 0 then
  if (h.1 0 39) = (-1) then
  f_X12_goLeast_J21 rc_X12_goLeast x3 x4 h
  else
  if x3 < (h.1 0 39) then
  f_X12_goLeast_J21 rc_X12_goLeast x3 x4 h
  else
  some h
  else
  (f_X12_keep x1 h).bind fun h2 =>
  f_X12_goLeast_L41 rc_X12_goLeast dFu x1 x2 x3 x4 0 h2
set_option maxRecDepth 20000 in
set_option maxHeartbeats 4000000 in
theorem t_X12_goLeast {Dr : Nat} {rc_X12_goLeast : Int32 → Int32 → Int32 → Int32 → dH → Option (dH)} (hDr : 86 ≤ Dr) (hrc_X12_goLeast : ∀ (x1 : Int32) (x2 : Int32) (x3 : Int32) (x4 : Int32) (h : dH), T XM Dr yX12_goLeast cX12_goLeast 7 none fiV [.ref 0, .int x1, .int x2, .int x3, .int x4] h (rc_X12_goLeast x1 x2 x3 x4 h)) (x1 : Int32) (x2 : Int32) (x3 : Int32) (x4 : Int32) (h : dH) : T XM (Dr + 1) yX12_goLeast cX12_goLeast 7 none fiV [.ref 0, .int x1, .int x2, .int x3, .int x4] h (f_X12_goLeast rc_X12_goLeast x1 x2 x3 x4 h) := by
  refine T_of [.ref 0, .int x1, .int x2, .int x3, .int x4, .null, .null] (by decide) (fun _ => rfl) (fun _ => Nat.le_of_ble_eq_true rfl) ?_
  show B XM (Dr + 1) RX12 cX12_goLeast 7 none fiV 0 [.ref 0, .int x1, .int x2, .int x3, .int x4, .null, .null] [] h (f_X12_goLeast rc_X12_goLeast x1 x2 x3 x4 h)
  unfold f_X12_goLeast
  refine B_iload_n dX12_goLeast_0 rfl rfl ?_
  refine C_if_ne (tgt := 33) dX12_goLeast_1 (by decide) (fun q5 => ?_) (fun q5 => ?_)
  · refine B_aload_n dX12_goLeast_33 rfl rfl ?_
    refine B_iload_n dX12_goLeast_34 rfl rfl ?_
    refine B_VV (st := []) dX12_goLeast_35 cl_X12_423 (t_X12_keep x1 h) (by omega) shM_0 rfl rfl (Nat.le_of_ble_eq_true rfl) (fun h2 _ => ?_)
    refine B_iconst dX12_goLeast_38 ic_0 ?_
    refine B_istore (ls' := [.ref 0, .int x1, .int x2, .int x3, .int x4, .int 0, .null]) dX12_goLeast_39 (Nat.le_of_ble_eq_true rfl) rfl rfl ?_
    exact b_X12_goLeast_L41 hDr hrc_X12_goLeast dFu x1 x2 x3 x4 0 h2
  · refine B_aload_n dX12_goLeast_4 rfl rfl ?_
    refine B_getI dX12_goLeast_5 fl_X12_411 shM_0 rfl ?_
    refine B_iconst dX12_goLeast_8 ic_m1 ?_
    refine C_icmp_eq (tgt := 21) dX12_goLeast_9 (by decide) (fun q4 => ?_) (fun q4 => ?_)
    · refine B_drop 1 (ls' := [.ref 0, .null, .int x2, .int x3, .int x4, .null, .null]) rfl ?_
      refine B_drop 2 (ls' := [.ref 0, .null, .null, .int x3, .int x4, .null, .null]) rfl ?_
      exact b_X12_goLeast_J21 hDr hrc_X12_goLeast x3 x4 h
    · refine B_iload_n dX12_goLeast_12 rfl rfl ?_
      refine B_aload_n dX12_goLeast_13 rfl rfl ?_
      refine B_getI dX12_goLeast_14 fl_X12_411 shM_0 rfl ?_
      refine C_icmp_lt (tgt := 21) dX12_goLeast_17 (by decide) (fun q3 => ?_) (fun q3 => ?_)
      · refine B_drop 1 (ls' := [.ref 0, .null, .int x2, .int x3, .int x4, .null, .null]) rfl ?_
        refine B_drop 2 (ls' := [.ref 0, .null, .null, .int x3, .int x4, .null, .null]) rfl ?_
        exact b_X12_goLeast_J21 hDr hrc_X12_goLeast x3 x4 h
      · exact B_return dX12_goLeast_20 rfl rfl
def g_X12_goLeast : Nat → (Int32 → Int32 → Int32 → Int32 → dH → Option (dH))
  | 0 => (fun _ _ _ _ _ => none)
  | n + 1 => (f_X12_goLeast (g_X12_goLeast n))
def r_X12_goLeast (n : Nat) : Int32 → Int32 → Int32 → Int32 → dH → Option (dH) := (g_X12_goLeast n)
set_option maxRecDepth 20000 in
set_option maxHeartbeats 4000000 in
theorem t_g_X12_goLeast : ∀ n : Nat, (∀ (x1 : Int32) (x2 : Int32) (x3 : Int32) (x4 : Int32) (h : dH), T XM (86 + n) yX12_goLeast cX12_goLeast 7 none fiV [.ref 0, .int x1, .int x2, .int x3, .int x4] h (r_X12_goLeast n x1 x2 x3 x4 h)) := by
  intro n
  induction n with
  | zero =>
    exact fun _ _ _ _ _ => T_none
  | succ n ih =>
    exact fun x1 x2 x3 x4 h => (t_X12_goLeast (Nat.le_add_right 86 n) ih x1 x2 x3 x4 h : T _ (86 + n + 1) _ _ _ _ _ _ _ _)
theorem t_X12_goLeast_r : ∀ (x1 : Int32) (x2 : Int32) (x3 : Int32) (x4 : Int32) (h : dH), T XM 95 yX12_goLeast cX12_goLeast 7 none fiV [.ref 0, .int x1, .int x2, .int x3, .int x4] h (r_X12_goLeast 9 x1 x2 x3 x4 h) := (t_g_X12_goLeast 9)
def f_X12_isSet (x1 : Int32) (h : dH) : Bool :=
  if 0 < (h.1 0 24) then
  if (f_X12_isIn ((x1 : Int32).toInt64) 1 ((((1 <<< ((h.1 0 24) &&& 31)) - 1) : Int32).toInt64) h) then
  true
  else
  false
  else
  false
set_option maxRecDepth 20000 in
set_option maxHeartbeats 4000000 in
theorem t_X12_isSet (x1 : Int32) (h : dH) : T XM 1 yX12_isSet cX12_isSet 2 (some .boolean) (fiB h) [.ref 0, .int x1] h (some (f_X12_isSet x1 h)) := by
  refine T_of [.ref 0, .int x1] (by decide) (fun _ => rfl) (fun _ => Nat.le_of_ble_eq_true rfl) ?_
  show B XM 1 RX12 cX12_isSet 2 (some .boolean) (fiB h) 0 [.ref 0, .int x1] [] h (some (f_X12_isSet x1 h))
  unfold f_X12_isSet
  refine B_aload_n dX12_isSet_0 rfl rfl ?_
  refine B_getI dX12_isSet_1 fl_X12_293 shM_0 rfl ?_
  refine C_some ?_
  refine C_if_le (tgt := 29) dX12_isSet_4 (by decide) (fun q2 => ?_) (fun q2 => ?_)
  · refine B_iconst dX12_isSet_29 ic_0 ?_
    exact B_zreturn dX12_isSet_30 rfl rfl rfl
  · refine B_iload_n dX12_isSet_7 rfl rfl ?_
    refine B_i2l dX12_isSet_8 ?_
    refine B_lconst (v := 1) dX12_isSet_9 (by decide) ?_
    refine B_iconst dX12_isSet_10 ic_1 ?_
    refine B_aload_n dX12_isSet_11 rfl rfl ?_
    refine B_getI dX12_isSet_12 fl_X12_293 shM_0 rfl ?_
    refine B_ishl dX12_isSet_15 ?_
    refine B_iconst dX12_isSet_16 ic_1 ?_
    refine B_isub dX12_isSet_17 ?_
    refine B_i2l dX12_isSet_18 ?_
    refine B_STb (st := []) dX12_isSet_19 cl_X12_224 (t_X12_isIn ((x1 : Int32).toInt64) 1 ((((1 <<< ((h.1 0 24) &&& 31)) - 1) : Int32).toInt64) h) (Nat.le_of_ble_eq_true rfl) rfl rfl (Nat.le_of_ble_eq_true rfl) ?_
    refine C_some ?_
    refine C_ifb_eq (tgt := 29) dX12_isSet_22 (by decide) (fun q1 => ?_) (fun q1 => ?_)
    · refine B_iconst dX12_isSet_29 ic_0 ?_
      exact B_zreturn dX12_isSet_30 rfl rfl rfl
    · refine B_iconst dX12_isSet_25 ic_1 ?_
      refine B_goto (tgt := 30) dX12_isSet_26 (by decide) ?_
      exact B_zreturn dX12_isSet_30 rfl rfl rfl
def f_X12_least (x1 : Int32) (x2 : Int32) (h : dH) : Option (Int32 × dH) :=
  (some (dPut h 0 0 0)).bind fun h1 =>
  if (f_X12_isSet x1 h1) then
  if (f_X12_isIn ((x2 : Int32).toInt64) 0 1 h1) then
  (f_X12_copy h1).bind fun h3 =>
  (some (dPut h3 0 38 (-1))).bind fun h4 =>
  (some (dPut h4 0 39 (-1))).bind fun h5 =>
  ((r_X12_goLeast 9) 0 x1 0 0 h5).bind fun h7 =>
  if x2 = 0 then
  some ((h7.1 0 38), h7)
  else
  some ((h7.1 0 39), h7)
  else
  some ((-1), h1)
  else
  some ((-1), h1)
set_option maxRecDepth 20000 in
set_option maxHeartbeats 4000000 in
theorem t_X12_least (x1 : Int32) (x2 : Int32) (h : dH) : T XM 96 yX12_least cX12_least 3 (some .int) fiI [.ref 0, .int x1, .int x2] h (f_X12_least x1 x2 h) := by
  refine T_of [.ref 0, .int x1, .int x2] (by decide) (fun _ => rfl) (fun _ => Nat.le_of_ble_eq_true rfl) ?_
  show B XM 96 RX12 cX12_least 3 (some .int) fiI 0 [.ref 0, .int x1, .int x2] [] h (f_X12_least x1 x2 h)
  unfold f_X12_least
  refine B_aload_n dX12_least_0 rfl rfl ?_
  refine B_iconst dX12_least_1 ic_0 ?_
  refine B_putI dX12_least_2 fl_X12_103 fw_X12_0 shM_0 rfl ?_
  refine B_lh (fun h1 => ?_)
  refine B_aload_n dX12_least_5 rfl rfl ?_
  refine B_iload_n dX12_least_6 rfl rfl ?_
  refine B_VTb (st := []) dX12_least_7 cl_X12_437 (t_X12_isSet x1 h1) (Nat.le_of_ble_eq_true rfl) shM_0 rfl rfl (Nat.le_of_ble_eq_true rfl) ?_
  refine C_ifb_eq (tgt := 23) dX12_least_10 (by decide) (fun q10 => ?_) (fun q10 => ?_)
  · refine B_iconst dX12_least_23 ic_m1 ?_
    exact B_ireturn dX12_least_24 rfl rfl
  · refine B_iload_n dX12_least_13 rfl rfl ?_
    refine B_i2l dX12_least_14 ?_
    refine B_lconst (v := 0) dX12_least_15 (by decide) ?_
    refine B_lconst (v := 1) dX12_least_16 (by decide) ?_
    refine B_STb (st := []) dX12_least_17 cl_X12_224 (t_X12_isIn ((x2 : Int32).toInt64) 0 1 h1) (Nat.le_of_ble_eq_true rfl) rfl rfl (Nat.le_of_ble_eq_true rfl) ?_
    refine C_ifb_ne (tgt := 25) dX12_least_20 (by decide) (fun q9 => ?_) (fun q9 => ?_)
    · refine B_aload_n dX12_least_25 rfl rfl ?_
      refine B_getR dX12_least_26 fl_X12_55 shM_0 rfl (rfM_0_28 _) ?_
      refine B_aload_n dX12_least_29 rfl rfl ?_
      refine B_getR dX12_least_30 fl_X12_58 shM_0 rfl (rfM_0_29 _) ?_
      refine B_SV (st := []) dX12_least_33 cl_X12_401 (t_X12_copy h1) (Nat.le_of_ble_eq_true rfl) rfl rfl (Nat.le_of_ble_eq_true rfl) (fun h3 _ => ?_)
      refine B_aload_n dX12_least_36 rfl rfl ?_
      refine B_iconst dX12_least_37 ic_m1 ?_
      refine B_putI dX12_least_38 fl_X12_417 fw_X12_38 shM_0 rfl ?_
      refine B_lh (fun h4 => ?_)
      refine B_aload_n dX12_least_41 rfl rfl ?_
      refine B_iconst dX12_least_42 ic_m1 ?_
      refine B_putI dX12_least_43 fl_X12_411 fw_X12_39 shM_0 rfl ?_
      refine B_lh (fun h5 => ?_)
      refine B_aload_n dX12_least_46 rfl rfl ?_
      refine B_iconst dX12_least_47 ic_0 ?_
      refine B_iload_n dX12_least_48 rfl rfl ?_
      refine B_iconst dX12_least_49 ic_0 ?_
      refine B_iconst dX12_least_50 ic_0 ?_
      refine B_VV (st := []) dX12_least_51 cl_X12_433 (t_X12_goLeast_r 0 x1 0 0 h5) (Nat.le_of_ble_eq_true rfl) shM_0 rfl rfl (Nat.le_of_ble_eq_true rfl) (fun h7 _ => ?_)
      refine B_iload_n dX12_least_54 rfl rfl ?_
      refine C_if_ne (tgt := 65) dX12_least_55 (by decide) (fun q8 => ?_) (fun q8 => ?_)
      · refine B_aload_n dX12_least_65 rfl rfl ?_
        refine B_getI dX12_least_66 fl_X12_411 shM_0 rfl ?_
        exact B_ireturn dX12_least_69 rfl rfl
      · refine B_aload_n dX12_least_58 rfl rfl ?_
        refine B_getI dX12_least_59 fl_X12_417 shM_0 rfl ?_
        refine B_goto (tgt := 69) dX12_least_62 (by decide) ?_
        exact B_ireturn dX12_least_69 rfl rfl
    · refine B_iconst dX12_least_23 ic_m1 ?_
      exact B_ireturn dX12_least_24 rfl rfl
def f_X12_manners_J101 (kL25 : Int32 → Int32 → dH → Option (Int32 × dH)) (kL51 : Int32 → Int32 → Int32 → dH → Option (Int32 × dH)) (y1 : Int32) (y2 : Int32) (y3 : Int32) (h : dH) : Option (Int32 × dH) :=
  kL51 y1 y2 (y3 + 1) h
set_option maxRecDepth 20000 in
set_option maxHeartbeats 4000000 in
theorem b_X12_manners_J101 {kL25 : Int32 → Int32 → dH → Option (Int32 × dH)} {kL51 : Int32 → Int32 → Int32 → dH → Option (Int32 × dH)} (hkL25 : ∀ (y1 : Int32) (y2 : Int32) (h : dH), B XM 86 RX12 cX12_manners 5 (some .int) fiI 25 [.ref 0, .int y1, .int y2, .null, .null] [] h (kL25 y1 y2 h)) (hkL51 : ∀ (y1 : Int32) (y2 : Int32) (y3 : Int32) (h : dH), B XM 86 RX12 cX12_manners 5 (some .int) fiI 51 [.ref 0, .int y1, .int y2, .int y3, .null] [] h (kL51 y1 y2 y3 h)) (y1 : Int32) (y2 : Int32) (y3 : Int32) (h : dH) : B XM 86 RX12 cX12_manners 5 (some .int) fiI 101 [.ref 0, .int y1, .int y2, .int y3, .null] [] h (f_X12_manners_J101 kL25 kL51 y1 y2 y3 h) := by
  unfold f_X12_manners_J101
  refine B_iinc (w := (y3 + 1)) (ls' := [.ref 0, .int y1, .int y2, .int (y3 + 1), .null]) dX12_manners_101 rfl (congrArg (fun z => y3 + z) ic_1) (Nat.le_of_ble_eq_true rfl) rfl rfl ?_
  refine B_goto (tgt := 51) dX12_manners_104 (by decide) ?_
  exact hkL51 y1 y2 (y3 + 1)  h
def f_X12_manners_L51 (kL25 : Int32 → Int32 → dH → Option (Int32 × dH)) : Nat → Int32 → Int32 → Int32 → dH → Option (Int32 × dH)
  | 0, _, _, _, _ => none
  | n + 1, y1, y2, y3, h =>
    if y3 < (h.1 0 24) then
    if (f_X12_has y1 y3 h) then
    (f_X12_canWalk 12 y3 h).bind fun v9 =>
    if v9 then
    (f_X12_walks 12 y3 ((h.1 5 2) + y2) h).bind fun rv10 =>
    f_X12_manners_J101 kL25 (f_X12_manners_L51 kL25 n) y1 y2 y3 rv10.2
    else
    f_X12_manners_J101 kL25 (f_X12_manners_L51 kL25 n) y1 y2 y3 h
    else
    f_X12_manners_J101 kL25 (f_X12_manners_L51 kL25 n) y1 y2 y3 h
    else
    (f_X12_tooMuch 12 h).bind fun v7 =>
    if v7 = 0 then
    some (y2, h)
    else
    kL25 y1 (y2 + 1) h
set_option maxRecDepth 20000 in
set_option maxHeartbeats 4000000 in
theorem b_X12_manners_L51 {kL25 : Int32 → Int32 → dH → Option (Int32 × dH)} (hkL25 : ∀ (y1 : Int32) (y2 : Int32) (h : dH), B XM 86 RX12 cX12_manners 5 (some .int) fiI 25 [.ref 0, .int y1, .int y2, .null, .null] [] h (kL25 y1 y2 h)) : ∀ (n : Nat) (y1 : Int32) (y2 : Int32) (y3 : Int32) (h : dH), B XM 86 RX12 cX12_manners 5 (some .int) fiI 51 [.ref 0, .int y1, .int y2, .int y3, .null] [] h (f_X12_manners_L51 kL25 n y1 y2 y3 h) := by
  intro n
  induction n with
  | zero =>
    intro y1 y2 y3 h
    exact B_none
  | succ n ih =>
    intro y1 y2 y3 h
    rw [f_X12_manners_L51]
    refine B_iload_n dX12_manners_51 rfl rfl ?_
    refine B_aload_n dX12_manners_52 rfl rfl ?_
    refine B_getI dX12_manners_53 fl_X12_293 shM_0 rfl ?_
    refine C_icmp_ge (tgt := 107) dX12_manners_56 (by decide) (fun q14 => ?_) (fun q14 => ?_)
    · refine B_aload_n dX12_manners_107 rfl rfl ?_
      refine B_aload_n dX12_manners_108 rfl rfl ?_
      refine B_getR dX12_manners_109 fl_X12_58 shM_0 rfl (rfM_0_29 _) ?_
      refine B_Vp (st := []) dX12_manners_112 cl_X12_346 (t_X12_tooMuch 12 shM_12 h) (Nat.le_of_ble_eq_true rfl) shM_0 rfl rfl (Nat.le_of_ble_eq_true rfl) (fun v7 _ => ?_)
      refine C_if_ne (tgt := 120) dX12_manners_115 (by decide) (fun q8 => ?_) (fun q8 => ?_)
      · refine B_iinc (w := (y2 + 1)) (ls' := [.ref 0, .int y1, .int (y2 + 1), .int y3, .null]) dX12_manners_120 rfl (congrArg (fun z => y2 + z) ic_1) (Nat.le_of_ble_eq_true rfl) rfl rfl ?_
        refine B_goto (tgt := 25) dX12_manners_123 (by decide) ?_
        refine B_drop 3 (ls' := [.ref 0, .int y1, .int (y2 + 1), .null, .null]) rfl ?_
        exact hkL25 y1 (y2 + 1)  h
      · refine B_iload_n dX12_manners_118 rfl rfl ?_
        exact B_ireturn dX12_manners_119 rfl rfl
    · refine B_iload_n dX12_manners_59 rfl rfl ?_
      refine B_iload_n dX12_manners_60 rfl rfl ?_
      refine B_STb (st := []) dX12_manners_61 cl_X12_236 (t_X12_has y1 y3 h) (Nat.le_of_ble_eq_true rfl) rfl rfl (Nat.le_of_ble_eq_true rfl) ?_
      refine C_ifb_eq (tgt := 101) dX12_manners_64 (by decide) (fun q13 => ?_) (fun q13 => ?_)
      · exact b_X12_manners_J101 hkL25 (fun qy1 qy2 qy3 qh => ih qy1 qy2 qy3 qh) y1 y2 y3 h
      · refine B_aload_n dX12_manners_67 rfl rfl ?_
        refine B_aload_n dX12_manners_68 rfl rfl ?_
        refine B_getR dX12_manners_69 fl_X12_58 shM_0 rfl (rfM_0_29 _) ?_
        refine B_iload_n dX12_manners_72 rfl rfl ?_
        refine B_Vpb (st := []) dX12_manners_73 cl_X12_353 (t_X12_canWalk 12 shM_12 y3 h) (Nat.le_of_ble_eq_true rfl) shM_0 rfl rfl (Nat.le_of_ble_eq_true rfl) (fun v9 _ => ?_)
        refine C_ifb_ne (tgt := 82) dX12_manners_76 (by decide) (fun q12 => ?_) (fun q12 => ?_)
        · refine B_aload_n dX12_manners_82 rfl rfl ?_
          refine B_aload_n dX12_manners_83 rfl rfl ?_
          refine B_getR dX12_manners_84 fl_X12_58 shM_0 rfl (rfM_0_29 _) ?_
          refine B_iload_n dX12_manners_87 rfl rfl ?_
          refine B_aload_n dX12_manners_88 rfl rfl ?_
          refine B_getR dX12_manners_89 fl_X12_37 shM_0 rfl (rfM_0_18 _) ?_
          refine B_iconst dX12_manners_92 ic_2 ?_
          refine L_iald dX12_manners_93 shM_5 (by decide) di_2 ?_
          refine B_iload_n dX12_manners_94 rfl rfl ?_
          refine B_iadd dX12_manners_95 ?_
          refine B_VI (st := []) dX12_manners_96 cl_X12_360 (t_X12_walks 12 shM_12 y3 ((h.1 5 2) + y2) h) (Nat.le_of_ble_eq_true rfl) shM_0 rfl rfl (Nat.le_of_ble_eq_true rfl) (fun v10 h11 _ => ?_)
          refine B_istore (ls' := [.ref 0, .int y1, .int y2, .int y3, .int v10]) dX12_manners_99 (Nat.le_of_ble_eq_true rfl) rfl rfl ?_
          refine B_drop 4 (ls' := [.ref 0, .int y1, .int y2, .int y3, .null]) rfl ?_
          exact b_X12_manners_J101 hkL25 (fun qy1 qy2 qy3 qh => ih qy1 qy2 qy3 qh) y1 y2 y3 h11
        · refine B_goto (tgt := 101) dX12_manners_79 (by decide) ?_
          exact b_X12_manners_J101 hkL25 (fun qy1 qy2 qy3 qh => ih qy1 qy2 qy3 qh) y1 y2 y3 h
def f_X12_manners_L25 : Nat → Int32 → Int32 → dH → Option (Int32 × dH)
  | 0, _, _, _ => none
  | n + 1, y1, y2, h =>
    if 9 < ((h.1 5 2) + y2) then
    some ((-1), h)
    else
    (f_X12_copy h).bind fun h5 =>
    f_X12_manners_L51 (f_X12_manners_L25 n) dFu y1 y2 0 h5
set_option maxRecDepth 20000 in
set_option maxHeartbeats 4000000 in
theorem b_X12_manners_L25 : ∀ (n : Nat) (y1 : Int32) (y2 : Int32) (h : dH), B XM 86 RX12 cX12_manners 5 (some .int) fiI 25 [.ref 0, .int y1, .int y2, .null, .null] [] h (f_X12_manners_L25 n y1 y2 h) := by
  intro n
  induction n with
  | zero =>
    intro y1 y2 h
    exact B_none
  | succ n ih =>
    intro y1 y2 h
    rw [f_X12_manners_L25]
    refine B_aload_n dX12_manners_25 rfl rfl ?_
    refine B_getR dX12_manners_26 fl_X12_37 shM_0 rfl (rfM_0_18 _) ?_
    refine B_iconst dX12_manners_29 ic_2 ?_
    refine L_iald dX12_manners_30 shM_5 (by decide) di_2 ?_
    refine B_iload_n dX12_manners_31 rfl rfl ?_
    refine B_iadd dX12_manners_32 ?_
    refine B_bipush dX12_manners_33 bp_9 ?_
    refine C_icmp_gt (tgt := 126) dX12_manners_35 (by decide) (fun q6 => ?_) (fun q6 => ?_)
    · refine B_iconst dX12_manners_126 ic_m1 ?_
      exact B_ireturn dX12_manners_127 rfl rfl
    · refine B_aload_n dX12_manners_38 rfl rfl ?_
      refine B_getR dX12_manners_39 fl_X12_55 shM_0 rfl (rfM_0_28 _) ?_
      refine B_aload_n dX12_manners_42 rfl rfl ?_
      refine B_getR dX12_manners_43 fl_X12_58 shM_0 rfl (rfM_0_29 _) ?_
      refine B_SV (st := []) dX12_manners_46 cl_X12_401 (t_X12_copy h) (Nat.le_of_ble_eq_true rfl) rfl rfl (Nat.le_of_ble_eq_true rfl) (fun h5 _ => ?_)
      refine B_iconst dX12_manners_49 ic_0 ?_
      refine B_istore_n (ls' := [.ref 0, .int y1, .int y2, .int 0, .null]) dX12_manners_50 rfl (Nat.le_of_ble_eq_true rfl) rfl rfl ?_
      exact b_X12_manners_L51 (fun qy1 qy2 qh => ih qy1 qy2 qh) dFu y1 y2 0 h5
def f_X12_manners (x1 : Int32) (h : dH) : Option (Int32 × dH) :=
  (some (dPut h 0 0 0)).bind fun h1 =>
  if (f_X12_isSet x1 h1) then
  if (h1.1 0 30) = (-1) then
  f_X12_manners_L25 dFu x1 0 h1
  else
  some ((-1), h1)
  else
  some ((-1), h1)
set_option maxRecDepth 20000 in
set_option maxHeartbeats 4000000 in
theorem t_X12_manners (x1 : Int32) (h : dH) : T XM 86 yX12_manners cX12_manners 5 (some .int) fiI [.ref 0, .int x1] h (f_X12_manners x1 h) := by
  refine T_of [.ref 0, .int x1, .null, .null, .null] (by decide) (fun _ => rfl) (fun _ => Nat.le_of_ble_eq_true rfl) ?_
  show B XM 86 RX12 cX12_manners 5 (some .int) fiI 0 [.ref 0, .int x1, .null, .null, .null] [] h (f_X12_manners x1 h)
  unfold f_X12_manners
  refine B_aload_n dX12_manners_0 rfl rfl ?_
  refine B_iconst dX12_manners_1 ic_0 ?_
  refine B_putI dX12_manners_2 fl_X12_103 fw_X12_0 shM_0 rfl ?_
  refine B_lh (fun h1 => ?_)
  refine B_aload_n dX12_manners_5 rfl rfl ?_
  refine B_iload_n dX12_manners_6 rfl rfl ?_
  refine B_VTb (st := []) dX12_manners_7 cl_X12_437 (t_X12_isSet x1 h1) (Nat.le_of_ble_eq_true rfl) shM_0 rfl rfl (Nat.le_of_ble_eq_true rfl) ?_
  refine C_ifb_eq (tgt := 21) dX12_manners_10 (by decide) (fun q3 => ?_) (fun q3 => ?_)
  · refine B_iconst dX12_manners_21 ic_m1 ?_
    exact B_ireturn dX12_manners_22 rfl rfl
  · refine B_aload_n dX12_manners_13 rfl rfl ?_
    refine B_getI dX12_manners_14 fl_X12_61 shM_0 rfl ?_
    refine B_iconst dX12_manners_17 ic_m1 ?_
    refine C_icmp_eq (tgt := 23) dX12_manners_18 (by decide) (fun q2 => ?_) (fun q2 => ?_)
    · refine B_iconst dX12_manners_23 ic_0 ?_
      refine B_istore_n (ls' := [.ref 0, .int x1, .int 0, .null, .null]) dX12_manners_24 rfl (Nat.le_of_ble_eq_true rfl) rfl rfl ?_
      exact b_X12_manners_L25 dFu x1 0 h1
    · refine B_iconst dX12_manners_21 ic_m1 ?_
      exact B_ireturn dX12_manners_22 rfl rfl
def f_X12_noted (x1 : Int32) (x2 : Int32) (x3 : Bool) (h : dH) : Option (Int32 × dH) :=
  (some (dPut h 0 0 0)).bind fun h1 =>
  if (f_X12_isPlace x1 h1) then
  if (f_X12_isIn ((x2 : Int32).toInt64) 0 60 h1) then
  if (h1.1 0 47) = 10 then
  some ((-1), h1)
  else
  if dIn (h1.1 0 47) 10 then
  (some (dPut h1 17 (dI (h1.1 0 47)) x1)).bind fun h3 =>
  if dIn (h3.1 0 47) 10 then
  (some (dPut h3 18 (dI (h3.1 0 47)) x2)).bind fun h5 =>
  if dIn (h5.1 0 47) 10 then
  (some (dPut h5 21 (dI (h5.1 0 47)) (vp_nar .boolean (bi x3)))).bind fun h7 =>
  some (((dPut h7 0 47 ((h7.1 0 47) + 1)).1 0 47), (dPut h7 0 47 ((h7.1 0 47) + 1)))
  else none
  else none
  else none
  else
  some ((-1), h1)
  else
  some ((-1), h1)
set_option maxRecDepth 20000 in
set_option maxHeartbeats 4000000 in
theorem t_X12_noted (x1 : Int32) (x2 : Int32) (x3 : Bool) (h : dH) : T XM 1 yX12_noted cX12_noted 4 (some .int) fiI [.ref 0, .int x1, .int x2, .int (bi x3)] h (f_X12_noted x1 x2 x3 h) := by
  refine T_of [.ref 0, .int x1, .int x2, .int (bi x3)] (by decide) (fun _ => rfl) (fun _ => Nat.le_of_ble_eq_true rfl) ?_
  show B XM 1 RX12 cX12_noted 4 (some .int) fiI 0 [.ref 0, .int x1, .int x2, .int (bi x3)] [] h (f_X12_noted x1 x2 x3 h)
  unfold f_X12_noted
  refine B_aload_n dX12_noted_0 rfl rfl ?_
  refine B_iconst dX12_noted_1 ic_0 ?_
  refine B_putI dX12_noted_2 fl_X12_103 fw_X12_0 shM_0 rfl ?_
  refine B_lh (fun h1 => ?_)
  refine B_aload_n dX12_noted_5 rfl rfl ?_
  refine B_iload_n dX12_noted_6 rfl rfl ?_
  refine B_VTb (st := []) dX12_noted_7 cl_X12_339 (t_X12_isPlace x1 h1) (Nat.le_of_ble_eq_true rfl) shM_0 rfl rfl (Nat.le_of_ble_eq_true rfl) ?_
  refine C_ifb_eq (tgt := 34) dX12_noted_10 (by decide) (fun q10 => ?_) (fun q10 => ?_)
  · refine B_iconst dX12_noted_34 ic_m1 ?_
    exact B_ireturn dX12_noted_35 rfl rfl
  · refine B_iload_n dX12_noted_13 rfl rfl ?_
    refine B_i2l dX12_noted_14 ?_
    refine B_lconst (v := 0) dX12_noted_15 (by decide) ?_
    refine B_ldc2 dX12_noted_16 kc_X12_392 ?_
    refine B_STb (st := []) dX12_noted_19 cl_X12_224 (t_X12_isIn ((x2 : Int32).toInt64) 0 60 h1) (Nat.le_of_ble_eq_true rfl) rfl rfl (Nat.le_of_ble_eq_true rfl) ?_
    refine C_ifb_eq (tgt := 34) dX12_noted_22 (by decide) (fun q9 => ?_) (fun q9 => ?_)
    · refine B_iconst dX12_noted_34 ic_m1 ?_
      exact B_ireturn dX12_noted_35 rfl rfl
    · refine B_aload_n dX12_noted_25 rfl rfl ?_
      refine B_getI dX12_noted_26 fl_X12_296 shM_0 rfl ?_
      refine B_bipush dX12_noted_29 bp_10 ?_
      refine C_icmp_ne (tgt := 36) dX12_noted_31 (by decide) (fun q8 => ?_) (fun q8 => ?_)
      · refine B_aload_n dX12_noted_36 rfl rfl ?_
        refine B_getR dX12_noted_37 fl_X12_81 shM_0 rfl (rfM_0_42 _) ?_
        refine B_aload_n dX12_noted_40 rfl rfl ?_
        refine B_getI dX12_noted_41 fl_X12_296 shM_0 rfl ?_
        refine B_iload_n dX12_noted_44 rfl rfl ?_
        refine C_chk (fun q2 => ?_)
        refine L_iast dX12_noted_45 shM_17 q2 rfl ?_
        refine B_lh (fun h3 => ?_)
        refine B_aload_n dX12_noted_46 rfl rfl ?_
        refine B_getR dX12_noted_47 fl_X12_84 shM_0 rfl (rfM_0_43 _) ?_
        refine B_aload_n dX12_noted_50 rfl rfl ?_
        refine B_getI dX12_noted_51 fl_X12_296 shM_0 rfl ?_
        refine B_iload_n dX12_noted_54 rfl rfl ?_
        refine C_chk (fun q4 => ?_)
        refine L_iast dX12_noted_55 shM_18 q4 rfl ?_
        refine B_lh (fun h5 => ?_)
        refine B_aload_n dX12_noted_56 rfl rfl ?_
        refine B_getR dX12_noted_57 fl_X12_93 shM_0 rfl (rfM_0_46 _) ?_
        refine B_aload_n dX12_noted_60 rfl rfl ?_
        refine B_getI dX12_noted_61 fl_X12_296 shM_0 rfl ?_
        refine B_iload_n dX12_noted_64 rfl rfl ?_
        refine C_chk (fun q6 => ?_)
        refine L_zast dX12_noted_65 shM_21 q6 rfl ?_
        refine B_lh (fun h7 => ?_)
        refine B_aload_n dX12_noted_66 rfl rfl ?_
        refine B_dup dX12_noted_67 rfl ?_
        refine B_getI dX12_noted_68 fl_X12_296 shM_0 rfl ?_
        refine B_iconst dX12_noted_71 ic_1 ?_
        refine B_iadd dX12_noted_72 ?_
        refine B_putI dX12_noted_73 fl_X12_296 fw_X12_47 shM_0 rfl ?_
        refine B_aload_n dX12_noted_76 rfl rfl ?_
        refine B_getI dX12_noted_77 fl_X12_296 shM_0 rfl ?_
        exact B_ireturn dX12_noted_80 rfl rfl
      · refine B_iconst dX12_noted_34 ic_m1 ?_
        exact B_ireturn dX12_noted_35 rfl rfl
def f_X12_isNoted_J45 (kL2 : Int32 → Int32 → Option (Bool)) (y1 : Int32) (y2 : Int32) (z0 : Bool) (h : dH) : Option (Bool) :=
  if dIn y2 10 then
  if (bi z0) = (h.1 21 (dI y2)) then
  kL2 y1 (y2 + 1)
  else
  some false
  else none
set_option maxRecDepth 20000 in
set_option maxHeartbeats 4000000 in
theorem b_X12_isNoted_J45 {kL2 : Int32 → Int32 → Option (Bool)} (h : dH) (hkL2 : ∀ (y1 : Int32) (y2 : Int32), B XM 1 RX12 cX12_isNoted 5 (some .boolean) (fiB h) 2 [.ref 0, .int y1, .int y2, .null, .null] [] h (kL2 y1 y2)) (y1 : Int32) (y2 : Int32) (z0 : Bool) : B XM 1 RX12 cX12_isNoted 5 (some .boolean) (fiB h) 45 [.ref 0, .int y1, .int y2, .null, .null] [.int (bi z0)] h (f_X12_isNoted_J45 kL2 y1 y2 z0 h) := by
  unfold f_X12_isNoted_J45
  refine B_istore (ls' := [.ref 0, .int y1, .int y2, .null, .int (bi z0)]) dX12_isNoted_45 (Nat.le_of_ble_eq_true rfl) rfl rfl ?_
  refine B_iload dX12_isNoted_47 rfl ?_
  refine B_aload_n dX12_isNoted_49 rfl rfl ?_
  refine B_getR dX12_isNoted_50 fl_X12_93 shM_0 rfl (rfM_0_46 _) ?_
  refine B_iload_n dX12_isNoted_53 rfl rfl ?_
  refine C_chk (fun q8 => ?_)
  refine L_zald dX12_isNoted_54 shM_21 q8 rfl ?_
  refine C_icmp_eq (tgt := 60) dX12_isNoted_55 (by decide) (fun q9 => ?_) (fun q9 => ?_)
  · refine B_iinc (w := (y2 + 1)) (ls' := [.ref 0, .int y1, .int (y2 + 1), .null, .int (bi z0)]) dX12_isNoted_60 rfl (congrArg (fun z => y2 + z) ic_1) (Nat.le_of_ble_eq_true rfl) rfl rfl ?_
    refine B_goto (tgt := 2) dX12_isNoted_63 (by decide) ?_
    refine B_drop 4 (ls' := [.ref 0, .int y1, .int (y2 + 1), .null, .null]) rfl ?_
    exact hkL2 y1 (y2 + 1)  
  · refine B_iconst dX12_isNoted_58 ic_0 ?_
    exact B_zreturn dX12_isNoted_59 rfl rfl rfl
def f_X12_isNoted_J44 (kL2 : Int32 → Int32 → Option (Bool)) (y1 : Int32) (y2 : Int32) (h : dH) : Option (Bool) :=
  f_X12_isNoted_J45 kL2 y1 y2 false h
set_option maxRecDepth 20000 in
set_option maxHeartbeats 4000000 in
theorem b_X12_isNoted_J44 {kL2 : Int32 → Int32 → Option (Bool)} (h : dH) (hkL2 : ∀ (y1 : Int32) (y2 : Int32), B XM 1 RX12 cX12_isNoted 5 (some .boolean) (fiB h) 2 [.ref 0, .int y1, .int y2, .null, .null] [] h (kL2 y1 y2)) (y1 : Int32) (y2 : Int32) : B XM 1 RX12 cX12_isNoted 5 (some .boolean) (fiB h) 44 [.ref 0, .int y1, .int y2, .null, .null] [] h (f_X12_isNoted_J44 kL2 y1 y2 h) := by
  unfold f_X12_isNoted_J44
  refine B_iconst dX12_isNoted_44 ic_0 ?_
  exact b_X12_isNoted_J45 h hkL2 y1 y2 false
def f_X12_isNoted_L2 (h : dH) : Nat → Int32 → Int32 → Option (Bool)
  | 0, _, _ => none
  | n + 1, y1, y2 =>
    if y2 < (h.1 0 47) then
    if dIn y2 10 then
    (some ((h.1 17 (dI y2)))).bind fun v2 =>
    if (f_X12_has y1 v2 h) then
    if dIn v2 7 then
    if dIn y2 10 then
    if (h.1 18 (dI y2)) < (h.1 19 (dI v2)) then
    f_X12_isNoted_J44 (f_X12_isNoted_L2 h n) y1 y2 h
    else
    f_X12_isNoted_J45 (f_X12_isNoted_L2 h n) y1 y2 true h
    else none
    else none
    else
    f_X12_isNoted_J44 (f_X12_isNoted_L2 h n) y1 y2 h
    else none
    else
    some true
set_option maxRecDepth 20000 in
set_option maxHeartbeats 4000000 in
theorem b_X12_isNoted_L2 (h : dH) : ∀ (n : Nat) (y1 : Int32) (y2 : Int32), B XM 1 RX12 cX12_isNoted 5 (some .boolean) (fiB h) 2 [.ref 0, .int y1, .int y2, .null, .null] [] h (f_X12_isNoted_L2 h n y1 y2) := by
  intro n
  induction n with
  | zero =>
    intro y1 y2
    exact B_none
  | succ n ih =>
    intro y1 y2
    rw [f_X12_isNoted_L2]
    refine B_iload_n dX12_isNoted_2 rfl rfl ?_
    refine B_aload_n dX12_isNoted_3 rfl rfl ?_
    refine B_getI dX12_isNoted_4 fl_X12_296 shM_0 rfl ?_
    refine C_icmp_ge (tgt := 66) dX12_isNoted_7 (by decide) (fun q7 => ?_) (fun q7 => ?_)
    · refine B_iconst dX12_isNoted_66 ic_1 ?_
      exact B_zreturn dX12_isNoted_67 rfl rfl rfl
    · refine B_aload_n dX12_isNoted_10 rfl rfl ?_
      refine B_getR dX12_isNoted_11 fl_X12_81 shM_0 rfl (rfM_0_42 _) ?_
      refine B_iload_n dX12_isNoted_14 rfl rfl ?_
      refine C_chk (fun q1 => ?_)
      refine L_iald dX12_isNoted_15 shM_17 q1 rfl ?_
      refine B_lv (fun v2 => ?_)
      refine B_istore_n (ls' := [.ref 0, .int y1, .int y2, .int v2, .null]) dX12_isNoted_16 rfl (Nat.le_of_ble_eq_true rfl) rfl rfl ?_
      refine B_iload_n dX12_isNoted_17 rfl rfl ?_
      refine B_iload_n dX12_isNoted_18 rfl rfl ?_
      refine B_STb (st := []) dX12_isNoted_19 cl_X12_236 (t_X12_has y1 v2 h) (Nat.le_of_ble_eq_true rfl) rfl rfl (Nat.le_of_ble_eq_true rfl) ?_
      refine C_ifb_eq (tgt := 44) dX12_isNoted_22 (by decide) (fun q6 => ?_) (fun q6 => ?_)
      · refine B_drop 3 (ls' := [.ref 0, .int y1, .int y2, .null, .null]) rfl ?_
        exact b_X12_isNoted_J44 h (fun qy1 qy2 => ih qy1 qy2) y1 y2
      · refine B_aload_n dX12_isNoted_25 rfl rfl ?_
        refine B_getR dX12_isNoted_26 fl_X12_87 shM_0 rfl (rfM_0_44 _) ?_
        refine B_iload_n dX12_isNoted_29 rfl rfl ?_
        refine C_chk (fun q3 => ?_)
        refine L_iald dX12_isNoted_30 shM_19 q3 rfl ?_
        refine B_aload_n dX12_isNoted_31 rfl rfl ?_
        refine B_getR dX12_isNoted_32 fl_X12_84 shM_0 rfl (rfM_0_43 _) ?_
        refine B_iload_n dX12_isNoted_35 rfl rfl ?_
        refine C_chk (fun q4 => ?_)
        refine L_iald dX12_isNoted_36 shM_18 q4 rfl ?_
        refine C_icmp_gt (tgt := 44) dX12_isNoted_37 (by decide) (fun q5 => ?_) (fun q5 => ?_)
        · refine B_drop 3 (ls' := [.ref 0, .int y1, .int y2, .null, .null]) rfl ?_
          exact b_X12_isNoted_J44 h (fun qy1 qy2 => ih qy1 qy2) y1 y2
        · refine B_iconst dX12_isNoted_40 ic_1 ?_
          refine B_goto (tgt := 45) dX12_isNoted_41 (by decide) ?_
          refine B_drop 3 (ls' := [.ref 0, .int y1, .int y2, .null, .null]) rfl ?_
          exact b_X12_isNoted_J45 h (fun qy1 qy2 => ih qy1 qy2) y1 y2 true
def f_X12_isNoted (x1 : Int32) (h : dH) : Option (Bool) :=
  f_X12_isNoted_L2 h dFu x1 0
set_option maxRecDepth 20000 in
set_option maxHeartbeats 4000000 in
theorem t_X12_isNoted (x1 : Int32) (h : dH) : T XM 1 yX12_isNoted cX12_isNoted 5 (some .boolean) (fiB h) [.ref 0, .int x1] h (f_X12_isNoted x1 h) := by
  refine T_of [.ref 0, .int x1, .null, .null, .null] (by decide) (fun _ => rfl) (fun _ => Nat.le_of_ble_eq_true rfl) ?_
  show B XM 1 RX12 cX12_isNoted 5 (some .boolean) (fiB h) 0 [.ref 0, .int x1, .null, .null, .null] [] h (f_X12_isNoted x1 h)
  unfold f_X12_isNoted
  refine B_iconst dX12_isNoted_0 ic_0 ?_
  refine B_istore_n (ls' := [.ref 0, .int x1, .int 0, .null, .null]) dX12_isNoted_1 rfl (Nat.le_of_ble_eq_true rfl) rfl rfl ?_
  exact b_X12_isNoted_L2 h dFu x1 0
def f_X12_goWays_J101 (rc_X12_goWays : Int32 → Int32 → Int32 → Int32 → Int32 → dH → Option (dH)) (kL55 : Int32 → Int32 → dH → Option (dH)) (y4 : Int32) (y6 : Int32) (z1 : Int32) (z2 : Int32) (z3 : Int32) (h : dH) : Option (dH) :=
  if dIn z1 7 then
  (some (dPut h 20 (dI z1) (z2 + z3))).bind fun h22 =>
  kL55 y4 (y6 + 1) h22
  else none
set_option maxRecDepth 20000 in
set_option maxHeartbeats 4000000 in
theorem b_X12_goWays_J101 {Dr : Nat} {rc_X12_goWays : Int32 → Int32 → Int32 → Int32 → Int32 → dH → Option (dH)} {kL55 : Int32 → Int32 → dH → Option (dH)} (hDr : 2 ≤ Dr) (hrc_X12_goWays : ∀ (x1 : Int32) (x2 : Int32) (x3 : Int32) (x4 : Int32) (x5 : Int32) (h : dH), T XM Dr yX12_goWays cX12_goWays 7 none fiV [.ref 0, .int x1, .int x2, .int x3, .int x4, .int x5] h (rc_X12_goWays x1 x2 x3 x4 x5 h)) (hkL55 : ∀ (y4 : Int32) (y6 : Int32) (h : dH), B XM (Dr + 1) RX12 cX12_goWays 7 none fiV 55 [.ref 0, .null, .null, .null, .int y4, .null, .int y6] [] h (kL55 y4 y6 h)) (y4 : Int32) (y6 : Int32) (z1 : Int32) (z2 : Int32) (z3 : Int32) (h : dH) : B XM (Dr + 1) RX12 cX12_goWays 7 none fiV 101 [.ref 0, .null, .null, .null, .int y4, .null, .int y6] [.int z3, .int z2, .int z1, .ref 20] h (f_X12_goWays_J101 rc_X12_goWays kL55 y4 y6 z1 z2 z3 h) := by
  unfold f_X12_goWays_J101
  refine B_iadd dX12_goWays_101 ?_
  refine C_chk (fun q21 => ?_)
  refine L_iast dX12_goWays_102 shM_20 q21 rfl ?_
  refine B_lh (fun h22 => ?_)
  refine B_iinc (w := (y6 + 1)) (ls' := [.ref 0, .null, .null, .null, .int y4, .null, .int (y6 + 1)]) dX12_goWays_103 rfl (congrArg (fun z => y6 + z) ic_1) (Nat.le_of_ble_eq_true rfl) rfl rfl ?_
  refine B_goto (tgt := 55) dX12_goWays_106 (by decide) ?_
  exact hkL55 y4 (y6 + 1)  h22
def f_X12_goWays_J100 (rc_X12_goWays : Int32 → Int32 → Int32 → Int32 → Int32 → dH → Option (dH)) (kL55 : Int32 → Int32 → dH → Option (dH)) (y4 : Int32) (y6 : Int32) (z1 : Int32) (z2 : Int32) (h : dH) : Option (dH) :=
  f_X12_goWays_J101 rc_X12_goWays kL55 y4 y6 z1 z2 (-1) h
set_option maxRecDepth 20000 in
set_option maxHeartbeats 4000000 in
theorem b_X12_goWays_J100 {Dr : Nat} {rc_X12_goWays : Int32 → Int32 → Int32 → Int32 → Int32 → dH → Option (dH)} {kL55 : Int32 → Int32 → dH → Option (dH)} (hDr : 2 ≤ Dr) (hrc_X12_goWays : ∀ (x1 : Int32) (x2 : Int32) (x3 : Int32) (x4 : Int32) (x5 : Int32) (h : dH), T XM Dr yX12_goWays cX12_goWays 7 none fiV [.ref 0, .int x1, .int x2, .int x3, .int x4, .int x5] h (rc_X12_goWays x1 x2 x3 x4 x5 h)) (hkL55 : ∀ (y4 : Int32) (y6 : Int32) (h : dH), B XM (Dr + 1) RX12 cX12_goWays 7 none fiV 55 [.ref 0, .null, .null, .null, .int y4, .null, .int y6] [] h (kL55 y4 y6 h)) (y4 : Int32) (y6 : Int32) (z1 : Int32) (z2 : Int32) (h : dH) : B XM (Dr + 1) RX12 cX12_goWays 7 none fiV 100 [.ref 0, .null, .null, .null, .int y4, .null, .int y6] [.int z2, .int z1, .ref 20] h (f_X12_goWays_J100 rc_X12_goWays kL55 y4 y6 z1 z2 h) := by
  unfold f_X12_goWays_J100
  refine B_iconst dX12_goWays_100 ic_m1 ?_
  exact b_X12_goWays_J101 hDr hrc_X12_goWays hkL55 y4 y6 z1 z2 (-1) h
def f_X12_goWays_L55 (rc_X12_goWays : Int32 → Int32 → Int32 → Int32 → Int32 → dH → Option (dH)) : Nat → Int32 → Int32 → dH → Option (dH)
  | 0, _, _, _ => none
  | n + 1, y4, y6, h =>
    if y6 < (h.1 0 24) then
    if dIn y6 7 then
    if (f_X12_has y4 y6 h) then
    if dIn y6 7 then
    if (h.1 0 50) < (h.1 19 (dI y6)) then
    f_X12_goWays_J100 rc_X12_goWays (f_X12_goWays_L55 rc_X12_goWays n) y4 y6 y6 (h.1 20 (dI y6)) h
    else
    f_X12_goWays_J101 rc_X12_goWays (f_X12_goWays_L55 rc_X12_goWays n) y4 y6 y6 (h.1 20 (dI y6)) 1 h
    else none
    else
    f_X12_goWays_J100 rc_X12_goWays (f_X12_goWays_L55 rc_X12_goWays n) y4 y6 y6 (h.1 20 (dI y6)) h
    else none
    else
    some h
set_option maxRecDepth 20000 in
set_option maxHeartbeats 4000000 in
theorem b_X12_goWays_L55 {Dr : Nat} {rc_X12_goWays : Int32 → Int32 → Int32 → Int32 → Int32 → dH → Option (dH)} (hDr : 2 ≤ Dr) (hrc_X12_goWays : ∀ (x1 : Int32) (x2 : Int32) (x3 : Int32) (x4 : Int32) (x5 : Int32) (h : dH), T XM Dr yX12_goWays cX12_goWays 7 none fiV [.ref 0, .int x1, .int x2, .int x3, .int x4, .int x5] h (rc_X12_goWays x1 x2 x3 x4 x5 h)) : ∀ (n : Nat) (y4 : Int32) (y6 : Int32) (h : dH), B XM (Dr + 1) RX12 cX12_goWays 7 none fiV 55 [.ref 0, .null, .null, .null, .int y4, .null, .int y6] [] h (f_X12_goWays_L55 rc_X12_goWays n y4 y6 h) := by
  intro n
  induction n with
  | zero =>
    intro y4 y6 h
    exact B_none
  | succ n ih =>
    intro y4 y6 h
    rw [f_X12_goWays_L55]
    refine B_iload dX12_goWays_55 rfl ?_
    refine B_aload_n dX12_goWays_57 rfl rfl ?_
    refine B_getI dX12_goWays_58 fl_X12_293 shM_0 rfl ?_
    refine C_icmp_ge (tgt := 109) dX12_goWays_61 (by decide) (fun q20 => ?_) (fun q20 => ?_)
    · exact B_return dX12_goWays_109 rfl rfl
    · refine B_aload_n dX12_goWays_64 rfl rfl ?_
      refine B_getR dX12_goWays_65 fl_X12_90 shM_0 rfl (rfM_0_45 _) ?_
      refine B_iload dX12_goWays_68 rfl ?_
      refine B_dup2 dX12_goWays_70 rfl rfl ?_
      refine C_chk (fun q16 => ?_)
      refine L_iald dX12_goWays_71 shM_20 q16 rfl ?_
      refine B_iload dX12_goWays_72 rfl ?_
      refine B_iload dX12_goWays_74 rfl ?_
      refine B_STb (st := [.int (h.1 20 (dI y6)), .int y6, .ref 20]) dX12_goWays_76 cl_X12_236 (t_X12_has y4 y6 h) (by omega) rfl rfl (Nat.le_of_ble_eq_true rfl) ?_
      refine C_ifb_eq (tgt := 100) dX12_goWays_79 (by decide) (fun q19 => ?_) (fun q19 => ?_)
      · exact b_X12_goWays_J100 hDr hrc_X12_goWays (fun qy4 qy6 qh => ih qy4 qy6 qh) y4 y6 y6 (h.1 20 (dI y6)) h
      · refine B_aload_n dX12_goWays_82 rfl rfl ?_
        refine B_getR dX12_goWays_83 fl_X12_87 shM_0 rfl (rfM_0_44 _) ?_
        refine B_iload dX12_goWays_86 rfl ?_
        refine C_chk (fun q17 => ?_)
        refine L_iald dX12_goWays_88 shM_19 q17 rfl ?_
        refine B_aload_n dX12_goWays_89 rfl rfl ?_
        refine B_getI dX12_goWays_90 fl_X12_452 shM_0 rfl ?_
        refine C_icmp_gt (tgt := 100) dX12_goWays_93 (by decide) (fun q18 => ?_) (fun q18 => ?_)
        · exact b_X12_goWays_J100 hDr hrc_X12_goWays (fun qy4 qy6 qh => ih qy4 qy6 qh) y4 y6 y6 (h.1 20 (dI y6)) h
        · refine B_iconst dX12_goWays_96 ic_1 ?_
          refine B_goto (tgt := 101) dX12_goWays_97 (by decide) ?_
          exact b_X12_goWays_J101 hDr hrc_X12_goWays (fun qy4 qy6 qh => ih qy4 qy6 qh) y4 y6 y6 (h.1 20 (dI y6)) 1 h
def f_X12_goWays_J31 (rc_X12_goWays : Int32 → Int32 → Int32 → Int32 → Int32 → dH → Option (dH)) (y4 : Int32) (h : dH) : Option (dH) :=
  (some (dPut h 0 48 ((h.1 0 48) + 1))).bind fun h14 =>
  (some (dPut h14 0 51 ((h14.1 0 51) &&& y4))).bind fun h15 =>
  f_X12_goWays_L55 rc_X12_goWays dFu y4 0 h15
set_option maxRecDepth 20000 in
set_option maxHeartbeats 4000000 in
theorem b_X12_goWays_J31 {Dr : Nat} {rc_X12_goWays : Int32 → Int32 → Int32 → Int32 → Int32 → dH → Option (dH)} (hDr : 2 ≤ Dr) (hrc_X12_goWays : ∀ (x1 : Int32) (x2 : Int32) (x3 : Int32) (x4 : Int32) (x5 : Int32) (h : dH), T XM Dr yX12_goWays cX12_goWays 7 none fiV [.ref 0, .int x1, .int x2, .int x3, .int x4, .int x5] h (rc_X12_goWays x1 x2 x3 x4 x5 h)) (y4 : Int32) (h : dH) : B XM (Dr + 1) RX12 cX12_goWays 7 none fiV 31 [.ref 0, .null, .null, .null, .int y4, .null, .null] [] h (f_X12_goWays_J31 rc_X12_goWays y4 h) := by
  unfold f_X12_goWays_J31
  refine B_aload_n dX12_goWays_31 rfl rfl ?_
  refine B_dup dX12_goWays_32 rfl ?_
  refine B_getI dX12_goWays_33 fl_X12_443 shM_0 rfl ?_
  refine B_iconst dX12_goWays_36 ic_1 ?_
  refine B_iadd dX12_goWays_37 ?_
  refine B_putI dX12_goWays_38 fl_X12_443 fw_X12_48 shM_0 rfl ?_
  refine B_lh (fun h14 => ?_)
  refine B_aload_n dX12_goWays_41 rfl rfl ?_
  refine B_dup dX12_goWays_42 rfl ?_
  refine B_getI dX12_goWays_43 fl_X12_449 shM_0 rfl ?_
  refine B_iload dX12_goWays_46 rfl ?_
  refine B_iand dX12_goWays_48 ?_
  refine B_putI dX12_goWays_49 fl_X12_449 fw_X12_51 shM_0 rfl ?_
  refine B_lh (fun h15 => ?_)
  refine B_iconst dX12_goWays_52 ic_0 ?_
  refine B_istore (ls' := [.ref 0, .null, .null, .null, .int y4, .null, .int 0]) dX12_goWays_53 (Nat.le_of_ble_eq_true rfl) rfl rfl ?_
  exact b_X12_goWays_L55 hDr hrc_X12_goWays dFu y4 0 h15
def f_X12_goWays_J184 (rc_X12_goWays : Int32 → Int32 → Int32 → Int32 → Int32 → dH → Option (dH)) (kL113 : Int32 → Int32 → Int32 → Int32 → Int32 → Int32 → dH → Option (dH)) (y1 : Int32) (y2 : Int32) (y3 : Int32) (y4 : Int32) (y5 : Int32) (y6 : Int32) (h : dH) : Option (dH) :=
  kL113 y1 y2 y3 y4 y5 (y6 + 1) h
set_option maxRecDepth 20000 in
set_option maxHeartbeats 4000000 in
theorem b_X12_goWays_J184 {Dr : Nat} {rc_X12_goWays : Int32 → Int32 → Int32 → Int32 → Int32 → dH → Option (dH)} {kL113 : Int32 → Int32 → Int32 → Int32 → Int32 → Int32 → dH → Option (dH)} (hDr : 2 ≤ Dr) (hrc_X12_goWays : ∀ (x1 : Int32) (x2 : Int32) (x3 : Int32) (x4 : Int32) (x5 : Int32) (h : dH), T XM Dr yX12_goWays cX12_goWays 7 none fiV [.ref 0, .int x1, .int x2, .int x3, .int x4, .int x5] h (rc_X12_goWays x1 x2 x3 x4 x5 h)) (hkL113 : ∀ (y1 : Int32) (y2 : Int32) (y3 : Int32) (y4 : Int32) (y5 : Int32) (y6 : Int32) (h : dH), B XM (Dr + 1) RX12 cX12_goWays 7 none fiV 113 [.ref 0, .int y1, .int y2, .int y3, .int y4, .int y5, .int y6] [] h (kL113 y1 y2 y3 y4 y5 y6 h)) (y1 : Int32) (y2 : Int32) (y3 : Int32) (y4 : Int32) (y5 : Int32) (y6 : Int32) (h : dH) : B XM (Dr + 1) RX12 cX12_goWays 7 none fiV 184 [.ref 0, .int y1, .int y2, .int y3, .int y4, .int y5, .int y6] [] h (f_X12_goWays_J184 rc_X12_goWays kL113 y1 y2 y3 y4 y5 y6 h) := by
  unfold f_X12_goWays_J184
  refine B_iinc (w := (y6 + 1)) (ls' := [.ref 0, .int y1, .int y2, .int y3, .int y4, .int y5, .int (y6 + 1)]) dX12_goWays_184 rfl (congrArg (fun z => y6 + z) ic_1) (Nat.le_of_ble_eq_true rfl) rfl rfl ?_
  refine B_goto (tgt := 113) dX12_goWays_187 (by decide) ?_
  exact hkL113 y1 y2 y3 y4 y5 (y6 + 1)  h
def f_X12_goWays_L113 (rc_X12_goWays : Int32 → Int32 → Int32 → Int32 → Int32 → dH → Option (dH)) : Nat → Int32 → Int32 → Int32 → Int32 → Int32 → Int32 → dH → Option (dH)
  | 0, _, _, _, _, _, _, _ => none
  | n + 1, y1, y2, y3, y4, y5, y6, h =>
    if y6 < (h.1 0 24) then
    if (f_X12_has y4 y6 h) then
    f_X12_goWays_J184 rc_X12_goWays (f_X12_goWays_L113 rc_X12_goWays n) y1 y2 y3 y4 y5 y6 h
    else
    (f_X12_between y2 y6 h).bind fun v6 =>
    if dIn y6 7 then
    (some (dPut h 19 (dI y6) (y3 + v6))).bind fun h8 =>
    if dIn y6 7 then
    (rc_X12_goWays (y1 - 1) y6 ((h8.1 19 (dI y6)) + 1) (y4 ||| (1 <<< (y6 &&& 31))) ((10 * y5) + y6) h8).bind fun h11 =>
    f_X12_goWays_J184 rc_X12_goWays (f_X12_goWays_L113 rc_X12_goWays n) y1 y2 y3 y4 y5 y6 h11
    else none
    else none
    else
    some h
set_option maxRecDepth 20000 in
set_option maxHeartbeats 4000000 in
theorem b_X12_goWays_L113 {Dr : Nat} {rc_X12_goWays : Int32 → Int32 → Int32 → Int32 → Int32 → dH → Option (dH)} (hDr : 2 ≤ Dr) (hrc_X12_goWays : ∀ (x1 : Int32) (x2 : Int32) (x3 : Int32) (x4 : Int32) (x5 : Int32) (h : dH), T XM Dr yX12_goWays cX12_goWays 7 none fiV [.ref 0, .int x1, .int x2, .int x3, .int x4, .int x5] h (rc_X12_goWays x1 x2 x3 x4 x5 h)) : ∀ (n : Nat) (y1 : Int32) (y2 : Int32) (y3 : Int32) (y4 : Int32) (y5 : Int32) (y6 : Int32) (h : dH), B XM (Dr + 1) RX12 cX12_goWays 7 none fiV 113 [.ref 0, .int y1, .int y2, .int y3, .int y4, .int y5, .int y6] [] h (f_X12_goWays_L113 rc_X12_goWays n y1 y2 y3 y4 y5 y6 h) := by
  intro n
  induction n with
  | zero =>
    intro y1 y2 y3 y4 y5 y6 h
    exact B_none
  | succ n ih =>
    intro y1 y2 y3 y4 y5 y6 h
    rw [f_X12_goWays_L113]
    refine B_iload dX12_goWays_113 rfl ?_
    refine B_aload_n dX12_goWays_115 rfl rfl ?_
    refine B_getI dX12_goWays_116 fl_X12_293 shM_0 rfl ?_
    refine C_icmp_ge (tgt := 190) dX12_goWays_119 (by decide) (fun q13 => ?_) (fun q13 => ?_)
    · exact B_return dX12_goWays_190 rfl rfl
    · refine B_iload dX12_goWays_122 rfl ?_
      refine B_iload dX12_goWays_124 rfl ?_
      refine B_STb (st := []) dX12_goWays_126 cl_X12_236 (t_X12_has y4 y6 h) (by omega) rfl rfl (Nat.le_of_ble_eq_true rfl) ?_
      refine C_ifb_eq (tgt := 135) dX12_goWays_129 (by decide) (fun q12 => ?_) (fun q12 => ?_)
      · refine B_aload_n dX12_goWays_135 rfl rfl ?_
        refine B_getR dX12_goWays_136 fl_X12_87 shM_0 rfl (rfM_0_44 _) ?_
        refine B_iload dX12_goWays_139 rfl ?_
        refine B_iload_n dX12_goWays_141 rfl rfl ?_
        refine B_aload_n dX12_goWays_142 rfl rfl ?_
        refine B_iload_n dX12_goWays_143 rfl rfl ?_
        refine B_iload dX12_goWays_144 rfl ?_
        refine B_Vp (st := [.int y3, .int y6, .ref 19]) dX12_goWays_146 cl_X12_315 (t_X12_between y2 y6 h) (by omega) shM_0 rfl rfl (Nat.le_of_ble_eq_true rfl) (fun v6 _ => ?_)
        refine B_iadd dX12_goWays_149 ?_
        refine C_chk (fun q7 => ?_)
        refine L_iast dX12_goWays_150 shM_19 q7 rfl ?_
        refine B_lh (fun h8 => ?_)
        refine B_aload_n dX12_goWays_151 rfl rfl ?_
        refine B_iload_n dX12_goWays_152 rfl rfl ?_
        refine B_iconst dX12_goWays_153 ic_1 ?_
        refine B_isub dX12_goWays_154 ?_
        refine B_iload dX12_goWays_155 rfl ?_
        refine B_aload_n dX12_goWays_157 rfl rfl ?_
        refine B_getR dX12_goWays_158 fl_X12_87 shM_0 rfl (rfM_0_44 _) ?_
        refine B_iload dX12_goWays_161 rfl ?_
        refine C_chk (fun q9 => ?_)
        refine L_iald dX12_goWays_163 shM_19 q9 rfl ?_
        refine B_iconst dX12_goWays_164 ic_1 ?_
        refine B_iadd dX12_goWays_165 ?_
        refine B_iload dX12_goWays_166 rfl ?_
        refine B_iconst dX12_goWays_168 ic_1 ?_
        refine B_iload dX12_goWays_169 rfl ?_
        refine B_ishl dX12_goWays_171 ?_
        refine B_ior dX12_goWays_172 ?_
        refine B_bipush dX12_goWays_173 bp_10 ?_
        refine B_iload dX12_goWays_175 rfl ?_
        refine B_imul dX12_goWays_177 ?_
        refine B_iload dX12_goWays_178 rfl ?_
        refine B_iadd dX12_goWays_180 ?_
        refine B_VV (st := []) dX12_goWays_181 cl_X12_455 (hrc_X12_goWays (y1 - 1) y6 ((h8.1 19 (dI y6)) + 1) (y4 ||| (1 <<< (y6 &&& 31))) ((10 * y5) + y6) h8) (by omega) shM_0 rfl rfl (Nat.le_of_ble_eq_true rfl) (fun h11 _ => ?_)
        exact b_X12_goWays_J184 hDr hrc_X12_goWays (fun qy1 qy2 qy3 qy4 qy5 qy6 qh => ih qy1 qy2 qy3 qy4 qy5 qy6 qh) y1 y2 y3 y4 y5 y6 h11
      · refine B_goto (tgt := 184) dX12_goWays_132 (by decide) ?_
        exact b_X12_goWays_J184 hDr hrc_X12_goWays (fun qy1 qy2 qy3 qy4 qy5 qy6 qh => ih qy1 qy2 qy3 qy4 qy5 qy6 qh) y1 y2 y3 y4 y5 y6 h
def f_X12_goWays (rc_X12_goWays : Int32 → Int32 → Int32 → Int32 → Int32 → dH → Option (dH)) (x1 : Int32) (x2 : Int32) (x3 : Int32) (x4 : Int32) (x5 : Int32) (h : dH) : Option (dH) :=
  if x1 = 0 then
  (f_X12_isNoted x4 h).bind fun v1 =>
  if v1 then
  if (h.1 0 48) = (h.1 0 49) then
  (some (dPut h 0 38 x5)).bind fun h2 =>
  f_X12_goWays_J31 rc_X12_goWays x4 h2
  else
  f_X12_goWays_J31 rc_X12_goWays x4 h
  else
  some h
  else
  f_X12_goWays_L113 rc_X12_goWays dFu x1 x2 x3 x4 x5 0 h
set_option maxRecDepth 20000 in
set_option maxHeartbeats 4000000 in
theorem t_X12_goWays {Dr : Nat} {rc_X12_goWays : Int32 → Int32 → Int32 → Int32 → Int32 → dH → Option (dH)} (hDr : 2 ≤ Dr) (hrc_X12_goWays : ∀ (x1 : Int32) (x2 : Int32) (x3 : Int32) (x4 : Int32) (x5 : Int32) (h : dH), T XM Dr yX12_goWays cX12_goWays 7 none fiV [.ref 0, .int x1, .int x2, .int x3, .int x4, .int x5] h (rc_X12_goWays x1 x2 x3 x4 x5 h)) (x1 : Int32) (x2 : Int32) (x3 : Int32) (x4 : Int32) (x5 : Int32) (h : dH) : T XM (Dr + 1) yX12_goWays cX12_goWays 7 none fiV [.ref 0, .int x1, .int x2, .int x3, .int x4, .int x5] h (f_X12_goWays rc_X12_goWays x1 x2 x3 x4 x5 h) := by
  refine T_of [.ref 0, .int x1, .int x2, .int x3, .int x4, .int x5, .null] (by decide) (fun _ => rfl) (fun _ => Nat.le_of_ble_eq_true rfl) ?_
  show B XM (Dr + 1) RX12 cX12_goWays 7 none fiV 0 [.ref 0, .int x1, .int x2, .int x3, .int x4, .int x5, .null] [] h (f_X12_goWays rc_X12_goWays x1 x2 x3 x4 x5 h)
  unfold f_X12_goWays
  refine B_iload_n dX12_goWays_0 rfl rfl ?_
  refine C_if_ne (tgt := 110) dX12_goWays_1 (by decide) (fun q5 => ?_) (fun q5 => ?_)
  · refine B_iconst dX12_goWays_110 ic_0 ?_
    refine B_istore (ls' := [.ref 0, .int x1, .int x2, .int x3, .int x4, .int x5, .int 0]) dX12_goWays_111 (Nat.le_of_ble_eq_true rfl) rfl rfl ?_
    exact b_X12_goWays_L113 hDr hrc_X12_goWays dFu x1 x2 x3 x4 x5 0 h
  · refine B_aload_n dX12_goWays_4 rfl rfl ?_
    refine B_iload dX12_goWays_5 rfl ?_
    refine B_Vpb (st := []) dX12_goWays_7 cl_X12_440 (t_X12_isNoted x4 h) (by omega) shM_0 rfl rfl (Nat.le_of_ble_eq_true rfl) (fun v1 _ => ?_)
    refine C_ifb_ne (tgt := 14) dX12_goWays_10 (by decide) (fun q4 => ?_) (fun q4 => ?_)
    · refine B_aload_n dX12_goWays_14 rfl rfl ?_
      refine B_getI dX12_goWays_15 fl_X12_443 shM_0 rfl ?_
      refine B_aload_n dX12_goWays_18 rfl rfl ?_
      refine B_getI dX12_goWays_19 fl_X12_446 shM_0 rfl ?_
      refine C_icmp_ne (tgt := 31) dX12_goWays_22 (by decide) (fun q3 => ?_) (fun q3 => ?_)
      · refine B_drop 1 (ls' := [.ref 0, .null, .int x2, .int x3, .int x4, .int x5, .null]) rfl ?_
        refine B_drop 2 (ls' := [.ref 0, .null, .null, .int x3, .int x4, .int x5, .null]) rfl ?_
        refine B_drop 3 (ls' := [.ref 0, .null, .null, .null, .int x4, .int x5, .null]) rfl ?_
        refine B_drop 5 (ls' := [.ref 0, .null, .null, .null, .int x4, .null, .null]) rfl ?_
        exact b_X12_goWays_J31 hDr hrc_X12_goWays x4 h
      · refine B_aload_n dX12_goWays_25 rfl rfl ?_
        refine B_iload dX12_goWays_26 rfl ?_
        refine B_putI dX12_goWays_28 fl_X12_417 fw_X12_38 shM_0 rfl ?_
        refine B_lh (fun h2 => ?_)
        refine B_drop 1 (ls' := [.ref 0, .null, .int x2, .int x3, .int x4, .int x5, .null]) rfl ?_
        refine B_drop 2 (ls' := [.ref 0, .null, .null, .int x3, .int x4, .int x5, .null]) rfl ?_
        refine B_drop 3 (ls' := [.ref 0, .null, .null, .null, .int x4, .int x5, .null]) rfl ?_
        refine B_drop 5 (ls' := [.ref 0, .null, .null, .null, .int x4, .null, .null]) rfl ?_
        exact b_X12_goWays_J31 hDr hrc_X12_goWays x4 h2
    · exact B_return dX12_goWays_13 rfl rfl
def g_X12_goWays : Nat → (Int32 → Int32 → Int32 → Int32 → Int32 → dH → Option (dH))
  | 0 => (fun _ _ _ _ _ _ => none)
  | n + 1 => (f_X12_goWays (g_X12_goWays n))
def r_X12_goWays (n : Nat) : Int32 → Int32 → Int32 → Int32 → Int32 → dH → Option (dH) := (g_X12_goWays n)
set_option maxRecDepth 20000 in
set_option maxHeartbeats 4000000 in
theorem t_g_X12_goWays : ∀ n : Nat, (∀ (x1 : Int32) (x2 : Int32) (x3 : Int32) (x4 : Int32) (x5 : Int32) (h : dH), T XM (2 + n) yX12_goWays cX12_goWays 7 none fiV [.ref 0, .int x1, .int x2, .int x3, .int x4, .int x5] h (r_X12_goWays n x1 x2 x3 x4 x5 h)) := by
  intro n
  induction n with
  | zero =>
    exact fun _ _ _ _ _ _ => T_none
  | succ n ih =>
    exact fun x1 x2 x3 x4 x5 h => (t_X12_goWays (Nat.le_add_right 2 n) ih x1 x2 x3 x4 x5 h : T _ (2 + n + 1) _ _ _ _ _ _ _ _)
theorem t_X12_goWays_r : ∀ (x1 : Int32) (x2 : Int32) (x3 : Int32) (x4 : Int32) (x5 : Int32) (h : dH), T XM 8 yX12_goWays cX12_goWays 7 none fiV [.ref 0, .int x1, .int x2, .int x3, .int x4, .int x5] h (r_X12_goWays 6 x1 x2 x3 x4 x5 h) := (t_g_X12_goWays 6)
def f_X12_laysWays_L56 : Nat → Int32 → Int32 → dH → Option (Bool × dH)
  | 0, _, _, _ => none
  | n + 1, y1, y4, h =>
    if y4 < 7 then
    if dIn y4 7 then
    (some (dPut h 20 (dI y4) 0)).bind fun h11 =>
    (f_X12_laysWays_L56 n) y1 (y4 + 1) h11
    else none
    else
    ((r_X12_goWays 6) y1 (-1) 0 0 0 h).bind fun h9 =>
    some (true, h9)
set_option maxRecDepth 20000 in
set_option maxHeartbeats 4000000 in
theorem b_X12_laysWays_L56 : ∀ (n : Nat) (y1 : Int32) (y4 : Int32) (h : dH), B XM 9 RX12 cX12_laysWays 5 (some .boolean) fiC 56 [.ref 0, .int y1, .null, .null, .int y4] [] h (f_X12_laysWays_L56 n y1 y4 h) := by
  intro n
  induction n with
  | zero =>
    intro y1 y4 h
    exact B_none
  | succ n ih =>
    intro y1 y4 h
    rw [f_X12_laysWays_L56]
    refine B_iload dX12_laysWays_56 rfl ?_
    refine B_bipush dX12_laysWays_58 bp_7 ?_
    refine C_icmp_ge (tgt := 77) dX12_laysWays_60 (by decide) (fun q12 => ?_) (fun q12 => ?_)
    · refine B_aload_n dX12_laysWays_77 rfl rfl ?_
      refine B_iload_n dX12_laysWays_78 rfl rfl ?_
      refine B_iconst dX12_laysWays_79 ic_m1 ?_
      refine B_iconst dX12_laysWays_80 ic_0 ?_
      refine B_iconst dX12_laysWays_81 ic_0 ?_
      refine B_iconst dX12_laysWays_82 ic_0 ?_
      refine B_VV (st := []) dX12_laysWays_83 cl_X12_455 (t_X12_goWays_r y1 (-1) 0 0 0 h) (Nat.le_of_ble_eq_true rfl) shM_0 rfl rfl (Nat.le_of_ble_eq_true rfl) (fun h9 _ => ?_)
      refine B_iconst dX12_laysWays_86 ic_1 ?_
      exact B_zreturn dX12_laysWays_87 rfl rfl rfl
    · refine B_aload_n dX12_laysWays_63 rfl rfl ?_
      refine B_getR dX12_laysWays_64 fl_X12_90 shM_0 rfl (rfM_0_45 _) ?_
      refine B_iload dX12_laysWays_67 rfl ?_
      refine B_iconst dX12_laysWays_69 ic_0 ?_
      refine C_chk (fun q10 => ?_)
      refine L_iast dX12_laysWays_70 shM_20 q10 rfl ?_
      refine B_lh (fun h11 => ?_)
      refine B_iinc (w := (y4 + 1)) (ls' := [.ref 0, .int y1, .null, .null, .int (y4 + 1)]) dX12_laysWays_71 rfl (congrArg (fun z => y4 + z) ic_1) (Nat.le_of_ble_eq_true rfl) rfl rfl ?_
      refine B_goto (tgt := 56) dX12_laysWays_74 (by decide) ?_
      exact ih y1 (y4 + 1)  h11
def f_X12_laysWays (x1 : Int32) (x2 : Int32) (x3 : Int32) (h : dH) : Option (Bool × dH) :=
  if (h.1 0 24) = 0 then
  some (false, h)
  else
  if (f_X12_isIn ((x1 : Int32).toInt64) 1 4 h) then
  (some (dPut h 0 48 0)).bind fun h1 =>
  (some (dPut h1 0 49 x2)).bind fun h2 =>
  (some (dPut h2 0 50 x3)).bind fun h3 =>
  (some (dPut h3 0 38 (-1))).bind fun h4 =>
  (some (dPut h4 0 51 ((1 <<< ((h4.1 0 24) &&& 31)) - 1))).bind fun h5 =>
  f_X12_laysWays_L56 dFu x1 0 h5
  else
  some (false, h)
set_option maxRecDepth 20000 in
set_option maxHeartbeats 4000000 in
theorem t_X12_laysWays (x1 : Int32) (x2 : Int32) (x3 : Int32) (h : dH) : T XM 9 yX12_laysWays cX12_laysWays 5 (some .boolean) fiC [.ref 0, .int x1, .int x2, .int x3] h (f_X12_laysWays x1 x2 x3 h) := by
  refine T_of [.ref 0, .int x1, .int x2, .int x3, .null] (by decide) (fun _ => rfl) (fun _ => Nat.le_of_ble_eq_true rfl) ?_
  show B XM 9 RX12 cX12_laysWays 5 (some .boolean) fiC 0 [.ref 0, .int x1, .int x2, .int x3, .null] [] h (f_X12_laysWays x1 x2 x3 h)
  unfold f_X12_laysWays
  refine B_aload_n dX12_laysWays_0 rfl rfl ?_
  refine B_getI dX12_laysWays_1 fl_X12_293 shM_0 rfl ?_
  refine C_if_eq (tgt := 19) dX12_laysWays_4 (by decide) (fun q7 => ?_) (fun q7 => ?_)
  · refine B_iconst dX12_laysWays_19 ic_0 ?_
    exact B_zreturn dX12_laysWays_20 rfl rfl rfl
  · refine B_iload_n dX12_laysWays_7 rfl rfl ?_
    refine B_i2l dX12_laysWays_8 ?_
    refine B_lconst (v := 1) dX12_laysWays_9 (by decide) ?_
    refine B_ldc2 dX12_laysWays_10 kc_X12_318 ?_
    refine B_STb (st := []) dX12_laysWays_13 cl_X12_224 (t_X12_isIn ((x1 : Int32).toInt64) 1 4 h) (Nat.le_of_ble_eq_true rfl) rfl rfl (Nat.le_of_ble_eq_true rfl) ?_
    refine C_ifb_ne (tgt := 21) dX12_laysWays_16 (by decide) (fun q6 => ?_) (fun q6 => ?_)
    · refine B_aload_n dX12_laysWays_21 rfl rfl ?_
      refine B_iconst dX12_laysWays_22 ic_0 ?_
      refine B_putI dX12_laysWays_23 fl_X12_443 fw_X12_48 shM_0 rfl ?_
      refine B_lh (fun h1 => ?_)
      refine B_aload_n dX12_laysWays_26 rfl rfl ?_
      refine B_iload_n dX12_laysWays_27 rfl rfl ?_
      refine B_putI dX12_laysWays_28 fl_X12_446 fw_X12_49 shM_0 rfl ?_
      refine B_lh (fun h2 => ?_)
      refine B_aload_n dX12_laysWays_31 rfl rfl ?_
      refine B_iload_n dX12_laysWays_32 rfl rfl ?_
      refine B_putI dX12_laysWays_33 fl_X12_452 fw_X12_50 shM_0 rfl ?_
      refine B_lh (fun h3 => ?_)
      refine B_aload_n dX12_laysWays_36 rfl rfl ?_
      refine B_iconst dX12_laysWays_37 ic_m1 ?_
      refine B_putI dX12_laysWays_38 fl_X12_417 fw_X12_38 shM_0 rfl ?_
      refine B_lh (fun h4 => ?_)
      refine B_aload_n dX12_laysWays_41 rfl rfl ?_
      refine B_iconst dX12_laysWays_42 ic_1 ?_
      refine B_aload_n dX12_laysWays_43 rfl rfl ?_
      refine B_getI dX12_laysWays_44 fl_X12_293 shM_0 rfl ?_
      refine B_ishl dX12_laysWays_47 ?_
      refine B_iconst dX12_laysWays_48 ic_1 ?_
      refine B_isub dX12_laysWays_49 ?_
      refine B_putI dX12_laysWays_50 fl_X12_449 fw_X12_51 shM_0 rfl ?_
      refine B_lh (fun h5 => ?_)
      refine B_iconst dX12_laysWays_53 ic_0 ?_
      refine B_istore (ls' := [.ref 0, .int x1, .int x2, .int x3, .int 0]) dX12_laysWays_54 (Nat.le_of_ble_eq_true rfl) rfl rfl ?_
      refine B_drop 2 (ls' := [.ref 0, .int x1, .null, .int x3, .int 0]) rfl ?_
      refine B_drop 3 (ls' := [.ref 0, .int x1, .null, .null, .int 0]) rfl ?_
      exact b_X12_laysWays_L56 dFu x1 0 h5
    · refine B_iconst dX12_laysWays_19 ic_0 ?_
      exact B_zreturn dX12_laysWays_20 rfl rfl rfl
def f_X12_ways (x1 : Int32) (x2 : Int32) (h : dH) : Option (Int32 × dH) :=
  (some (dPut h 0 0 0)).bind fun h1 =>
  if x2 < (-1) then
  some ((-1), h1)
  else
  (f_X12_laysWays x1 x2 0 h1).bind fun rv2 =>
  if rv2.1 then
  if x2 = (-1) then
  some ((rv2.2.1 0 48), rv2.2)
  else
  some ((rv2.2.1 0 38), rv2.2)
  else
  some ((-1), rv2.2)
set_option maxRecDepth 20000 in
set_option maxHeartbeats 4000000 in
theorem t_X12_ways (x1 : Int32) (x2 : Int32) (h : dH) : T XM 10 yX12_ways cX12_ways 3 (some .int) fiI [.ref 0, .int x1, .int x2] h (f_X12_ways x1 x2 h) := by
  refine T_of [.ref 0, .int x1, .int x2] (by decide) (fun _ => rfl) (fun _ => Nat.le_of_ble_eq_true rfl) ?_
  show B XM 10 RX12 cX12_ways 3 (some .int) fiI 0 [.ref 0, .int x1, .int x2] [] h (f_X12_ways x1 x2 h)
  unfold f_X12_ways
  refine B_aload_n dX12_ways_0 rfl rfl ?_
  refine B_iconst dX12_ways_1 ic_0 ?_
  refine B_putI dX12_ways_2 fl_X12_103 fw_X12_0 shM_0 rfl ?_
  refine B_lh (fun h1 => ?_)
  refine B_iload_n dX12_ways_5 rfl rfl ?_
  refine B_iconst dX12_ways_6 ic_m1 ?_
  refine C_icmp_lt (tgt := 20) dX12_ways_7 (by decide) (fun q6 => ?_) (fun q6 => ?_)
  · refine B_iconst dX12_ways_20 ic_m1 ?_
    exact B_ireturn dX12_ways_21 rfl rfl
  · refine B_aload_n dX12_ways_10 rfl rfl ?_
    refine B_iload_n dX12_ways_11 rfl rfl ?_
    refine B_iload_n dX12_ways_12 rfl rfl ?_
    refine B_iconst dX12_ways_13 ic_0 ?_
    refine B_VC (st := []) dX12_ways_14 cl_X12_459 (t_X12_laysWays x1 x2 0 h1) (Nat.le_of_ble_eq_true rfl) shM_0 rfl rfl (Nat.le_of_ble_eq_true rfl) (fun v2 h3 _ => ?_)
    refine C_ifb_ne (tgt := 22) dX12_ways_17 (by decide) (fun q5 => ?_) (fun q5 => ?_)
    · refine B_iload_n dX12_ways_22 rfl rfl ?_
      refine B_iconst dX12_ways_23 ic_m1 ?_
      refine C_icmp_ne (tgt := 34) dX12_ways_24 (by decide) (fun q4 => ?_) (fun q4 => ?_)
      · refine B_aload_n dX12_ways_34 rfl rfl ?_
        refine B_getI dX12_ways_35 fl_X12_417 shM_0 rfl ?_
        exact B_ireturn dX12_ways_38 rfl rfl
      · refine B_aload_n dX12_ways_27 rfl rfl ?_
        refine B_getI dX12_ways_28 fl_X12_443 shM_0 rfl ?_
        refine B_goto (tgt := 38) dX12_ways_31 (by decide) ?_
        exact B_ireturn dX12_ways_38 rfl rfl
    · refine B_iconst dX12_ways_20 ic_m1 ?_
      exact B_ireturn dX12_ways_21 rfl rfl
def f_X12_ask_J78 (kL41 : Int32 → Int32 → dH → Option (Int32 × dH)) (y4 : Int32) (z0 : Int32) (h : dH) : Option (Int32 × dH) :=
  kL41 z0 (y4 + 1) h
set_option maxRecDepth 20000 in
set_option maxHeartbeats 4000000 in
theorem b_X12_ask_J78 {kL41 : Int32 → Int32 → dH → Option (Int32 × dH)} (hkL41 : ∀ (y3 : Int32) (y4 : Int32) (h : dH), B XM 10 RX12 cX12_ask 5 (some .int) fiI 41 [.ref 0, .null, .null, .int y3, .int y4] [] h (kL41 y3 y4 h)) (y4 : Int32) (z0 : Int32) (h : dH) : B XM 10 RX12 cX12_ask 5 (some .int) fiI 78 [.ref 0, .null, .null, .null, .int y4] [.int z0] h (f_X12_ask_J78 kL41 y4 z0 h) := by
  unfold f_X12_ask_J78
  refine B_istore_n (ls' := [.ref 0, .null, .null, .int z0, .int y4]) dX12_ask_78 rfl (Nat.le_of_ble_eq_true rfl) rfl rfl ?_
  refine B_iinc (w := (y4 + 1)) (ls' := [.ref 0, .null, .null, .int z0, .int (y4 + 1)]) dX12_ask_79 rfl (congrArg (fun z => y4 + z) ic_1) (Nat.le_of_ble_eq_true rfl) rfl rfl ?_
  refine B_goto (tgt := 41) dX12_ask_82 (by decide) ?_
  exact hkL41 z0 (y4 + 1)  h
def f_X12_ask_L41 : Nat → Int32 → Int32 → dH → Option (Int32 × dH)
  | 0, _, _, _ => none
  | n + 1, y3, y4, h =>
    if y4 < (h.1 0 24) then
    if dIn y4 7 then
    if dIn y3 7 then
    if (jabs (h.1 20 (dI y4))) < (jabs (h.1 20 (dI y3))) then
    f_X12_ask_J78 (f_X12_ask_L41 n) y4 y4 h
    else
    f_X12_ask_J78 (f_X12_ask_L41 n) y4 y3 h
    else none
    else none
    else
    some (y3, h)
set_option maxRecDepth 20000 in
set_option maxHeartbeats 4000000 in
theorem b_X12_ask_L41 : ∀ (n : Nat) (y3 : Int32) (y4 : Int32) (h : dH), B XM 10 RX12 cX12_ask 5 (some .int) fiI 41 [.ref 0, .null, .null, .int y3, .int y4] [] h (f_X12_ask_L41 n y3 y4 h) := by
  intro n
  induction n with
  | zero =>
    intro y3 y4 h
    exact B_none
  | succ n ih =>
    intro y3 y4 h
    rw [f_X12_ask_L41]
    refine B_iload dX12_ask_41 rfl ?_
    refine B_aload_n dX12_ask_43 rfl rfl ?_
    refine B_getI dX12_ask_44 fl_X12_293 shM_0 rfl ?_
    refine C_icmp_ge (tgt := 85) dX12_ask_47 (by decide) (fun q10 => ?_) (fun q10 => ?_)
    · refine B_iload_n dX12_ask_85 rfl rfl ?_
      exact B_ireturn dX12_ask_86 rfl rfl
    · refine B_aload_n dX12_ask_50 rfl rfl ?_
      refine B_getR dX12_ask_51 fl_X12_90 shM_0 rfl (rfM_0_45 _) ?_
      refine B_iload dX12_ask_54 rfl ?_
      refine C_chk (fun q7 => ?_)
      refine L_iald dX12_ask_56 shM_20 q7 rfl ?_
      refine B_mabs dX12_ask_57 mt_X12_308 (Nat.le_of_ble_eq_true rfl) (Nat.le_of_ble_eq_true rfl) ?_
      refine B_aload_n dX12_ask_60 rfl rfl ?_
      refine B_getR dX12_ask_61 fl_X12_90 shM_0 rfl (rfM_0_45 _) ?_
      refine B_iload_n dX12_ask_64 rfl rfl ?_
      refine C_chk (fun q8 => ?_)
      refine L_iald dX12_ask_65 shM_20 q8 rfl ?_
      refine B_mabs dX12_ask_66 mt_X12_308 (Nat.le_of_ble_eq_true rfl) (Nat.le_of_ble_eq_true rfl) ?_
      refine C_icmp_ge (tgt := 77) dX12_ask_69 (by decide) (fun q9 => ?_) (fun q9 => ?_)
      · refine B_iload_n dX12_ask_77 rfl rfl ?_
        refine B_drop 3 (ls' := [.ref 0, .null, .null, .null, .int y4]) rfl ?_
        exact b_X12_ask_J78 (fun qy3 qy4 qh => ih qy3 qy4 qh) y4 y3 h
      · refine B_iload dX12_ask_72 rfl ?_
        refine B_goto (tgt := 78) dX12_ask_74 (by decide) ?_
        refine B_drop 3 (ls' := [.ref 0, .null, .null, .null, .int y4]) rfl ?_
        exact b_X12_ask_J78 (fun qy3 qy4 qh => ih qy3 qy4 qh) y4 y4 h
def f_X12_ask (x1 : Int32) (x2 : Int32) (h : dH) : Option (Int32 × dH) :=
  (some (dPut h 0 0 0)).bind fun h1 =>
  if (f_X12_isIn ((x2 : Int32).toInt64) 0 60 h1) then
  (f_X12_laysWays x1 (-1) x2 h1).bind fun rv2 =>
  if rv2.1 then
  if (rv2.2.1 0 48) = 0 then
  some ((-1), rv2.2)
  else
  f_X12_ask_L41 dFu 0 1 rv2.2
  else
  some ((-1), rv2.2)
  else
  some ((-1), h1)
set_option maxRecDepth 20000 in
set_option maxHeartbeats 4000000 in
theorem t_X12_ask (x1 : Int32) (x2 : Int32) (h : dH) : T XM 10 yX12_ask cX12_ask 5 (some .int) fiI [.ref 0, .int x1, .int x2] h (f_X12_ask x1 x2 h) := by
  refine T_of [.ref 0, .int x1, .int x2, .null, .null] (by decide) (fun _ => rfl) (fun _ => Nat.le_of_ble_eq_true rfl) ?_
  show B XM 10 RX12 cX12_ask 5 (some .int) fiI 0 [.ref 0, .int x1, .int x2, .null, .null] [] h (f_X12_ask x1 x2 h)
  unfold f_X12_ask
  refine B_aload_n dX12_ask_0 rfl rfl ?_
  refine B_iconst dX12_ask_1 ic_0 ?_
  refine B_putI dX12_ask_2 fl_X12_103 fw_X12_0 shM_0 rfl ?_
  refine B_lh (fun h1 => ?_)
  refine B_iload_n dX12_ask_5 rfl rfl ?_
  refine B_i2l dX12_ask_6 ?_
  refine B_lconst (v := 0) dX12_ask_7 (by decide) ?_
  refine B_ldc2 dX12_ask_8 kc_X12_392 ?_
  refine B_STb (st := []) dX12_ask_11 cl_X12_224 (t_X12_isIn ((x2 : Int32).toInt64) 0 60 h1) (Nat.le_of_ble_eq_true rfl) rfl rfl (Nat.le_of_ble_eq_true rfl) ?_
  refine C_ifb_eq (tgt := 34) dX12_ask_14 (by decide) (fun q6 => ?_) (fun q6 => ?_)
  · refine B_iconst dX12_ask_34 ic_m1 ?_
    exact B_ireturn dX12_ask_35 rfl rfl
  · refine B_aload_n dX12_ask_17 rfl rfl ?_
    refine B_iload_n dX12_ask_18 rfl rfl ?_
    refine B_iconst dX12_ask_19 ic_m1 ?_
    refine B_iload_n dX12_ask_20 rfl rfl ?_
    refine B_VC (st := []) dX12_ask_21 cl_X12_459 (t_X12_laysWays x1 (-1) x2 h1) (Nat.le_of_ble_eq_true rfl) shM_0 rfl rfl (Nat.le_of_ble_eq_true rfl) (fun v2 h3 _ => ?_)
    refine C_ifb_eq (tgt := 34) dX12_ask_24 (by decide) (fun q5 => ?_) (fun q5 => ?_)
    · refine B_iconst dX12_ask_34 ic_m1 ?_
      exact B_ireturn dX12_ask_35 rfl rfl
    · refine B_aload_n dX12_ask_27 rfl rfl ?_
      refine B_getI dX12_ask_28 fl_X12_443 shM_0 rfl ?_
      refine C_if_ne (tgt := 36) dX12_ask_31 (by decide) (fun q4 => ?_) (fun q4 => ?_)
      · refine B_iconst dX12_ask_36 ic_0 ?_
        refine B_istore_n (ls' := [.ref 0, .int x1, .int x2, .int 0, .null]) dX12_ask_37 rfl (Nat.le_of_ble_eq_true rfl) rfl rfl ?_
        refine B_iconst dX12_ask_38 ic_1 ?_
        refine B_istore (ls' := [.ref 0, .int x1, .int x2, .int 0, .int 1]) dX12_ask_39 (Nat.le_of_ble_eq_true rfl) rfl rfl ?_
        refine B_drop 1 (ls' := [.ref 0, .null, .int x2, .int 0, .int 1]) rfl ?_
        refine B_drop 2 (ls' := [.ref 0, .null, .null, .int 0, .int 1]) rfl ?_
        exact b_X12_ask_L41 dFu 0 1 h3
      · refine B_iconst dX12_ask_34 ic_m1 ?_
        exact B_ireturn dX12_ask_35 rfl rfl
def f_X12_always (x1 : Int32) (h : dH) : Option (Int32 × dH) :=
  (some (dPut h 0 0 0)).bind fun h1 =>
  (f_X12_laysWays x1 (-1) 0 h1).bind fun rv2 =>
  if rv2.1 then
  if 0 < (rv2.2.1 0 48) then
  some ((rv2.2.1 0 51), rv2.2)
  else
  some ((-1), rv2.2)
  else
  some ((-1), rv2.2)
set_option maxRecDepth 20000 in
set_option maxHeartbeats 4000000 in
theorem t_X12_always (x1 : Int32) (h : dH) : T XM 10 yX12_always cX12_always 2 (some .int) fiI [.ref 0, .int x1] h (f_X12_always x1 h) := by
  refine T_of [.ref 0, .int x1] (by decide) (fun _ => rfl) (fun _ => Nat.le_of_ble_eq_true rfl) ?_
  show B XM 10 RX12 cX12_always 2 (some .int) fiI 0 [.ref 0, .int x1] [] h (f_X12_always x1 h)
  unfold f_X12_always
  refine B_aload_n dX12_always_0 rfl rfl ?_
  refine B_iconst dX12_always_1 ic_0 ?_
  refine B_putI dX12_always_2 fl_X12_103 fw_X12_0 shM_0 rfl ?_
  refine B_lh (fun h1 => ?_)
  refine B_aload_n dX12_always_5 rfl rfl ?_
  refine B_iload_n dX12_always_6 rfl rfl ?_
  refine B_iconst dX12_always_7 ic_m1 ?_
  refine B_iconst dX12_always_8 ic_0 ?_
  refine B_VC (st := []) dX12_always_9 cl_X12_459 (t_X12_laysWays x1 (-1) 0 h1) (Nat.le_of_ble_eq_true rfl) shM_0 rfl rfl (Nat.le_of_ble_eq_true rfl) (fun v2 h3 _ => ?_)
  refine C_ifb_eq (tgt := 29) dX12_always_12 (by decide) (fun q5 => ?_) (fun q5 => ?_)
  · refine B_iconst dX12_always_29 ic_m1 ?_
    exact B_ireturn dX12_always_30 rfl rfl
  · refine B_aload_n dX12_always_15 rfl rfl ?_
    refine B_getI dX12_always_16 fl_X12_443 shM_0 rfl ?_
    refine C_if_le (tgt := 29) dX12_always_19 (by decide) (fun q4 => ?_) (fun q4 => ?_)
    · refine B_iconst dX12_always_29 ic_m1 ?_
      exact B_ireturn dX12_always_30 rfl rfl
    · refine B_aload_n dX12_always_22 rfl rfl ?_
      refine B_getI dX12_always_23 fl_X12_449 shM_0 rfl ?_
      refine B_goto (tgt := 30) dX12_always_26 (by decide) ?_
      exact B_ireturn dX12_always_30 rfl rfl
def f_X12_roundAt_J64 (kL7 : Int32 → Int32 → Int32 → Int32 → Option (Int32)) (kL16 : Int32 → Int32 → Int32 → Int32 → Int32 → Option (Int32)) (y1 : Int32) (y2 : Int32) (y3 : Int32) (y4 : Int32) (y5 : Int32) (h : dH) : Option (Int32) :=
  kL16 y1 y2 y3 y4 (y5 + 1)
set_option maxRecDepth 20000 in
set_option maxHeartbeats 4000000 in
theorem b_X12_roundAt_J64 {kL7 : Int32 → Int32 → Int32 → Int32 → Option (Int32)} {kL16 : Int32 → Int32 → Int32 → Int32 → Int32 → Option (Int32)} (h : dH) (hkL7 : ∀ (y1 : Int32) (y2 : Int32) (y3 : Int32) (y4 : Int32), B XM 2 RX12 cX12_roundAt 6 (some .int) (fiP h) 7 [.ref 0, .int y1, .int y2, .int y3, .int y4, .null] [] h (kL7 y1 y2 y3 y4)) (hkL16 : ∀ (y1 : Int32) (y2 : Int32) (y3 : Int32) (y4 : Int32) (y5 : Int32), B XM 2 RX12 cX12_roundAt 6 (some .int) (fiP h) 16 [.ref 0, .int y1, .int y2, .int y3, .int y4, .int y5] [] h (kL16 y1 y2 y3 y4 y5)) (y1 : Int32) (y2 : Int32) (y3 : Int32) (y4 : Int32) (y5 : Int32) : B XM 2 RX12 cX12_roundAt 6 (some .int) (fiP h) 64 [.ref 0, .int y1, .int y2, .int y3, .int y4, .int y5] [] h (f_X12_roundAt_J64 kL7 kL16 y1 y2 y3 y4 y5 h) := by
  unfold f_X12_roundAt_J64
  refine B_iinc (w := (y5 + 1)) (ls' := [.ref 0, .int y1, .int y2, .int y3, .int y4, .int (y5 + 1)]) dX12_roundAt_64 rfl (congrArg (fun z => y5 + z) ic_1) (Nat.le_of_ble_eq_true rfl) rfl rfl ?_
  refine B_goto (tgt := 16) dX12_roundAt_67 (by decide) ?_
  exact hkL16 y1 y2 y3 y4 (y5 + 1)  
def f_X12_roundAt_L16 (kL7 : Int32 → Int32 → Int32 → Int32 → Option (Int32)) (h : dH) : Nat → Int32 → Int32 → Int32 → Int32 → Int32 → Option (Int32)
  | 0, _, _, _, _, _ => none
  | n + 1, y1, y2, y3, y4, y5 =>
    if y5 < (h.1 0 24) then
    (f_X12_of y5 2 h).bind fun v2 =>
    if v2 = y4 then
    (f_X12_between y3 y5 h).bind fun v3 =>
    if y5 = y1 then
    some (y2 + v3)
    else
    f_X12_roundAt_J64 kL7 (f_X12_roundAt_L16 kL7 h n) y1 ((y2 + v3) + 2) y5 y4 y5 h
    else
    f_X12_roundAt_J64 kL7 (f_X12_roundAt_L16 kL7 h n) y1 y2 y3 y4 y5 h
    else
    kL7 y1 y2 y3 (y4 + 1)
set_option maxRecDepth 20000 in
set_option maxHeartbeats 4000000 in
theorem b_X12_roundAt_L16 {kL7 : Int32 → Int32 → Int32 → Int32 → Option (Int32)} (h : dH) (hkL7 : ∀ (y1 : Int32) (y2 : Int32) (y3 : Int32) (y4 : Int32), B XM 2 RX12 cX12_roundAt 6 (some .int) (fiP h) 7 [.ref 0, .int y1, .int y2, .int y3, .int y4, .null] [] h (kL7 y1 y2 y3 y4)) : ∀ (n : Nat) (y1 : Int32) (y2 : Int32) (y3 : Int32) (y4 : Int32) (y5 : Int32), B XM 2 RX12 cX12_roundAt 6 (some .int) (fiP h) 16 [.ref 0, .int y1, .int y2, .int y3, .int y4, .int y5] [] h (f_X12_roundAt_L16 kL7 h n y1 y2 y3 y4 y5) := by
  intro n
  induction n with
  | zero =>
    intro y1 y2 y3 y4 y5
    exact B_none
  | succ n ih =>
    intro y1 y2 y3 y4 y5
    rw [f_X12_roundAt_L16]
    refine B_iload dX12_roundAt_16 rfl ?_
    refine B_aload_n dX12_roundAt_18 rfl rfl ?_
    refine B_getI dX12_roundAt_19 fl_X12_293 shM_0 rfl ?_
    refine C_icmp_ge (tgt := 70) dX12_roundAt_22 (by decide) (fun q6 => ?_) (fun q6 => ?_)
    · refine B_iinc (w := (y4 + 1)) (ls' := [.ref 0, .int y1, .int y2, .int y3, .int (y4 + 1), .int y5]) dX12_roundAt_70 rfl (congrArg (fun z => y4 + z) ic_1) (Nat.le_of_ble_eq_true rfl) rfl rfl ?_
      refine B_goto (tgt := 7) dX12_roundAt_73 (by decide) ?_
      refine B_drop 5 (ls' := [.ref 0, .int y1, .int y2, .int y3, .int (y4 + 1), .null]) rfl ?_
      exact hkL7 y1 y2 y3 (y4 + 1)  
    · refine B_aload_n dX12_roundAt_25 rfl rfl ?_
      refine B_iload dX12_roundAt_26 rfl ?_
      refine B_iconst dX12_roundAt_28 ic_2 ?_
      refine B_Vp (st := []) dX12_roundAt_29 cl_X12_305 (t_X12_of y5 2 h) (Nat.le_of_ble_eq_true rfl) shM_0 rfl rfl (Nat.le_of_ble_eq_true rfl) (fun v2 _ => ?_)
      refine B_iload dX12_roundAt_32 rfl ?_
      refine C_icmp_eq (tgt := 40) dX12_roundAt_34 (by decide) (fun q5 => ?_) (fun q5 => ?_)
      · refine B_iload_n dX12_roundAt_40 rfl rfl ?_
        refine B_aload_n dX12_roundAt_41 rfl rfl ?_
        refine B_iload_n dX12_roundAt_42 rfl rfl ?_
        refine B_iload dX12_roundAt_43 rfl ?_
        refine B_Vp (st := [.int y2]) dX12_roundAt_45 cl_X12_315 (t_X12_between y3 y5 h) (Nat.le_of_ble_eq_true rfl) shM_0 rfl rfl (Nat.le_of_ble_eq_true rfl) (fun v3 _ => ?_)
        refine B_iadd dX12_roundAt_48 ?_
        refine B_istore_n (ls' := [.ref 0, .int y1, .int (y2 + v3), .int y3, .int y4, .int y5]) dX12_roundAt_49 rfl (Nat.le_of_ble_eq_true rfl) rfl rfl ?_
        refine B_iload dX12_roundAt_50 rfl ?_
        refine B_iload_n dX12_roundAt_52 rfl rfl ?_
        refine C_icmp_ne (tgt := 58) dX12_roundAt_53 (by decide) (fun q4 => ?_) (fun q4 => ?_)
        · refine B_iinc (w := ((y2 + v3) + 2)) (ls' := [.ref 0, .int y1, .int ((y2 + v3) + 2), .int y3, .int y4, .int y5]) dX12_roundAt_58 rfl (congrArg (fun z => (y2 + v3) + z) ic_2) (Nat.le_of_ble_eq_true rfl) rfl rfl ?_
          refine B_iload dX12_roundAt_61 rfl ?_
          refine B_istore_n (ls' := [.ref 0, .int y1, .int ((y2 + v3) + 2), .int y5, .int y4, .int y5]) dX12_roundAt_63 rfl (Nat.le_of_ble_eq_true rfl) rfl rfl ?_
          exact b_X12_roundAt_J64 h hkL7 (fun qy1 qy2 qy3 qy4 qy5 => ih qy1 qy2 qy3 qy4 qy5) y1 ((y2 + v3) + 2) y5 y4 y5
        · refine B_iload_n dX12_roundAt_56 rfl rfl ?_
          exact B_ireturn dX12_roundAt_57 rfl rfl
      · refine B_goto (tgt := 64) dX12_roundAt_37 (by decide) ?_
        exact b_X12_roundAt_J64 h hkL7 (fun qy1 qy2 qy3 qy4 qy5 => ih qy1 qy2 qy3 qy4 qy5) y1 y2 y3 y4 y5
def f_X12_roundAt_L7 (h : dH) : Nat → Int32 → Int32 → Int32 → Int32 → Option (Int32)
  | 0, _, _, _, _ => none
  | n + 1, y1, y2, y3, y4 =>
    if y4 < 4 then
    f_X12_roundAt_L16 (f_X12_roundAt_L7 h n) h dFu y1 y2 y3 y4 0
    else
    some (-1)
set_option maxRecDepth 20000 in
set_option maxHeartbeats 4000000 in
theorem b_X12_roundAt_L7 (h : dH) : ∀ (n : Nat) (y1 : Int32) (y2 : Int32) (y3 : Int32) (y4 : Int32), B XM 2 RX12 cX12_roundAt 6 (some .int) (fiP h) 7 [.ref 0, .int y1, .int y2, .int y3, .int y4, .null] [] h (f_X12_roundAt_L7 h n y1 y2 y3 y4) := by
  intro n
  induction n with
  | zero =>
    intro y1 y2 y3 y4
    exact B_none
  | succ n ih =>
    intro y1 y2 y3 y4
    rw [f_X12_roundAt_L7]
    refine B_iload dX12_roundAt_7 rfl ?_
    refine B_iconst dX12_roundAt_9 ic_4 ?_
    refine C_icmp_ge (tgt := 76) dX12_roundAt_10 (by decide) (fun q1 => ?_) (fun q1 => ?_)
    · refine B_iconst dX12_roundAt_76 ic_m1 ?_
      exact B_ireturn dX12_roundAt_77 rfl rfl
    · refine B_iconst dX12_roundAt_13 ic_0 ?_
      refine B_istore (ls' := [.ref 0, .int y1, .int y2, .int y3, .int y4, .int 0]) dX12_roundAt_14 (Nat.le_of_ble_eq_true rfl) rfl rfl ?_
      exact b_X12_roundAt_L16 h (fun qy1 qy2 qy3 qy4 => ih qy1 qy2 qy3 qy4) dFu y1 y2 y3 y4 0
def f_X12_roundAt (x1 : Int32) (h : dH) : Option (Int32) :=
  f_X12_roundAt_L7 h dFu x1 0 (-1) 0
set_option maxRecDepth 20000 in
set_option maxHeartbeats 4000000 in
theorem t_X12_roundAt (x1 : Int32) (h : dH) : T XM 2 yX12_roundAt cX12_roundAt 6 (some .int) (fiP h) [.ref 0, .int x1] h (f_X12_roundAt x1 h) := by
  refine T_of [.ref 0, .int x1, .null, .null, .null, .null] (by decide) (fun _ => rfl) (fun _ => Nat.le_of_ble_eq_true rfl) ?_
  show B XM 2 RX12 cX12_roundAt 6 (some .int) (fiP h) 0 [.ref 0, .int x1, .null, .null, .null, .null] [] h (f_X12_roundAt x1 h)
  unfold f_X12_roundAt
  refine B_iconst dX12_roundAt_0 ic_0 ?_
  refine B_istore_n (ls' := [.ref 0, .int x1, .int 0, .null, .null, .null]) dX12_roundAt_1 rfl (Nat.le_of_ble_eq_true rfl) rfl rfl ?_
  refine B_iconst dX12_roundAt_2 ic_m1 ?_
  refine B_istore_n (ls' := [.ref 0, .int x1, .int 0, .int (-1), .null, .null]) dX12_roundAt_3 rfl (Nat.le_of_ble_eq_true rfl) rfl rfl ?_
  refine B_iconst dX12_roundAt_4 ic_0 ?_
  refine B_istore (ls' := [.ref 0, .int x1, .int 0, .int (-1), .int 0, .null]) dX12_roundAt_5 (Nat.le_of_ble_eq_true rfl) rfl rfl ?_
  exact b_X12_roundAt_L7 h dFu x1 0 (-1) 0
def f_X12_round (x1 : Int32) (h : dH) : Option (Int32 × dH) :=
  (some (dPut h 0 0 0)).bind fun h1 =>
  if (f_X12_isPlace x1 h1) then
  (f_X12_roundAt x1 h1).bind fun v2 =>
  some (v2, h1)
  else
  some ((-1), h1)
set_option maxRecDepth 20000 in
set_option maxHeartbeats 4000000 in
theorem t_X12_round (x1 : Int32) (h : dH) : T XM 3 yX12_round cX12_round 2 (some .int) fiI [.ref 0, .int x1] h (f_X12_round x1 h) := by
  refine T_of [.ref 0, .int x1] (by decide) (fun _ => rfl) (fun _ => Nat.le_of_ble_eq_true rfl) ?_
  show B XM 3 RX12 cX12_round 2 (some .int) fiI 0 [.ref 0, .int x1] [] h (f_X12_round x1 h)
  unfold f_X12_round
  refine B_aload_n dX12_round_0 rfl rfl ?_
  refine B_iconst dX12_round_1 ic_0 ?_
  refine B_putI dX12_round_2 fl_X12_103 fw_X12_0 shM_0 rfl ?_
  refine B_lh (fun h1 => ?_)
  refine B_aload_n dX12_round_5 rfl rfl ?_
  refine B_iload_n dX12_round_6 rfl rfl ?_
  refine B_VTb (st := []) dX12_round_7 cl_X12_339 (t_X12_isPlace x1 h1) (Nat.le_of_ble_eq_true rfl) shM_0 rfl rfl (Nat.le_of_ble_eq_true rfl) ?_
  refine C_ifb_eq (tgt := 21) dX12_round_10 (by decide) (fun q3 => ?_) (fun q3 => ?_)
  · refine B_iconst dX12_round_21 ic_m1 ?_
    exact B_ireturn dX12_round_22 rfl rfl
  · refine B_aload_n dX12_round_13 rfl rfl ?_
    refine B_iload_n dX12_round_14 rfl rfl ?_
    refine B_Vp (st := []) dX12_round_15 cl_X12_463 (t_X12_roundAt x1 h1) (Nat.le_of_ble_eq_true rfl) shM_0 rfl rfl (Nat.le_of_ble_eq_true rfl) (fun v2 _ => ?_)
    refine B_goto (tgt := 22) dX12_round_18 (by decide) ?_
    exact B_ireturn dX12_round_22 rfl rfl
def f_X12_laysRow_L35 : Nat → Int32 → Int32 → Int32 → dH → Option (Bool × dH)
  | 0, _, _, _, _ => none
  | n + 1, y3, y4, y5, h =>
    if y5 < 0 then
    if y3 = 0 then
    some (true, h)
    else
    some (false, h)
    else
    (some ((y3 - y3 / 10 * 10))).bind fun v5 =>
    if (f_X12_isPlace v5 h) then
    if (f_X12_has y4 v5 h) then
    some (false, h)
    else
    (some ((y4 ||| (1 <<< (v5 &&& 31))))).bind fun v6 =>
    if dIn y5 7 then
    (some (dPut h 22 (dI y5) v5)).bind fun h8 =>
    (f_X12_laysRow_L35 n) (y3 / 10) v6 (y5 + (-1)) h8
    else none
    else
    some (false, h)
set_option maxRecDepth 20000 in
set_option maxHeartbeats 4000000 in
theorem b_X12_laysRow_L35 : ∀ (n : Nat) (y3 : Int32) (y4 : Int32) (y5 : Int32) (h : dH), B XM 1 RX12 cX12_laysRow 7 (some .boolean) fiC 35 [.ref 0, .null, .null, .int y3, .int y4, .int y5, .null] [] h (f_X12_laysRow_L35 n y3 y4 y5 h) := by
  intro n
  induction n with
  | zero =>
    intro y3 y4 y5 h
    exact B_none
  | succ n ih =>
    intro y3 y4 y5 h
    rw [f_X12_laysRow_L35]
    refine B_iload dX12_laysRow_35 rfl ?_
    refine C_if_lt (tgt := 96) dX12_laysRow_37 (by decide) (fun q11 => ?_) (fun q11 => ?_)
    · refine B_iload_n dX12_laysRow_96 rfl rfl ?_
      refine C_if_ne (tgt := 104) dX12_laysRow_97 (by decide) (fun q4 => ?_) (fun q4 => ?_)
      · refine B_iconst dX12_laysRow_104 ic_0 ?_
        exact B_zreturn dX12_laysRow_105 rfl rfl rfl
      · refine B_iconst dX12_laysRow_100 ic_1 ?_
        refine B_goto (tgt := 105) dX12_laysRow_101 (by decide) ?_
        exact B_zreturn dX12_laysRow_105 rfl rfl rfl
    · refine B_iload_n dX12_laysRow_40 rfl rfl ?_
      refine B_bipush dX12_laysRow_41 bp_10 ?_
      refine B_irem dX12_laysRow_43 (by decide) ?_
      refine B_lv (fun v5 => ?_)
      refine B_istore (ls' := [.ref 0, .null, .null, .int y3, .int y4, .int y5, .int v5]) dX12_laysRow_44 (Nat.le_of_ble_eq_true rfl) rfl rfl ?_
      refine B_iload_n dX12_laysRow_46 rfl rfl ?_
      refine B_bipush dX12_laysRow_47 bp_10 ?_
      refine B_idiv dX12_laysRow_49 (by decide) ?_
      refine B_istore_n (ls' := [.ref 0, .null, .null, .int (y3 / 10), .int y4, .int y5, .int v5]) dX12_laysRow_50 rfl (Nat.le_of_ble_eq_true rfl) rfl rfl ?_
      refine B_aload_n dX12_laysRow_51 rfl rfl ?_
      refine B_iload dX12_laysRow_52 rfl ?_
      refine B_VTb (st := []) dX12_laysRow_54 cl_X12_339 (t_X12_isPlace v5 h) (Nat.le_of_ble_eq_true rfl) shM_0 rfl rfl (Nat.le_of_ble_eq_true rfl) ?_
      refine C_ifb_eq (tgt := 70) dX12_laysRow_57 (by decide) (fun q10 => ?_) (fun q10 => ?_)
      · refine B_iconst dX12_laysRow_70 ic_0 ?_
        exact B_zreturn dX12_laysRow_71 rfl rfl rfl
      · refine B_iload dX12_laysRow_60 rfl ?_
        refine B_iload dX12_laysRow_62 rfl ?_
        refine B_STb (st := []) dX12_laysRow_64 cl_X12_236 (t_X12_has y4 v5 h) (Nat.le_of_ble_eq_true rfl) rfl rfl (Nat.le_of_ble_eq_true rfl) ?_
        refine C_ifb_eq (tgt := 72) dX12_laysRow_67 (by decide) (fun q9 => ?_) (fun q9 => ?_)
        · refine B_iload dX12_laysRow_72 rfl ?_
          refine B_iconst dX12_laysRow_74 ic_1 ?_
          refine B_iload dX12_laysRow_75 rfl ?_
          refine B_ishl dX12_laysRow_77 ?_
          refine B_ior dX12_laysRow_78 ?_
          refine B_lv (fun v6 => ?_)
          refine B_istore (ls' := [.ref 0, .null, .null, .int (y3 / 10), .int v6, .int y5, .int v5]) dX12_laysRow_79 (Nat.le_of_ble_eq_true rfl) rfl rfl ?_
          refine B_aload_n dX12_laysRow_81 rfl rfl ?_
          refine B_getR dX12_laysRow_82 fl_X12_97 shM_0 rfl (rfM_0_52 _) ?_
          refine B_iload dX12_laysRow_85 rfl ?_
          refine B_iload dX12_laysRow_87 rfl ?_
          refine C_chk (fun q7 => ?_)
          refine L_iast dX12_laysRow_89 shM_22 q7 rfl ?_
          refine B_lh (fun h8 => ?_)
          refine B_iinc (w := (y5 + (-1))) (ls' := [.ref 0, .null, .null, .int (y3 / 10), .int v6, .int (y5 + (-1)), .int v5]) dX12_laysRow_90 rfl (congrArg (fun z => y5 + z) ic_m1) (Nat.le_of_ble_eq_true rfl) rfl rfl ?_
          refine B_goto (tgt := 35) dX12_laysRow_93 (by decide) ?_
          refine B_drop 6 (ls' := [.ref 0, .null, .null, .int (y3 / 10), .int v6, .int (y5 + (-1)), .null]) rfl ?_
          exact ih (y3 / 10) v6 (y5 + (-1))  h8
        · refine B_iconst dX12_laysRow_70 ic_0 ?_
          exact B_zreturn dX12_laysRow_71 rfl rfl rfl
def f_X12_laysRow (x1 : Int32) (x2 : Int32) (h : dH) : Option (Bool × dH) :=
  if (h.1 0 24) = 0 then
  some (false, h)
  else
  if (f_X12_isIn ((x2 : Int32).toInt64) 1 7 h) then
  if x1 < 0 then
  some (false, h)
  else
  f_X12_laysRow_L35 dFu x1 0 (x2 - 1) h
  else
  some (false, h)
set_option maxRecDepth 20000 in
set_option maxHeartbeats 4000000 in
theorem t_X12_laysRow (x1 : Int32) (x2 : Int32) (h : dH) : T XM 1 yX12_laysRow cX12_laysRow 7 (some .boolean) fiC [.ref 0, .int x1, .int x2] h (f_X12_laysRow x1 x2 h) := by
  refine T_of [.ref 0, .int x1, .int x2, .null, .null, .null, .null] (by decide) (fun _ => rfl) (fun _ => Nat.le_of_ble_eq_true rfl) ?_
  show B XM 1 RX12 cX12_laysRow 7 (some .boolean) fiC 0 [.ref 0, .int x1, .int x2, .null, .null, .null, .null] [] h (f_X12_laysRow x1 x2 h)
  unfold f_X12_laysRow
  refine B_aload_n dX12_laysRow_0 rfl rfl ?_
  refine B_getI dX12_laysRow_1 fl_X12_293 shM_0 rfl ?_
  refine C_if_eq (tgt := 23) dX12_laysRow_4 (by decide) (fun q3 => ?_) (fun q3 => ?_)
  · refine B_iconst dX12_laysRow_23 ic_0 ?_
    exact B_zreturn dX12_laysRow_24 rfl rfl rfl
  · refine B_iload_n dX12_laysRow_7 rfl rfl ?_
    refine B_i2l dX12_laysRow_8 ?_
    refine B_lconst (v := 1) dX12_laysRow_9 (by decide) ?_
    refine B_ldc2 dX12_laysRow_10 kc_X12_466 ?_
    refine B_STb (st := []) dX12_laysRow_13 cl_X12_224 (t_X12_isIn ((x2 : Int32).toInt64) 1 7 h) (Nat.le_of_ble_eq_true rfl) rfl rfl (Nat.le_of_ble_eq_true rfl) ?_
    refine C_ifb_eq (tgt := 23) dX12_laysRow_16 (by decide) (fun q2 => ?_) (fun q2 => ?_)
    · refine B_iconst dX12_laysRow_23 ic_0 ?_
      exact B_zreturn dX12_laysRow_24 rfl rfl rfl
    · refine B_iload_n dX12_laysRow_19 rfl rfl ?_
      refine C_if_ge (tgt := 25) dX12_laysRow_20 (by decide) (fun q1 => ?_) (fun q1 => ?_)
      · refine B_iload_n dX12_laysRow_25 rfl rfl ?_
        refine B_istore_n (ls' := [.ref 0, .int x1, .int x2, .int x1, .null, .null, .null]) dX12_laysRow_26 rfl (Nat.le_of_ble_eq_true rfl) rfl rfl ?_
        refine B_iconst dX12_laysRow_27 ic_0 ?_
        refine B_istore (ls' := [.ref 0, .int x1, .int x2, .int x1, .int 0, .null, .null]) dX12_laysRow_28 (Nat.le_of_ble_eq_true rfl) rfl rfl ?_
        refine B_iload_n dX12_laysRow_30 rfl rfl ?_
        refine B_iconst dX12_laysRow_31 ic_1 ?_
        refine B_isub dX12_laysRow_32 ?_
        refine B_istore (ls' := [.ref 0, .int x1, .int x2, .int x1, .int 0, .int (x2 - 1), .null]) dX12_laysRow_33 (Nat.le_of_ble_eq_true rfl) rfl rfl ?_
        refine B_drop 1 (ls' := [.ref 0, .null, .int x2, .int x1, .int 0, .int (x2 - 1), .null]) rfl ?_
        refine B_drop 2 (ls' := [.ref 0, .null, .null, .int x1, .int 0, .int (x2 - 1), .null]) rfl ?_
        exact b_X12_laysRow_L35 dFu x1 0 (x2 - 1) h
      · refine B_iconst dX12_laysRow_23 ic_0 ?_
        exact B_zreturn dX12_laysRow_24 rfl rfl rfl
def f_X12_meets_J112 (kL29 : Int32 → Int32 → dH → Option (Int32 × dH)) (y2 : Int32) (y3 : Int32) (h : dH) : Option (Int32 × dH) :=
  if dIn y3 7 then
  (f_X12_walks 12 (h.1 22 (dI y3)) (h.1 5 2) h).bind fun rv20 =>
  kL29 y2 (y3 + 1) rv20.2
  else none
set_option maxRecDepth 20000 in
set_option maxHeartbeats 4000000 in
theorem b_X12_meets_J112 {kL29 : Int32 → Int32 → dH → Option (Int32 × dH)} (hkL29 : ∀ (y2 : Int32) (y3 : Int32) (h : dH), B XM 86 RX12 cX12_meets 7 (some .int) fiI 29 [.ref 0, .null, .int y2, .int y3, .null, .null, .null] [] h (kL29 y2 y3 h)) (y2 : Int32) (y3 : Int32) (h : dH) : B XM 86 RX12 cX12_meets 7 (some .int) fiI 112 [.ref 0, .null, .int y2, .int y3, .null, .null, .null] [] h (f_X12_meets_J112 kL29 y2 y3 h) := by
  unfold f_X12_meets_J112
  refine B_aload_n dX12_meets_112 rfl rfl ?_
  refine B_aload_n dX12_meets_113 rfl rfl ?_
  refine B_getR dX12_meets_114 fl_X12_58 shM_0 rfl (rfM_0_29 _) ?_
  refine B_aload_n dX12_meets_117 rfl rfl ?_
  refine B_getR dX12_meets_118 fl_X12_97 shM_0 rfl (rfM_0_52 _) ?_
  refine B_iload_n dX12_meets_121 rfl rfl ?_
  refine C_chk (fun q19 => ?_)
  refine L_iald dX12_meets_122 shM_22 q19 rfl ?_
  refine B_aload_n dX12_meets_123 rfl rfl ?_
  refine B_getR dX12_meets_124 fl_X12_37 shM_0 rfl (rfM_0_18 _) ?_
  refine B_iconst dX12_meets_127 ic_2 ?_
  refine L_iald dX12_meets_128 shM_5 (by decide) di_2 ?_
  refine B_VI (st := []) dX12_meets_129 cl_X12_360 (t_X12_walks 12 shM_12 (h.1 22 (dI y3)) (h.1 5 2) h) (Nat.le_of_ble_eq_true rfl) shM_0 rfl rfl (Nat.le_of_ble_eq_true rfl) (fun v20 h21 _ => ?_)
  refine B_istore (ls' := [.ref 0, .null, .int y2, .int y3, .null, .null, .int v20]) dX12_meets_132 (Nat.le_of_ble_eq_true rfl) rfl rfl ?_
  refine B_iinc (w := (y3 + 1)) (ls' := [.ref 0, .null, .int y2, .int (y3 + 1), .null, .null, .int v20]) dX12_meets_134 rfl (congrArg (fun z => y3 + z) ic_1) (Nat.le_of_ble_eq_true rfl) rfl rfl ?_
  refine B_goto (tgt := 29) dX12_meets_137 (by decide) ?_
  refine B_drop 6 (ls' := [.ref 0, .null, .int y2, .int (y3 + 1), .null, .null, .null]) rfl ?_
  exact hkL29 y2 (y3 + 1)  h21
def f_X12_meets_L29 : Nat → Int32 → Int32 → dH → Option (Int32 × dH)
  | 0, _, _, _ => none
  | n + 1, y2, y3, h =>
    if y3 < y2 then
    if dIn y3 7 then
    (f_X12_canWalk 12 (h.1 22 (dI y3)) h).bind fun v8 =>
    if v8 then
    if dIn y3 7 then
    (f_X12_far 12 (h.1 22 (dI y3)) h).bind fun v10 =>
    (some (((h.1 12 21) + v10))).bind fun v11 =>
    if dIn y3 7 then
    (f_X12_roundAt (h.1 22 (dI y3)) h).bind fun v13 =>
    if v11 < (v13 + 2) then
    if v13 < (v11 + 1) then
    if dIn y3 7 then
    some ((h.1 22 (dI y3)), h)
    else none
    else
    f_X12_meets_J112 (f_X12_meets_L29 n) y2 y3 h
    else
    f_X12_meets_J112 (f_X12_meets_L29 n) y2 y3 h
    else none
    else none
    else
    some ((-1), h)
    else none
    else
    some ((-1), h)
set_option maxRecDepth 20000 in
set_option maxHeartbeats 4000000 in
theorem b_X12_meets_L29 : ∀ (n : Nat) (y2 : Int32) (y3 : Int32) (h : dH), B XM 86 RX12 cX12_meets 7 (some .int) fiI 29 [.ref 0, .null, .int y2, .int y3, .null, .null, .null] [] h (f_X12_meets_L29 n y2 y3 h) := by
  intro n
  induction n with
  | zero =>
    intro y2 y3 h
    exact B_none
  | succ n ih =>
    intro y2 y3 h
    rw [f_X12_meets_L29]
    refine B_iload_n dX12_meets_29 rfl rfl ?_
    refine B_iload_n dX12_meets_30 rfl rfl ?_
    refine C_icmp_ge (tgt := 140) dX12_meets_31 (by decide) (fun q18 => ?_) (fun q18 => ?_)
    · refine B_iconst dX12_meets_140 ic_m1 ?_
      exact B_ireturn dX12_meets_141 rfl rfl
    · refine B_aload_n dX12_meets_34 rfl rfl ?_
      refine B_aload_n dX12_meets_35 rfl rfl ?_
      refine B_getR dX12_meets_36 fl_X12_58 shM_0 rfl (rfM_0_29 _) ?_
      refine B_aload_n dX12_meets_39 rfl rfl ?_
      refine B_getR dX12_meets_40 fl_X12_97 shM_0 rfl (rfM_0_52 _) ?_
      refine B_iload_n dX12_meets_43 rfl rfl ?_
      refine C_chk (fun q7 => ?_)
      refine L_iald dX12_meets_44 shM_22 q7 rfl ?_
      refine B_Vpb (st := []) dX12_meets_45 cl_X12_353 (t_X12_canWalk 12 shM_12 (h.1 22 (dI y3)) h) (Nat.le_of_ble_eq_true rfl) shM_0 rfl rfl (Nat.le_of_ble_eq_true rfl) (fun v8 _ => ?_)
      refine C_ifb_eq (tgt := 140) dX12_meets_48 (by decide) (fun q17 => ?_) (fun q17 => ?_)
      · refine B_iconst dX12_meets_140 ic_m1 ?_
        exact B_ireturn dX12_meets_141 rfl rfl
      · refine B_aload_n dX12_meets_51 rfl rfl ?_
        refine B_getR dX12_meets_52 fl_X12_58 shM_0 rfl (rfM_0_29 _) ?_
        refine B_bipush dX12_meets_55 bp_21 ?_
        refine L_iald dX12_meets_57 shM_12 (by decide) di_21 ?_
        refine B_aload_n dX12_meets_58 rfl rfl ?_
        refine B_aload_n dX12_meets_59 rfl rfl ?_
        refine B_getR dX12_meets_60 fl_X12_58 shM_0 rfl (rfM_0_29 _) ?_
        refine B_aload_n dX12_meets_63 rfl rfl ?_
        refine B_getR dX12_meets_64 fl_X12_97 shM_0 rfl (rfM_0_52 _) ?_
        refine B_iload_n dX12_meets_67 rfl rfl ?_
        refine C_chk (fun q9 => ?_)
        refine L_iald dX12_meets_68 shM_22 q9 rfl ?_
        refine B_Vp (st := [.int (h.1 12 21)]) dX12_meets_69 cl_X12_328 (t_X12_far 12 shM_12 (h.1 22 (dI y3)) h) (Nat.le_of_ble_eq_true rfl) shM_0 rfl rfl (Nat.le_of_ble_eq_true rfl) (fun v10 _ => ?_)
        refine B_iadd dX12_meets_72 ?_
        refine B_lv (fun v11 => ?_)
        refine B_istore (ls' := [.ref 0, .null, .int y2, .int y3, .int v11, .null, .null]) dX12_meets_73 (Nat.le_of_ble_eq_true rfl) rfl rfl ?_
        refine B_aload_n dX12_meets_75 rfl rfl ?_
        refine B_aload_n dX12_meets_76 rfl rfl ?_
        refine B_getR dX12_meets_77 fl_X12_97 shM_0 rfl (rfM_0_52 _) ?_
        refine B_iload_n dX12_meets_80 rfl rfl ?_
        refine C_chk (fun q12 => ?_)
        refine L_iald dX12_meets_81 shM_22 q12 rfl ?_
        refine B_Vp (st := []) dX12_meets_82 cl_X12_463 (t_X12_roundAt (h.1 22 (dI y3)) h) (Nat.le_of_ble_eq_true rfl) shM_0 rfl rfl (Nat.le_of_ble_eq_true rfl) (fun v13 _ => ?_)
        refine B_istore (ls' := [.ref 0, .null, .int y2, .int y3, .int v11, .int v13, .null]) dX12_meets_85 (Nat.le_of_ble_eq_true rfl) rfl rfl ?_
        refine B_iload dX12_meets_87 rfl ?_
        refine B_iload dX12_meets_89 rfl ?_
        refine B_iconst dX12_meets_91 ic_2 ?_
        refine B_iadd dX12_meets_92 ?_
        refine C_icmp_ge (tgt := 112) dX12_meets_93 (by decide) (fun q16 => ?_) (fun q16 => ?_)
        · refine B_drop 4 (ls' := [.ref 0, .null, .int y2, .int y3, .null, .int v13, .null]) rfl ?_
          refine B_drop 5 (ls' := [.ref 0, .null, .int y2, .int y3, .null, .null, .null]) rfl ?_
          exact b_X12_meets_J112 (fun qy2 qy3 qh => ih qy2 qy3 qh) y2 y3 h
        · refine B_iload dX12_meets_96 rfl ?_
          refine B_iload dX12_meets_98 rfl ?_
          refine B_iconst dX12_meets_100 ic_1 ?_
          refine B_iadd dX12_meets_101 ?_
          refine C_icmp_ge (tgt := 112) dX12_meets_102 (by decide) (fun q15 => ?_) (fun q15 => ?_)
          · refine B_drop 4 (ls' := [.ref 0, .null, .int y2, .int y3, .null, .int v13, .null]) rfl ?_
            refine B_drop 5 (ls' := [.ref 0, .null, .int y2, .int y3, .null, .null, .null]) rfl ?_
            exact b_X12_meets_J112 (fun qy2 qy3 qh => ih qy2 qy3 qh) y2 y3 h
          · refine B_aload_n dX12_meets_105 rfl rfl ?_
            refine B_getR dX12_meets_106 fl_X12_97 shM_0 rfl (rfM_0_52 _) ?_
            refine B_iload_n dX12_meets_109 rfl rfl ?_
            refine C_chk (fun q14 => ?_)
            refine L_iald dX12_meets_110 shM_22 q14 rfl ?_
            exact B_ireturn dX12_meets_111 rfl rfl
def f_X12_meets (x1 : Int32) (x2 : Int32) (h : dH) : Option (Int32 × dH) :=
  (some (dPut h 0 0 0)).bind fun h1 =>
  (f_X12_laysRow x1 x2 h1).bind fun rv2 =>
  if rv2.1 then
  (f_X12_copy rv2.2).bind fun h5 =>
  f_X12_meets_L29 dFu x2 0 h5
  else
  some ((-1), rv2.2)
set_option maxRecDepth 20000 in
set_option maxHeartbeats 4000000 in
theorem t_X12_meets (x1 : Int32) (x2 : Int32) (h : dH) : T XM 86 yX12_meets cX12_meets 7 (some .int) fiI [.ref 0, .int x1, .int x2] h (f_X12_meets x1 x2 h) := by
  refine T_of [.ref 0, .int x1, .int x2, .null, .null, .null, .null] (by decide) (fun _ => rfl) (fun _ => Nat.le_of_ble_eq_true rfl) ?_
  show B XM 86 RX12 cX12_meets 7 (some .int) fiI 0 [.ref 0, .int x1, .int x2, .null, .null, .null, .null] [] h (f_X12_meets x1 x2 h)
  unfold f_X12_meets
  refine B_aload_n dX12_meets_0 rfl rfl ?_
  refine B_iconst dX12_meets_1 ic_0 ?_
  refine B_putI dX12_meets_2 fl_X12_103 fw_X12_0 shM_0 rfl ?_
  refine B_lh (fun h1 => ?_)
  refine B_aload_n dX12_meets_5 rfl rfl ?_
  refine B_iload_n dX12_meets_6 rfl rfl ?_
  refine B_iload_n dX12_meets_7 rfl rfl ?_
  refine B_VC (st := []) dX12_meets_8 cl_X12_468 (t_X12_laysRow x1 x2 h1) (Nat.le_of_ble_eq_true rfl) shM_0 rfl rfl (Nat.le_of_ble_eq_true rfl) (fun v2 h3 _ => ?_)
  refine C_ifb_ne (tgt := 16) dX12_meets_11 (by decide) (fun q6 => ?_) (fun q6 => ?_)
  · refine B_aload_n dX12_meets_16 rfl rfl ?_
    refine B_getR dX12_meets_17 fl_X12_55 shM_0 rfl (rfM_0_28 _) ?_
    refine B_aload_n dX12_meets_20 rfl rfl ?_
    refine B_getR dX12_meets_21 fl_X12_58 shM_0 rfl (rfM_0_29 _) ?_
    refine B_SV (st := []) dX12_meets_24 cl_X12_401 (t_X12_copy h3) (Nat.le_of_ble_eq_true rfl) rfl rfl (Nat.le_of_ble_eq_true rfl) (fun h5 _ => ?_)
    refine B_iconst dX12_meets_27 ic_0 ?_
    refine B_istore_n (ls' := [.ref 0, .int x1, .int x2, .int 0, .null, .null, .null]) dX12_meets_28 rfl (Nat.le_of_ble_eq_true rfl) rfl rfl ?_
    refine B_drop 1 (ls' := [.ref 0, .null, .int x2, .int 0, .null, .null, .null]) rfl ?_
    exact b_X12_meets_L29 dFu x2 0 h5
  · refine B_iconst dX12_meets_14 ic_m1 ?_
    exact B_ireturn dX12_meets_15 rfl rfl
