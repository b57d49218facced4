def f_X12_thrown (h : dH) : Int32 :=
  (h.1 0 0)
set_option maxRecDepth 20000 in
set_option maxHeartbeats 4000000 in
theorem t_X12_thrown (h : dH) : T XM 0 yX12_thrown cX12_thrown 1 (some .int) (fiP h) [.ref 0] h (some (f_X12_thrown h)) := by
  refine T_of [.ref 0] (by decide) (fun _ => rfl) (fun _ => Nat.le_of_ble_eq_true rfl) ?_
  show B XM 0 RX12 cX12_thrown 1 (some .int) (fiP h) 0 [.ref 0] [] h (some (f_X12_thrown h))
  unfold f_X12_thrown
  refine B_aload_n dX12_thrown_0 rfl rfl ?_
  refine B_getI dX12_thrown_1 fl_X12_103 shM_0 rfl ?_
  exact B_ireturn dX12_thrown_4 rfl rfl
def f_X12_isIn (x0 : Int64) (x2 : Int64) (x4 : Int64) (h : dH) : Bool :=
  if (lg_cmp x0 x2) < 0 then
  false
  else
  if 0 < (lg_cmp x0 x4) then
  false
  else
  true
set_option maxRecDepth 20000 in
set_option maxHeartbeats 4000000 in
theorem t_X12_isIn (x0 : Int64) (x2 : Int64) (x4 : Int64) (h : dH) : T XM 0 yX12_isIn cX12_isIn 6 (some .boolean) (fiB h) [.long x0, .long x2, .long x4] h (some (f_X12_isIn x0 x2 x4 h)) := by
  refine T_of [.long x0, .null, .long x2, .null, .long x4, .null] (by decide) (fun _ => rfl) (fun _ => Nat.le_of_ble_eq_true rfl) ?_
  show B XM 0 RX12 cX12_isIn 6 (some .boolean) (fiB h) 0 [.long x0, .null, .long x2, .null, .long x4, .null] [] h (some (f_X12_isIn x0 x2 x4 h))
  unfold f_X12_isIn
  refine B_lload_n dX12_isIn_0 rfl rfl ?_
  refine B_lload_n dX12_isIn_1 rfl rfl ?_
  refine B_lcmp dX12_isIn_2 ?_
  refine C_some ?_
  refine C_if_lt (tgt := 17) dX12_isIn_3 (by decide) (fun q2 => ?_) (fun q2 => ?_)
  · refine B_iconst dX12_isIn_17 ic_0 ?_
    exact B_zreturn dX12_isIn_18 rfl rfl rfl
  · refine B_lload_n dX12_isIn_6 rfl rfl ?_
    refine B_lload dX12_isIn_7 rfl ?_
    refine B_lcmp dX12_isIn_9 ?_
    refine C_some ?_
    refine C_if_gt (tgt := 17) dX12_isIn_10 (by decide) (fun q1 => ?_) (fun q1 => ?_)
    · refine B_iconst dX12_isIn_17 ic_0 ?_
      exact B_zreturn dX12_isIn_18 rfl rfl rfl
    · refine B_iconst dX12_isIn_13 ic_1 ?_
      refine B_goto (tgt := 18) dX12_isIn_14 (by decide) ?_
      exact B_zreturn dX12_isIn_18 rfl rfl rfl
def f_X12_has (x0 : Int32) (x1 : Int32) (h : dH) : Bool :=
  if ((x0 >>> (x1 &&& 31)) &&& 1) = 1 then
  true
  else
  false
set_option maxRecDepth 20000 in
set_option maxHeartbeats 4000000 in
theorem t_X12_has (x0 : Int32) (x1 : Int32) (h : dH) : T XM 0 yX12_has cX12_has 2 (some .boolean) (fiB h) [.int x0, .int x1] h (some (f_X12_has x0 x1 h)) := by
  refine T_of [.int x0, .int x1] (by decide) (fun _ => rfl) (fun _ => Nat.le_of_ble_eq_true rfl) ?_
  show B XM 0 RX12 cX12_has 2 (some .boolean) (fiB h) 0 [.int x0, .int x1] [] h (some (f_X12_has x0 x1 h))
  unfold f_X12_has
  refine B_iload_n dX12_has_0 rfl rfl ?_
  refine B_iload_n dX12_has_1 rfl rfl ?_
  refine B_ishr dX12_has_2 ?_
  refine B_iconst dX12_has_3 ic_1 ?_
  refine B_iand dX12_has_4 ?_
  refine B_iconst dX12_has_5 ic_1 ?_
  refine C_some ?_
  refine C_icmp_ne (tgt := 13) dX12_has_6 (by decide) (fun q1 => ?_) (fun q1 => ?_)
  · refine B_iconst dX12_has_13 ic_0 ?_
    exact B_zreturn dX12_has_14 rfl rfl rfl
  · refine B_iconst dX12_has_9 ic_1 ?_
    refine B_goto (tgt := 14) dX12_has_10 (by decide) ?_
    exact B_zreturn dX12_has_14 rfl rfl rfl
def f_X12_bytesIn_J25 (kL5 : Int32 → Int32 → Int32 → Option (Int32)) (y0 : Int32) (y2 : Int32) (z0 : Int32) (z1 : Bool) (h : dH) : Option (Int32) :=
  (some ((z0 + (bi z1)))).bind fun v3 =>
  kL5 y0 v3 (y2 + (-8))
set_option maxRecDepth 20000 in
set_option maxHeartbeats 4000000 in
theorem b_X12_bytesIn_J25 {kL5 : Int32 → Int32 → Int32 → Option (Int32)} (h : dH) (hkL5 : ∀ (y0 : Int32) (y1 : Int32) (y2 : Int32), B XM 0 RX12 cX12_bytesIn 3 (some .int) (fiP h) 5 [.int y0, .int y1, .int y2] [] h (kL5 y0 y1 y2)) (y0 : Int32) (y2 : Int32) (z0 : Int32) (z1 : Bool) : B XM 0 RX12 cX12_bytesIn 3 (some .int) (fiP h) 25 [.int y0, .null, .int y2] [.int (bi z1), .int z0] h (f_X12_bytesIn_J25 kL5 y0 y2 z0 z1 h) := by
  unfold f_X12_bytesIn_J25
  refine B_iadd dX12_bytesIn_25 ?_
  refine B_lv (fun v3 => ?_)
  refine B_istore_n (ls' := [.int y0, .int v3, .int y2]) dX12_bytesIn_26 rfl (Nat.le_of_ble_eq_true rfl) rfl rfl ?_
  refine B_iinc (w := (y2 + (-8))) (ls' := [.int y0, .int v3, .int (y2 + (-8))]) dX12_bytesIn_27 rfl (congrArg (fun z => y2 + z) ic_m8) (Nat.le_of_ble_eq_true rfl) rfl rfl ?_
  refine B_goto (tgt := 5) dX12_bytesIn_30 (by decide) ?_
  exact hkL5 y0 v3 (y2 + (-8))  
def f_X12_bytesIn_L5 (h : dH) : Nat → Int32 → Int32 → Int32 → Option (Int32)
  | 0, _, _, _ => none
  | n + 1, y0, y1, y2 =>
    if y2 < 0 then
    some y1
    else
    if ((y0 >>> (y2 &&& 31)) &&& 255) = 0 then
    f_X12_bytesIn_J25 (f_X12_bytesIn_L5 h n) y0 y2 y1 false h
    else
    f_X12_bytesIn_J25 (f_X12_bytesIn_L5 h n) y0 y2 y1 true h
set_option maxRecDepth 20000 in
set_option maxHeartbeats 4000000 in
theorem b_X12_bytesIn_L5 (h : dH) : ∀ (n : Nat) (y0 : Int32) (y1 : Int32) (y2 : Int32), B XM 0 RX12 cX12_bytesIn 3 (some .int) (fiP h) 5 [.int y0, .int y1, .int y2] [] h (f_X12_bytesIn_L5 h n y0 y1 y2) := by
  intro n
  induction n with
  | zero =>
    intro y0 y1 y2
    exact B_none
  | succ n ih =>
    intro y0 y1 y2
    rw [f_X12_bytesIn_L5]
    refine B_iload_n dX12_bytesIn_5 rfl rfl ?_
    refine C_if_lt (tgt := 33) dX12_bytesIn_6 (by decide) (fun q2 => ?_) (fun q2 => ?_)
    · refine B_iload_n dX12_bytesIn_33 rfl rfl ?_
      exact B_ireturn dX12_bytesIn_34 rfl rfl
    · refine B_iload_n dX12_bytesIn_9 rfl rfl ?_
      refine B_iload_n dX12_bytesIn_10 rfl rfl ?_
      refine B_iload_n dX12_bytesIn_11 rfl rfl ?_
      refine B_ishr dX12_bytesIn_12 ?_
      refine B_sipush dX12_bytesIn_13 sp_255 ?_
      refine B_iand dX12_bytesIn_16 ?_
      refine C_if_eq (tgt := 24) dX12_bytesIn_17 (by decide) (fun q1 => ?_) (fun q1 => ?_)
      · refine B_iconst dX12_bytesIn_24 ic_0 ?_
        refine B_drop 1 (ls' := [.int y0, .null, .int y2]) rfl ?_
        exact b_X12_bytesIn_J25 h (fun qy0 qy1 qy2 => ih qy0 qy1 qy2) y0 y2 y1 false
      · refine B_iconst dX12_bytesIn_20 ic_1 ?_
        refine B_goto (tgt := 25) dX12_bytesIn_21 (by decide) ?_
        refine B_drop 1 (ls' := [.int y0, .null, .int y2]) rfl ?_
        exact b_X12_bytesIn_J25 h (fun qy0 qy1 qy2 => ih qy0 qy1 qy2) y0 y2 y1 true
def f_X12_bytesIn (x0 : Int32) (h : dH) : Option (Int32) :=
  f_X12_bytesIn_L5 h dFu x0 0 24
set_option maxRecDepth 20000 in
set_option maxHeartbeats 4000000 in
theorem t_X12_bytesIn (x0 : Int32) (h : dH) : T XM 0 yX12_bytesIn cX12_bytesIn 3 (some .int) (fiP h) [.int x0] h (f_X12_bytesIn x0 h) := by
  refine T_of [.int x0, .null, .null] (by decide) (fun _ => rfl) (fun _ => Nat.le_of_ble_eq_true rfl) ?_
  show B XM 0 RX12 cX12_bytesIn 3 (some .int) (fiP h) 0 [.int x0, .null, .null] [] h (f_X12_bytesIn x0 h)
  unfold f_X12_bytesIn
  refine B_iconst dX12_bytesIn_0 ic_0 ?_
  refine B_istore_n (ls' := [.int x0, .int 0, .null]) dX12_bytesIn_1 rfl (Nat.le_of_ble_eq_true rfl) rfl rfl ?_
  refine B_bipush dX12_bytesIn_2 bp_24 ?_
  refine B_istore_n (ls' := [.int x0, .int 0, .int 24]) dX12_bytesIn_4 rfl (Nat.le_of_ble_eq_true rfl) rfl rfl ?_
  exact b_X12_bytesIn_L5 h dFu x0 0 24
def f_X12_put_J43 (kL3 : Int32 → Int32 → dH → Option (dH)) (y1 : Int32) (y2 : Int32) (h : dH) : Option (dH) :=
  kL3 y1 (y2 + (-8)) h
set_option maxRecDepth 20000 in
set_option maxHeartbeats 4000000 in
theorem b_X12_put_J43 {kL3 : Int32 → Int32 → dH → Option (dH)} (hkL3 : ∀ (y1 : Int32) (y2 : Int32) (h : dH), B XM 0 RX12 cX12_put 3 none fiV 3 [.ref 0, .int y1, .int y2] [] h (kL3 y1 y2 h)) (y1 : Int32) (y2 : Int32) (h : dH) : B XM 0 RX12 cX12_put 3 none fiV 43 [.ref 0, .int y1, .int y2] [] h (f_X12_put_J43 kL3 y1 y2 h) := by
  unfold f_X12_put_J43
  refine B_iinc (w := (y2 + (-8))) (ls' := [.ref 0, .int y1, .int (y2 + (-8))]) dX12_put_43 rfl (congrArg (fun z => y2 + z) ic_m8) (Nat.le_of_ble_eq_true rfl) rfl rfl ?_
  refine B_goto (tgt := 3) dX12_put_46 (by decide) ?_
  exact hkL3 y1 (y2 + (-8))  h
def f_X12_put_L3 : Nat → Int32 → Int32 → dH → Option (dH)
  | 0, _, _, _ => none
  | n + 1, y1, y2, h =>
    if y2 < 0 then
    some h
    else
    if ((y1 >>> (y2 &&& 31)) &&& 255) = 0 then
    f_X12_put_J43 (f_X12_put_L3 n) y1 y2 h
    else
    if dIn (h.1 0 6) 240 then
    (some (dPut h 1 (dI (h.1 0 6)) (vp_nar .byte (((y1 >>> (y2 &&& 31)) : Int32).toInt8.toInt32)))).bind fun h2 =>
    (some (dPut h2 0 6 ((h2.1 0 6) + 1))).bind fun h3 =>
    f_X12_put_J43 (f_X12_put_L3 n) y1 y2 h3
    else none
set_option maxRecDepth 20000 in
set_option maxHeartbeats 4000000 in
theorem b_X12_put_L3 : ∀ (n : Nat) (y1 : Int32) (y2 : Int32) (h : dH), B XM 0 RX12 cX12_put 3 none fiV 3 [.ref 0, .int y1, .int y2] [] h (f_X12_put_L3 n y1 y2 h) := by
  intro n
  induction n with
  | zero =>
    intro y1 y2 h
    exact B_none
  | succ n ih =>
    intro y1 y2 h
    rw [f_X12_put_L3]
    refine B_iload_n dX12_put_3 rfl rfl ?_
    refine C_if_lt (tgt := 49) dX12_put_4 (by decide) (fun q5 => ?_) (fun q5 => ?_)
    · exact B_return dX12_put_49 rfl rfl
    · refine B_iload_n dX12_put_7 rfl rfl ?_
      refine B_iload_n dX12_put_8 rfl rfl ?_
      refine B_ishr dX12_put_9 ?_
      refine B_sipush dX12_put_10 sp_255 ?_
      refine B_iand dX12_put_13 ?_
      refine C_if_ne (tgt := 20) dX12_put_14 (by decide) (fun q4 => ?_) (fun q4 => ?_)
      · refine B_aload_n dX12_put_20 rfl rfl ?_
        refine B_getR dX12_put_21 fl_X12_9 shM_0 rfl (rfM_0_1 _) ?_
        refine B_aload_n dX12_put_24 rfl rfl ?_
        refine B_getI dX12_put_25 fl_X12_116 shM_0 rfl ?_
        refine B_iload_n dX12_put_28 rfl rfl ?_
        refine B_iload_n dX12_put_29 rfl rfl ?_
        refine B_ishr dX12_put_30 ?_
        refine B_i2b dX12_put_31 ?_
        refine C_chk (fun q1 => ?_)
        refine L_bast dX12_put_32 shM_1 q1 rfl ?_
        refine B_lh (fun h2 => ?_)
        refine B_aload_n dX12_put_33 rfl rfl ?_
        refine B_dup dX12_put_34 rfl ?_
        refine B_getI dX12_put_35 fl_X12_116 shM_0 rfl ?_
        refine B_iconst dX12_put_38 ic_1 ?_
        refine B_iadd dX12_put_39 ?_
        refine B_putI dX12_put_40 fl_X12_116 fw_X12_6 shM_0 rfl ?_
        refine B_lh (fun h3 => ?_)
        exact b_X12_put_J43 (fun qy1 qy2 qh => ih qy1 qy2 qh) y1 y2 h3
      · refine B_goto (tgt := 43) dX12_put_17 (by decide) ?_
        exact b_X12_put_J43 (fun qy1 qy2 qh => ih qy1 qy2 qh) y1 y2 h
def f_X12_put (x1 : Int32) (h : dH) : Option (dH) :=
  f_X12_put_L3 dFu x1 24 h
set_option maxRecDepth 20000 in
set_option maxHeartbeats 4000000 in
theorem t_X12_put (x1 : Int32) (h : dH) : T XM 0 yX12_put cX12_put 3 none fiV [.ref 0, .int x1] h (f_X12_put x1 h) := by
  refine T_of [.ref 0, .int x1, .null] (by decide) (fun _ => rfl) (fun _ => Nat.le_of_ble_eq_true rfl) ?_
  show B XM 0 RX12 cX12_put 3 none fiV 0 [.ref 0, .int x1, .null] [] h (f_X12_put x1 h)
  unfold f_X12_put
  refine B_bipush dX12_put_0 bp_24 ?_
  refine B_istore_n (ls' := [.ref 0, .int x1, .int 24]) dX12_put_2 rfl (Nat.le_of_ble_eq_true rfl) rfl rfl ?_
  exact b_X12_put_L3 dFu x1 24 h
def f_X12_feed (x1 : Int32) (x2 : Int32) (x3 : Int32) (x4 : Int32) (x5 : Int32) (h : dH) : Option (Int32 × dH) :=
  (some (dPut h 0 0 0)).bind fun h1 =>
  (f_X12_bytesIn x1 h1).bind fun v2 =>
  (f_X12_bytesIn x2 h1).bind fun v3 =>
  (f_X12_bytesIn x3 h1).bind fun v4 =>
  (f_X12_bytesIn x4 h1).bind fun v5 =>
  (f_X12_bytesIn x5 h1).bind fun v6 =>
  if 240 < ((((((h1.1 0 6) + v2) + v3) + v4) + v5) + v6) then
  some ((-1), h1)
  else
  (f_X12_put x1 h1).bind fun h8 =>
  (f_X12_put x2 h8).bind fun h10 =>
  (f_X12_put x3 h10).bind fun h12 =>
  (f_X12_put x4 h12).bind fun h14 =>
  (f_X12_put x5 h14).bind fun h16 =>
  some ((h16.1 0 6), h16)
set_option maxRecDepth 20000 in
set_option maxHeartbeats 4000000 in
theorem t_X12_feed (x1 : Int32) (x2 : Int32) (x3 : Int32) (x4 : Int32) (x5 : Int32) (h : dH) : T XM 1 yX12_feed cX12_feed 6 (some .int) fiI [.ref 0, .int x1, .int x2, .int x3, .int x4, .int x5] h (f_X12_feed x1 x2 x3 x4 x5 h) := by
  refine T_of [.ref 0, .int x1, .int x2, .int x3, .int x4, .int x5] (by decide) (fun _ => rfl) (fun _ => Nat.le_of_ble_eq_true rfl) ?_
  show B XM 1 RX12 cX12_feed 6 (some .int) fiI 0 [.ref 0, .int x1, .int x2, .int x3, .int x4, .int x5] [] h (f_X12_feed x1 x2 x3 x4 x5 h)
  unfold f_X12_feed
  refine B_aload_n dX12_feed_0 rfl rfl ?_
  refine B_iconst dX12_feed_1 ic_0 ?_
  refine B_putI dX12_feed_2 fl_X12_103 fw_X12_0 shM_0 rfl ?_
  refine B_lh (fun h1 => ?_)
  refine B_aload_n dX12_feed_5 rfl rfl ?_
  refine B_getI dX12_feed_6 fl_X12_116 shM_0 rfl ?_
  refine B_iload_n dX12_feed_9 rfl rfl ?_
  refine B_Sp (st := [.int (h1.1 0 6)]) dX12_feed_10 cl_X12_118 (t_X12_bytesIn x1 h1) (Nat.le_of_ble_eq_true rfl) rfl rfl (Nat.le_of_ble_eq_true rfl) (fun v2 _ => ?_)
  refine B_iadd dX12_feed_13 ?_
  refine B_iload_n dX12_feed_14 rfl rfl ?_
  refine B_Sp (st := [.int ((h1.1 0 6) + v2)]) dX12_feed_15 cl_X12_118 (t_X12_bytesIn x2 h1) (Nat.le_of_ble_eq_true rfl) rfl rfl (Nat.le_of_ble_eq_true rfl) (fun v3 _ => ?_)
  refine B_iadd dX12_feed_18 ?_
  refine B_iload_n dX12_feed_19 rfl rfl ?_
  refine B_Sp (st := [.int (((h1.1 0 6) + v2) + v3)]) dX12_feed_20 cl_X12_118 (t_X12_bytesIn x3 h1) (Nat.le_of_ble_eq_true rfl) rfl rfl (Nat.le_of_ble_eq_true rfl) (fun v4 _ => ?_)
  refine B_iadd dX12_feed_23 ?_
  refine B_iload dX12_feed_24 rfl ?_
  refine B_Sp (st := [.int ((((h1.1 0 6) + v2) + v3) + v4)]) dX12_feed_26 cl_X12_118 (t_X12_bytesIn x4 h1) (Nat.le_of_ble_eq_true rfl) rfl rfl (Nat.le_of_ble_eq_true rfl) (fun v5 _ => ?_)
  refine B_iadd dX12_feed_29 ?_
  refine B_iload dX12_feed_30 rfl ?_
  refine B_Sp (st := [.int (((((h1.1 0 6) + v2) + v3) + v4) + v5)]) dX12_feed_32 cl_X12_118 (t_X12_bytesIn x5 h1) (Nat.le_of_ble_eq_true rfl) rfl rfl (Nat.le_of_ble_eq_true rfl) (fun v6 _ => ?_)
  refine B_iadd dX12_feed_35 ?_
  refine B_sipush dX12_feed_36 sp_240 ?_
  refine C_icmp_le (tgt := 44) dX12_feed_39 (by decide) (fun q17 => ?_) (fun q17 => ?_)
  · refine B_aload_n dX12_feed_44 rfl rfl ?_
    refine B_iload_n dX12_feed_45 rfl rfl ?_
    refine B_VV (st := []) dX12_feed_46 cl_X12_122 (t_X12_put x1 h1) (Nat.le_of_ble_eq_true rfl) shM_0 rfl rfl (Nat.le_of_ble_eq_true rfl) (fun h8 _ => ?_)
    refine B_aload_n dX12_feed_49 rfl rfl ?_
    refine B_iload_n dX12_feed_50 rfl rfl ?_
    refine B_VV (st := []) dX12_feed_51 cl_X12_122 (t_X12_put x2 h8) (Nat.le_of_ble_eq_true rfl) shM_0 rfl rfl (Nat.le_of_ble_eq_true rfl) (fun h10 _ => ?_)
    refine B_aload_n dX12_feed_54 rfl rfl ?_
    refine B_iload_n dX12_feed_55 rfl rfl ?_
    refine B_VV (st := []) dX12_feed_56 cl_X12_122 (t_X12_put x3 h10) (Nat.le_of_ble_eq_true rfl) shM_0 rfl rfl (Nat.le_of_ble_eq_true rfl) (fun h12 _ => ?_)
    refine B_aload_n dX12_feed_59 rfl rfl ?_
    refine B_iload dX12_feed_60 rfl ?_
    refine B_VV (st := []) dX12_feed_62 cl_X12_122 (t_X12_put x4 h12) (Nat.le_of_ble_eq_true rfl) shM_0 rfl rfl (Nat.le_of_ble_eq_true rfl) (fun h14 _ => ?_)
    refine B_aload_n dX12_feed_65 rfl rfl ?_
    refine B_iload dX12_feed_66 rfl ?_
    refine B_VV (st := []) dX12_feed_68 cl_X12_122 (t_X12_put x5 h14) (Nat.le_of_ble_eq_true rfl) shM_0 rfl rfl (Nat.le_of_ble_eq_true rfl) (fun h16 _ => ?_)
    refine B_aload_n dX12_feed_71 rfl rfl ?_
    refine B_getI dX12_feed_72 fl_X12_116 shM_0 rfl ?_
    exact B_ireturn dX12_feed_75 rfl rfl
  · refine B_iconst dX12_feed_42 ic_m1 ?_
    exact B_ireturn dX12_feed_43 rfl rfl
def f_X12_end (x1 : Int32) (h : dH) : Option (Bool × dH) :=
  (some (dPut h 0 0 0)).bind fun h1 =>
  if x1 < 0 then
  some (false, h1)
  else
  if (h1.1 0 6) < x1 then
  some (false, h1)
  else
  some (true, (dPut h1 0 6 x1))
set_option maxRecDepth 20000 in
set_option maxHeartbeats 4000000 in
theorem t_X12_end (x1 : Int32) (h : dH) : T XM 0 yX12_end cX12_end 2 (some .boolean) fiC [.ref 0, .int x1] h (f_X12_end x1 h) := by
  refine T_of [.ref 0, .int x1] (by decide) (fun _ => rfl) (fun _ => Nat.le_of_ble_eq_true rfl) ?_
  show B XM 0 RX12 cX12_end 2 (some .boolean) fiC 0 [.ref 0, .int x1] [] h (f_X12_end x1 h)
  unfold f_X12_end
  refine B_aload_n dX12_end_0 rfl rfl ?_
  refine B_iconst dX12_end_1 ic_0 ?_
  refine B_putI dX12_end_2 fl_X12_103 fw_X12_0 shM_0 rfl ?_
  refine B_lh (fun h1 => ?_)
  refine B_iload_n dX12_end_5 rfl rfl ?_
  refine C_if_lt (tgt := 17) dX12_end_6 (by decide) (fun q3 => ?_) (fun q3 => ?_)
  · refine B_iconst dX12_end_17 ic_0 ?_
    exact B_zreturn dX12_end_18 rfl rfl rfl
  · refine B_iload_n dX12_end_9 rfl rfl ?_
    refine B_aload_n dX12_end_10 rfl rfl ?_
    refine B_getI dX12_end_11 fl_X12_116 shM_0 rfl ?_
    refine C_icmp_le (tgt := 19) dX12_end_14 (by decide) (fun q2 => ?_) (fun q2 => ?_)
    · refine B_aload_n dX12_end_19 rfl rfl ?_
      refine B_iload_n dX12_end_20 rfl rfl ?_
      refine B_putI dX12_end_21 fl_X12_116 fw_X12_6 shM_0 rfl ?_
      refine B_iconst dX12_end_24 ic_1 ?_
      exact B_zreturn dX12_end_25 rfl rfl rfl
    · refine B_iconst dX12_end_17 ic_0 ?_
      exact B_zreturn dX12_end_18 rfl rfl rfl
def f_X12_look_J43 (h : dH) : Option (Int32 × dH) :=
  if (h.1 0 10) < (h.1 0 9) then
  if dIn ((h.1 0 8) + (h.1 0 10)) (bln h.2.2) then
  some (((h.1 h.2.2 (dI ((h.1 0 8) + (h.1 0 10)))) &&& 255), h)
  else none
  else
  some ((-1), h)
set_option maxRecDepth 20000 in
set_option maxHeartbeats 4000000 in
theorem b_X12_look_J43 (h : dH) : B XM 0 RX12 cX12_look 1 (some .int) fiI 43 [.ref 0] [] h (f_X12_look_J43 h) := by
  unfold f_X12_look_J43
  refine B_aload_n dX12_look_43 rfl rfl ?_
  refine B_getI dX12_look_44 fl_X12_126 shM_0 rfl ?_
  refine B_aload_n dX12_look_47 rfl rfl ?_
  refine B_getI dX12_look_48 fl_X12_129 shM_0 rfl ?_
  refine C_icmp_ge (tgt := 75) dX12_look_51 (by decide) (fun q6 => ?_) (fun q6 => ?_)
  · refine B_iconst dX12_look_75 ic_m1 ?_
    exact B_ireturn dX12_look_76 rfl rfl
  · refine B_aload_n dX12_look_54 rfl rfl ?_
    refine B_getR dX12_look_55 fl_X12_23 shM_0 rfl (rfM_0_5 _) ?_
    refine B_aload_n dX12_look_58 rfl rfl ?_
    refine B_getI dX12_look_59 fl_X12_132 shM_0 rfl ?_
    refine B_aload_n dX12_look_62 rfl rfl ?_
    refine B_getI dX12_look_63 fl_X12_126 shM_0 rfl ?_
    refine B_iadd dX12_look_66 ?_
    refine C_chk (fun q5 => ?_)
    refine L_baldD dX12_look_67 q5 ?_
    refine B_sipush dX12_look_68 sp_255 ?_
    refine B_iand dX12_look_71 ?_
    refine B_goto (tgt := 76) dX12_look_72 (by decide) ?_
    exact B_ireturn dX12_look_76 rfl rfl
def f_X12_look_L0 : Nat → dH → Option (Int32 × dH)
  | 0, _ => none
  | n + 1, h =>
    if (h.1 0 10) < (h.1 0 9) then
    if dIn ((h.1 0 8) + (h.1 0 10)) (bln h.2.2) then
    if (h.1 h.2.2 (dI ((h.1 0 8) + (h.1 0 10)))) = 32 then
    (some (dPut h 0 10 ((h.1 0 10) + 1))).bind fun h8 =>
    (f_X12_look_L0 n) h8
    else
    f_X12_look_J43 h
    else none
    else
    f_X12_look_J43 h
set_option maxRecDepth 20000 in
set_option maxHeartbeats 4000000 in
theorem b_X12_look_L0 : ∀ (n : Nat) (h : dH), B XM 0 RX12 cX12_look 1 (some .int) fiI 0 [.ref 0] [] h (f_X12_look_L0 n h) := by
  intro n
  induction n with
  | zero =>
    intro h
    exact B_none
  | succ n ih =>
    intro h
    rw [f_X12_look_L0]
    refine B_aload_n dX12_look_0 rfl rfl ?_
    refine B_getI dX12_look_1 fl_X12_126 shM_0 rfl ?_
    refine B_aload_n dX12_look_4 rfl rfl ?_
    refine B_getI dX12_look_5 fl_X12_129 shM_0 rfl ?_
    refine C_icmp_ge (tgt := 43) dX12_look_8 (by decide) (fun q10 => ?_) (fun q10 => ?_)
    · exact b_X12_look_J43 h
    · refine B_aload_n dX12_look_11 rfl rfl ?_
      refine B_getR dX12_look_12 fl_X12_23 shM_0 rfl (rfM_0_5 _) ?_
      refine B_aload_n dX12_look_15 rfl rfl ?_
      refine B_getI dX12_look_16 fl_X12_132 shM_0 rfl ?_
      refine B_aload_n dX12_look_19 rfl rfl ?_
      refine B_getI dX12_look_20 fl_X12_126 shM_0 rfl ?_
      refine B_iadd dX12_look_23 ?_
      refine C_chk (fun q7 => ?_)
      refine L_baldD dX12_look_24 q7 ?_
      refine B_bipush dX12_look_25 bp_32 ?_
      refine C_icmp_ne (tgt := 43) dX12_look_27 (by decide) (fun q9 => ?_) (fun q9 => ?_)
      · exact b_X12_look_J43 h
      · refine B_aload_n dX12_look_30 rfl rfl ?_
        refine B_dup dX12_look_31 rfl ?_
        refine B_getI dX12_look_32 fl_X12_126 shM_0 rfl ?_
        refine B_iconst dX12_look_35 ic_1 ?_
        refine B_iadd dX12_look_36 ?_
        refine B_putI dX12_look_37 fl_X12_126 fw_X12_10 shM_0 rfl ?_
        refine B_lh (fun h8 => ?_)
        refine B_goto (tgt := 0) dX12_look_40 (by decide) ?_
        exact ih   h8
def f_X12_look (h : dH) : Option (Int32 × dH) :=
  if (h.1 0 10) < (h.1 0 9) then
  if dIn ((h.1 0 8) + (h.1 0 10)) (bln h.2.2) then
  if (h.1 h.2.2 (dI ((h.1 0 8) + (h.1 0 10)))) = 32 then
  (some (dPut h 0 10 ((h.1 0 10) + 1))).bind fun h2 =>
  f_X12_look_L0 dFu h2
  else
  f_X12_look_J43 h
  else none
  else
  f_X12_look_J43 h
set_option maxRecDepth 20000 in
set_option maxHeartbeats 4000000 in
theorem t_X12_look (h : dH) : T XM 0 yX12_look cX12_look 1 (some .int) fiI [.ref 0] h (f_X12_look h) := by
  refine T_of [.ref 0] (by decide) (fun _ => rfl) (fun _ => Nat.le_of_ble_eq_true rfl) ?_
  show B XM 0 RX12 cX12_look 1 (some .int) fiI 0 [.ref 0] [] h (f_X12_look h)
  unfold f_X12_look
  refine B_aload_n dX12_look_0 rfl rfl ?_
  refine B_getI dX12_look_1 fl_X12_126 shM_0 rfl ?_
  refine B_aload_n dX12_look_4 rfl rfl ?_
  refine B_getI dX12_look_5 fl_X12_129 shM_0 rfl ?_
  refine C_icmp_ge (tgt := 43) dX12_look_8 (by decide) (fun q4 => ?_) (fun q4 => ?_)
  · exact b_X12_look_J43 h
  · refine B_aload_n dX12_look_11 rfl rfl ?_
    refine B_getR dX12_look_12 fl_X12_23 shM_0 rfl (rfM_0_5 _) ?_
    refine B_aload_n dX12_look_15 rfl rfl ?_
    refine B_getI dX12_look_16 fl_X12_132 shM_0 rfl ?_
    refine B_aload_n dX12_look_19 rfl rfl ?_
    refine B_getI dX12_look_20 fl_X12_126 shM_0 rfl ?_
    refine B_iadd dX12_look_23 ?_
    refine C_chk (fun q1 => ?_)
    refine L_baldD dX12_look_24 q1 ?_
    refine B_bipush dX12_look_25 bp_32 ?_
    refine C_icmp_ne (tgt := 43) dX12_look_27 (by decide) (fun q3 => ?_) (fun q3 => ?_)
    · exact b_X12_look_J43 h
    · refine B_aload_n dX12_look_30 rfl rfl ?_
      refine B_dup dX12_look_31 rfl ?_
      refine B_getI dX12_look_32 fl_X12_126 shM_0 rfl ?_
      refine B_iconst dX12_look_35 ic_1 ?_
      refine B_iadd dX12_look_36 ?_
      refine B_putI dX12_look_37 fl_X12_126 fw_X12_10 shM_0 rfl ?_
      refine B_lh (fun h2 => ?_)
      refine B_goto (tgt := 0) dX12_look_40 (by decide) ?_
      exact b_X12_look_L0 dFu h2
def f_X12_fails (h : dH) : Option (Bool × dH) :=
  if (h.1 0 11) = (-1) then
  some (false, (dPut h 0 11 (h.1 0 10)))
  else
  some (false, h)
set_option maxRecDepth 20000 in
set_option maxHeartbeats 4000000 in
theorem t_X12_fails (h : dH) : T XM 0 yX12_fails cX12_fails 1 (some .boolean) fiC [.ref 0] h (f_X12_fails h) := by
  refine T_of [.ref 0] (by decide) (fun _ => rfl) (fun _ => Nat.le_of_ble_eq_true rfl) ?_
  show B XM 0 RX12 cX12_fails 1 (some .boolean) fiC 0 [.ref 0] [] h (f_X12_fails h)
  unfold f_X12_fails
  refine B_aload_n dX12_fails_0 rfl rfl ?_
  refine B_getI dX12_fails_1 fl_X12_135 shM_0 rfl ?_
  refine B_iconst dX12_fails_4 ic_m1 ?_
  refine C_icmp_ne (tgt := 16) dX12_fails_5 (by decide) (fun q1 => ?_) (fun q1 => ?_)
  · refine B_iconst dX12_fails_16 ic_0 ?_
    exact B_zreturn dX12_fails_17 rfl rfl rfl
  · refine B_aload_n dX12_fails_8 rfl rfl ?_
    refine B_aload_n dX12_fails_9 rfl rfl ?_
    refine B_getI dX12_fails_10 fl_X12_126 shM_0 rfl ?_
    refine B_putI dX12_fails_13 fl_X12_135 fw_X12_11 shM_0 rfl ?_
    refine B_iconst dX12_fails_16 ic_0 ?_
    exact B_zreturn dX12_fails_17 rfl rfl rfl
def f_X12_goesIn (h : dH) : Option (Bool × dH) :=
  if (h.1 0 12) = 6 then
  (f_X12_fails h).bind fun rv2 =>
  some (rv2.1, rv2.2)
  else
  (some (dPut h 0 12 ((h.1 0 12) + 1))).bind fun h1 =>
  some (true, (dPut h1 0 10 ((h1.1 0 10) + 1)))
set_option maxRecDepth 20000 in
set_option maxHeartbeats 4000000 in
theorem t_X12_goesIn (h : dH) : T XM 1 yX12_goesIn cX12_goesIn 1 (some .boolean) fiC [.ref 0] h (f_X12_goesIn h) := by
  refine T_of [.ref 0] (by decide) (fun _ => rfl) (fun _ => Nat.le_of_ble_eq_true rfl) ?_
  show B XM 1 RX12 cX12_goesIn 1 (some .boolean) fiC 0 [.ref 0] [] h (f_X12_goesIn h)
  unfold f_X12_goesIn
  refine B_aload_n dX12_goesIn_0 rfl rfl ?_
  refine B_getI dX12_goesIn_1 fl_X12_138 shM_0 rfl ?_
  refine B_bipush dX12_goesIn_4 bp_6 ?_
  refine C_icmp_ne (tgt := 14) dX12_goesIn_6 (by decide) (fun q4 => ?_) (fun q4 => ?_)
  · refine B_aload_n dX12_goesIn_14 rfl rfl ?_
    refine B_dup dX12_goesIn_15 rfl ?_
    refine B_getI dX12_goesIn_16 fl_X12_138 shM_0 rfl ?_
    refine B_iconst dX12_goesIn_19 ic_1 ?_
    refine B_iadd dX12_goesIn_20 ?_
    refine B_putI dX12_goesIn_21 fl_X12_138 fw_X12_12 shM_0 rfl ?_
    refine B_lh (fun h1 => ?_)
    refine B_aload_n dX12_goesIn_24 rfl rfl ?_
    refine B_dup dX12_goesIn_25 rfl ?_
    refine B_getI dX12_goesIn_26 fl_X12_126 shM_0 rfl ?_
    refine B_iconst dX12_goesIn_29 ic_1 ?_
    refine B_iadd dX12_goesIn_30 ?_
    refine B_putI dX12_goesIn_31 fl_X12_126 fw_X12_10 shM_0 rfl ?_
    refine B_iconst dX12_goesIn_34 ic_1 ?_
    exact B_zreturn dX12_goesIn_35 rfl rfl rfl
  · refine B_aload_n dX12_goesIn_9 rfl rfl ?_
    refine B_VC (st := []) dX12_goesIn_10 cl_X12_141 (t_X12_fails h) (Nat.le_of_ble_eq_true rfl) shM_0 rfl rfl (Nat.le_of_ble_eq_true rfl) (fun v2 h3 _ => ?_)
    exact B_zreturn dX12_goesIn_13 rfl (nar_bi v2) rfl
def f_X12_takes_J16 (h : dH) : Option (Bool × dH) :=
  (f_X12_fails h).bind fun rv5 =>
  some (rv5.1, rv5.2)
set_option maxRecDepth 20000 in
set_option maxHeartbeats 4000000 in
theorem b_X12_takes_J16 (h : dH) : B XM 1 RX12 cX12_takes 2 (some .boolean) fiC 16 [.ref 0, .null] [] h (f_X12_takes_J16 h) := by
  unfold f_X12_takes_J16
  refine B_aload_n dX12_takes_16 rfl rfl ?_
  refine B_VC (st := []) dX12_takes_17 cl_X12_141 (t_X12_fails h) (Nat.le_of_ble_eq_true rfl) shM_0 rfl rfl (Nat.le_of_ble_eq_true rfl) (fun v5 h6 _ => ?_)
  exact B_zreturn dX12_takes_20 rfl (nar_bi v5) rfl
def f_X12_takes (x1 : Int32) (h : dH) : Option (Bool × dH) :=
  if (h.1 0 11) = (-1) then
  (f_X12_look h).bind fun rv1 =>
  if rv1.1 = x1 then
  some (true, (dPut rv1.2 0 10 ((rv1.2.1 0 10) + 1)))
  else
  f_X12_takes_J16 rv1.2
  else
  f_X12_takes_J16 h
set_option maxRecDepth 20000 in
set_option maxHeartbeats 4000000 in
theorem t_X12_takes (x1 : Int32) (h : dH) : T XM 1 yX12_takes cX12_takes 2 (some .boolean) fiC [.ref 0, .int x1] h (f_X12_takes x1 h) := by
  refine T_of [.ref 0, .int x1] (by decide) (fun _ => rfl) (fun _ => Nat.le_of_ble_eq_true rfl) ?_
  show B XM 1 RX12 cX12_takes 2 (some .boolean) fiC 0 [.ref 0, .int x1] [] h (f_X12_takes x1 h)
  unfold f_X12_takes
  refine B_aload_n dX12_takes_0 rfl rfl ?_
  refine B_getI dX12_takes_1 fl_X12_135 shM_0 rfl ?_
  refine B_iconst dX12_takes_4 ic_m1 ?_
  refine C_icmp_ne (tgt := 16) dX12_takes_5 (by decide) (fun q4 => ?_) (fun q4 => ?_)
  · refine B_drop 1 (ls' := [.ref 0, .null]) rfl ?_
    exact b_X12_takes_J16 h
  · refine B_aload_n dX12_takes_8 rfl rfl ?_
    refine B_VI (st := []) dX12_takes_9 cl_X12_145 (t_X12_look h) (Nat.le_of_ble_eq_true rfl) shM_0 rfl rfl (Nat.le_of_ble_eq_true rfl) (fun v1 h2 _ => ?_)
    refine B_iload_n dX12_takes_12 rfl rfl ?_
    refine C_icmp_eq (tgt := 21) dX12_takes_13 (by decide) (fun q3 => ?_) (fun q3 => ?_)
    · refine B_aload_n dX12_takes_21 rfl rfl ?_
      refine B_dup dX12_takes_22 rfl ?_
      refine B_getI dX12_takes_23 fl_X12_126 shM_0 rfl ?_
      refine B_iconst dX12_takes_26 ic_1 ?_
      refine B_iadd dX12_takes_27 ?_
      refine B_putI dX12_takes_28 fl_X12_126 fw_X12_10 shM_0 rfl ?_
      refine B_iconst dX12_takes_31 ic_1 ?_
      exact B_zreturn dX12_takes_32 rfl rfl rfl
    · refine B_drop 1 (ls' := [.ref 0, .null]) rfl ?_
      exact b_X12_takes_J16 h2
def f_X12_isDigit (h : dH) : Option (Bool) :=
  if (h.1 0 10) < (h.1 0 9) then
  if dIn ((h.1 0 8) + (h.1 0 10)) (bln h.2.2) then
  if (h.1 h.2.2 (dI ((h.1 0 8) + (h.1 0 10)))) < 48 then
  some false
  else
  if dIn ((h.1 0 8) + (h.1 0 10)) (bln h.2.2) then
  if 57 < (h.1 h.2.2 (dI ((h.1 0 8) + (h.1 0 10)))) then
  some false
  else
  some true
  else none
  else none
  else
  some false
set_option maxRecDepth 20000 in
set_option maxHeartbeats 4000000 in
theorem t_X12_isDigit (h : dH) : T XM 0 yX12_isDigit cX12_isDigit 1 (some .boolean) (fiB h) [.ref 0] h (f_X12_isDigit h) := by
  refine T_of [.ref 0] (by decide) (fun _ => rfl) (fun _ => Nat.le_of_ble_eq_true rfl) ?_
  show B XM 0 RX12 cX12_isDigit 1 (some .boolean) (fiB h) 0 [.ref 0] [] h (f_X12_isDigit h)
  unfold f_X12_isDigit
  refine B_aload_n dX12_isDigit_0 rfl rfl ?_
  refine B_getI dX12_isDigit_1 fl_X12_126 shM_0 rfl ?_
  refine B_aload_n dX12_isDigit_4 rfl rfl ?_
  refine B_getI dX12_isDigit_5 fl_X12_129 shM_0 rfl ?_
  refine C_icmp_ge (tgt := 53) dX12_isDigit_8 (by decide) (fun q5 => ?_) (fun q5 => ?_)
  · refine B_iconst dX12_isDigit_53 ic_0 ?_
    exact B_zreturn dX12_isDigit_54 rfl rfl rfl
  · refine B_aload_n dX12_isDigit_11 rfl rfl ?_
    refine B_getR dX12_isDigit_12 fl_X12_23 shM_0 rfl (rfM_0_5 _) ?_
    refine B_aload_n dX12_isDigit_15 rfl rfl ?_
    refine B_getI dX12_isDigit_16 fl_X12_132 shM_0 rfl ?_
    refine B_aload_n dX12_isDigit_19 rfl rfl ?_
    refine B_getI dX12_isDigit_20 fl_X12_126 shM_0 rfl ?_
    refine B_iadd dX12_isDigit_23 ?_
    refine C_chk (fun q1 => ?_)
    refine L_baldD dX12_isDigit_24 q1 ?_
    refine B_bipush dX12_isDigit_25 bp_48 ?_
    refine C_icmp_lt (tgt := 53) dX12_isDigit_27 (by decide) (fun q4 => ?_) (fun q4 => ?_)
    · refine B_iconst dX12_isDigit_53 ic_0 ?_
      exact B_zreturn dX12_isDigit_54 rfl rfl rfl
    · refine B_aload_n dX12_isDigit_30 rfl rfl ?_
      refine B_getR dX12_isDigit_31 fl_X12_23 shM_0 rfl (rfM_0_5 _) ?_
      refine B_aload_n dX12_isDigit_34 rfl rfl ?_
      refine B_getI dX12_isDigit_35 fl_X12_132 shM_0 rfl ?_
      refine B_aload_n dX12_isDigit_38 rfl rfl ?_
      refine B_getI dX12_isDigit_39 fl_X12_126 shM_0 rfl ?_
      refine B_iadd dX12_isDigit_42 ?_
      refine C_chk (fun q2 => ?_)
      refine L_baldD dX12_isDigit_43 q2 ?_
      refine B_bipush dX12_isDigit_44 bp_57 ?_
      refine C_icmp_gt (tgt := 53) dX12_isDigit_46 (by decide) (fun q3 => ?_) (fun q3 => ?_)
      · refine B_iconst dX12_isDigit_53 ic_0 ?_
        exact B_zreturn dX12_isDigit_54 rfl rfl rfl
      · refine B_iconst dX12_isDigit_49 ic_1 ?_
        refine B_goto (tgt := 54) dX12_isDigit_50 (by decide) ?_
        exact B_zreturn dX12_isDigit_54 rfl rfl rfl
def f_X12_within (x0 : Int64) (h : dH) : Int32 :=
  ((jmaxL (-1000000) (jminL 1000000 x0)) : Int64).toInt32
set_option maxRecDepth 20000 in
set_option maxHeartbeats 4000000 in
theorem t_X12_within (x0 : Int64) (h : dH) : T XM 1 yX12_within cX12_within 2 (some .int) (fiP h) [.long x0] h (some (f_X12_within x0 h)) := by
  refine T_of [.long x0, .null] (by decide) (fun _ => rfl) (fun _ => Nat.le_of_ble_eq_true rfl) ?_
  show B XM 1 RX12 cX12_within 2 (some .int) (fiP h) 0 [.long x0, .null] [] h (some (f_X12_within x0 h))
  unfold f_X12_within
  refine B_ldc2 dX12_within_0 kc_X12_148 ?_
  refine B_ldc2 dX12_within_3 kc_X12_150 ?_
  refine B_lload_n dX12_within_6 rfl rfl ?_
  refine B_mminL dX12_within_7 mt_X12_152 (Nat.le_of_ble_eq_true rfl) (Nat.le_of_ble_eq_true rfl) ?_
  refine B_mmaxL dX12_within_10 mt_X12_158 (Nat.le_of_ble_eq_true rfl) (Nat.le_of_ble_eq_true rfl) ?_
  refine B_l2i dX12_within_13 ?_
  exact B_ireturn dX12_within_14 rfl rfl
def f_X12_atom_L90 (rc_X12_atom : dH → Option (Int32 × dH)) (rc_X12_term : dH → Option (Int32 × dH)) (rc_X12_sum : dH → Option (Int32 × dH)) : Nat → Int32 → Int32 → dH → Option (Int32 × dH)
  | 0, _, _, _ => none
  | n + 1, y2, y3, h =>
    (f_X12_isDigit h).bind fun v18 =>
    if v18 then
    if (h.1 0 11) = (-1) then
    if y3 = 4 then
    (f_X12_fails h).bind fun rv22 =>
    some (0, rv22.2)
    else
    if dIn ((h.1 0 8) + (h.1 0 10)) (bln h.2.2) then
    (some ((((10 * y2) + (h.1 h.2.2 (dI ((h.1 0 8) + (h.1 0 10))))) - 48))).bind fun v20 =>
    (some (dPut h 0 10 ((h.1 0 10) + 1))).bind fun h21 =>
    (f_X12_atom_L90 rc_X12_atom rc_X12_term rc_X12_sum n) v20 (y3 + 1) h21
    else none
    else
    some (y2, h)
    else
    some (y2, h)
set_option maxRecDepth 20000 in
set_option maxHeartbeats 4000000 in
theorem b_X12_atom_L90 {Dr : Nat} {rc_X12_atom : dH → Option (Int32 × dH)} {rc_X12_term : dH → Option (Int32 × dH)} {rc_X12_sum : dH → Option (Int32 × dH)} (hDr : 8 ≤ Dr) (hrc_X12_atom : ∀ (h : dH), T XM Dr yX12_atom cX12_atom 4 (some .int) fiI [.ref 0] h (rc_X12_atom h)) (hrc_X12_term : ∀ (h : dH), T XM Dr yX12_term cX12_term 5 (some .int) fiI [.ref 0] h (rc_X12_term h)) (hrc_X12_sum : ∀ (h : dH), T XM Dr yX12_sum cX12_sum 5 (some .int) fiI [.ref 0] h (rc_X12_sum h)) : ∀ (n : Nat) (y2 : Int32) (y3 : Int32) (h : dH), B XM (Dr + 1) RX12 cX12_atom 4 (some .int) fiI 90 [.ref 0, .null, .int y2, .int y3] [] h (f_X12_atom_L90 rc_X12_atom rc_X12_term rc_X12_sum n y2 y3 h) := by
  intro n
  induction n with
  | zero =>
    intro y2 y3 h
    exact B_none
  | succ n ih =>
    intro y2 y3 h
    rw [f_X12_atom_L90]
    refine B_aload_n dX12_atom_90 rfl rfl ?_
    refine B_Vpb (st := []) dX12_atom_91 cl_X12_175 (t_X12_isDigit h) (by omega) shM_0 rfl rfl (Nat.le_of_ble_eq_true rfl) (fun v18 _ => ?_)
    refine C_ifb_eq (tgt := 156) dX12_atom_94 (by decide) (fun q26 => ?_) (fun q26 => ?_)
    · refine B_iload_n dX12_atom_156 rfl rfl ?_
      exact B_ireturn dX12_atom_157 rfl rfl
    · refine B_aload_n dX12_atom_97 rfl rfl ?_
      refine B_getI dX12_atom_98 fl_X12_135 shM_0 rfl ?_
      refine B_iconst dX12_atom_101 ic_m1 ?_
      refine C_icmp_ne (tgt := 156) dX12_atom_102 (by decide) (fun q25 => ?_) (fun q25 => ?_)
      · refine B_iload_n dX12_atom_156 rfl rfl ?_
        exact B_ireturn dX12_atom_157 rfl rfl
      · refine B_iload_n dX12_atom_105 rfl rfl ?_
        refine B_iconst dX12_atom_106 ic_4 ?_
        refine C_icmp_ne (tgt := 117) dX12_atom_107 (by decide) (fun q24 => ?_) (fun q24 => ?_)
        · refine B_bipush dX12_atom_117 bp_10 ?_
          refine B_iload_n dX12_atom_119 rfl rfl ?_
          refine B_imul dX12_atom_120 ?_
          refine B_aload_n dX12_atom_121 rfl rfl ?_
          refine B_getR dX12_atom_122 fl_X12_23 shM_0 rfl (rfM_0_5 _) ?_
          refine B_aload_n dX12_atom_125 rfl rfl ?_
          refine B_getI dX12_atom_126 fl_X12_132 shM_0 rfl ?_
          refine B_aload_n dX12_atom_129 rfl rfl ?_
          refine B_getI dX12_atom_130 fl_X12_126 shM_0 rfl ?_
          refine B_iadd dX12_atom_133 ?_
          refine C_chk (fun q19 => ?_)
          refine L_baldD dX12_atom_134 q19 ?_
          refine B_iadd dX12_atom_135 ?_
          refine B_bipush dX12_atom_136 bp_48 ?_
          refine B_isub dX12_atom_138 ?_
          refine B_lv (fun v20 => ?_)
          refine B_istore_n (ls' := [.ref 0, .null, .int v20, .int y3]) dX12_atom_139 rfl (Nat.le_of_ble_eq_true rfl) rfl rfl ?_
          refine B_aload_n dX12_atom_140 rfl rfl ?_
          refine B_dup dX12_atom_141 rfl ?_
          refine B_getI dX12_atom_142 fl_X12_126 shM_0 rfl ?_
          refine B_iconst dX12_atom_145 ic_1 ?_
          refine B_iadd dX12_atom_146 ?_
          refine B_putI dX12_atom_147 fl_X12_126 fw_X12_10 shM_0 rfl ?_
          refine B_lh (fun h21 => ?_)
          refine B_iinc (w := (y3 + 1)) (ls' := [.ref 0, .null, .int v20, .int (y3 + 1)]) dX12_atom_150 rfl (congrArg (fun z => y3 + z) ic_1) (Nat.le_of_ble_eq_true rfl) rfl rfl ?_
          refine B_goto (tgt := 90) dX12_atom_153 (by decide) ?_
          exact ih v20 (y3 + 1)  h21
        · refine B_aload_n dX12_atom_110 rfl rfl ?_
          refine B_VC (st := []) dX12_atom_111 cl_X12_141 (t_X12_fails h) (by omega) shM_0 rfl rfl (Nat.le_of_ble_eq_true rfl) (fun v22 h23 _ => ?_)
          refine B_pop dX12_atom_114 rfl ?_
          refine B_iconst dX12_atom_115 ic_0 ?_
          exact B_ireturn dX12_atom_116 rfl rfl
def f_X12_atom_J86 (rc_X12_atom : dH → Option (Int32 × dH)) (rc_X12_term : dH → Option (Int32 × dH)) (rc_X12_sum : dH → Option (Int32 × dH)) (h : dH) : Option (Int32 × dH) :=
  f_X12_atom_L90 rc_X12_atom rc_X12_term rc_X12_sum dFu 0 0 h
set_option maxRecDepth 20000 in
set_option maxHeartbeats 4000000 in
theorem b_X12_atom_J86 {Dr : Nat} {rc_X12_atom : dH → Option (Int32 × dH)} {rc_X12_term : dH → Option (Int32 × dH)} {rc_X12_sum : dH → Option (Int32 × dH)} (hDr : 8 ≤ Dr) (hrc_X12_atom : ∀ (h : dH), T XM Dr yX12_atom cX12_atom 4 (some .int) fiI [.ref 0] h (rc_X12_atom h)) (hrc_X12_term : ∀ (h : dH), T XM Dr yX12_term cX12_term 5 (some .int) fiI [.ref 0] h (rc_X12_term h)) (hrc_X12_sum : ∀ (h : dH), T XM Dr yX12_sum cX12_sum 5 (some .int) fiI [.ref 0] h (rc_X12_sum h)) (h : dH) : B XM (Dr + 1) RX12 cX12_atom 4 (some .int) fiI 86 [.ref 0, .null, .null, .null] [] h (f_X12_atom_J86 rc_X12_atom rc_X12_term rc_X12_sum h) := by
  unfold f_X12_atom_J86
  refine B_iconst dX12_atom_86 ic_0 ?_
  refine B_istore_n (ls' := [.ref 0, .null, .int 0, .null]) dX12_atom_87 rfl (Nat.le_of_ble_eq_true rfl) rfl rfl ?_
  refine B_iconst dX12_atom_88 ic_0 ?_
  refine B_istore_n (ls' := [.ref 0, .null, .int 0, .int 0]) dX12_atom_89 rfl (Nat.le_of_ble_eq_true rfl) rfl rfl ?_
  exact b_X12_atom_L90 hDr hrc_X12_atom hrc_X12_term hrc_X12_sum dFu 0 0 h
def f_X12_atom (rc_X12_atom : dH → Option (Int32 × dH)) (rc_X12_term : dH → Option (Int32 × dH)) (rc_X12_sum : dH → Option (Int32 × dH)) (h : dH) : Option (Int32 × dH) :=
  (f_X12_look h).bind fun rv1 =>
  if (f_X12_isAmong 5 rv1.1) then
  if dIn rv1.1 128 then
  some (((dPut rv1.2 0 10 ((rv1.2.1 0 10) + 1)).1 4 (dI rv1.1)), (dPut rv1.2 0 10 ((rv1.2.1 0 10) + 1)))
  else none
  else
  if rv1.1 = 91 then
  (f_X12_goesIn rv1.2).bind fun rv7 =>
  if rv7.1 then
  (rc_X12_sum rv7.2).bind fun rv9 =>
  (f_X12_takes 93 rv9.2).bind fun rv11 =>
  if rv11.1 then
  some (rv9.1, (dPut rv11.2 0 12 ((rv11.2.1 0 12) - 1)))
  else
  some (0, rv11.2)
  else
  some (0, rv7.2)
  else
  (f_X12_isDigit rv1.2).bind fun v3 =>
  if v3 then
  f_X12_atom_J86 rc_X12_atom rc_X12_term rc_X12_sum rv1.2
  else
  (f_X12_fails rv1.2).bind fun rv4 =>
  f_X12_atom_J86 rc_X12_atom rc_X12_term rc_X12_sum rv4.2
set_option maxRecDepth 20000 in
set_option maxHeartbeats 4000000 in
theorem t_X12_atom {Dr : Nat} {rc_X12_atom : dH → Option (Int32 × dH)} {rc_X12_term : dH → Option (Int32 × dH)} {rc_X12_sum : dH → Option (Int32 × dH)} (hDr : 8 ≤ Dr) (hrc_X12_atom : ∀ (h : dH), T XM Dr yX12_atom cX12_atom 4 (some .int) fiI [.ref 0] h (rc_X12_atom h)) (hrc_X12_term : ∀ (h : dH), T XM Dr yX12_term cX12_term 5 (some .int) fiI [.ref 0] h (rc_X12_term h)) (hrc_X12_sum : ∀ (h : dH), T XM Dr yX12_sum cX12_sum 5 (some .int) fiI [.ref 0] h (rc_X12_sum h)) (h : dH) : T XM (Dr + 1) yX12_atom cX12_atom 4 (some .int) fiI [.ref 0] h (f_X12_atom rc_X12_atom rc_X12_term rc_X12_sum h) := by
  refine T_of [.ref 0, .null, .null, .null] (by decide) (fun _ => rfl) (fun _ => Nat.le_of_ble_eq_true rfl) ?_
  show B XM (Dr + 1) RX12 cX12_atom 4 (some .int) fiI 0 [.ref 0, .null, .null, .null] [] h (f_X12_atom rc_X12_atom rc_X12_term rc_X12_sum h)
  unfold f_X12_atom
  refine B_aload_n dX12_atom_0 rfl rfl ?_
  refine B_VI (st := []) dX12_atom_1 cl_X12_145 (t_X12_look h) (by omega) shM_0 rfl rfl (Nat.le_of_ble_eq_true rfl) (fun v1 h2 _ => ?_)
  refine B_istore_n (ls' := [.ref 0, .int v1, .null, .null]) dX12_atom_4 rfl (Nat.le_of_ble_eq_true rfl) rfl rfl ?_
  refine B_ldcS (j := 5) dX12_atom_5 rfl rfl rfl ?_
  refine B_iload_n dX12_atom_7 rfl rfl ?_
  refine B_STb (st := []) dX12_atom_8 cl_X12_161 (t_X12_isAmong 5 (by decide) v1 h2) (by omega) rfl rfl (Nat.le_of_ble_eq_true rfl) ?_
  refine C_ifb_eq (tgt := 31) dX12_atom_11 (by decide) (fun q17 => ?_) (fun q17 => ?_)
  · refine B_iload_n dX12_atom_31 rfl rfl ?_
    refine B_bipush dX12_atom_32 bp_91 ?_
    refine C_icmp_ne (tgt := 74) dX12_atom_34 (by decide) (fun q15 => ?_) (fun q15 => ?_)
    · refine B_aload_n dX12_atom_74 rfl rfl ?_
      refine B_Vpb (st := []) dX12_atom_75 cl_X12_175 (t_X12_isDigit h2) (by omega) shM_0 rfl rfl (Nat.le_of_ble_eq_true rfl) (fun v3 _ => ?_)
      refine C_ifb_ne (tgt := 86) dX12_atom_78 (by decide) (fun q6 => ?_) (fun q6 => ?_)
      · refine B_drop 1 (ls' := [.ref 0, .null, .null, .null]) rfl ?_
        exact b_X12_atom_J86 hDr hrc_X12_atom hrc_X12_term hrc_X12_sum h2
      · refine B_aload_n dX12_atom_81 rfl rfl ?_
        refine B_VC (st := []) dX12_atom_82 cl_X12_141 (t_X12_fails h2) (by omega) shM_0 rfl rfl (Nat.le_of_ble_eq_true rfl) (fun v4 h5 _ => ?_)
        refine B_pop dX12_atom_85 rfl ?_
        refine B_drop 1 (ls' := [.ref 0, .null, .null, .null]) rfl ?_
        exact b_X12_atom_J86 hDr hrc_X12_atom hrc_X12_term hrc_X12_sum h5
    · refine B_aload_n dX12_atom_37 rfl rfl ?_
      refine B_VC (st := []) dX12_atom_38 cl_X12_165 (t_X12_goesIn h2) (by omega) shM_0 rfl rfl (Nat.le_of_ble_eq_true rfl) (fun v7 h8 _ => ?_)
      refine C_ifb_ne (tgt := 46) dX12_atom_41 (by decide) (fun q14 => ?_) (fun q14 => ?_)
      · refine B_aload_n dX12_atom_46 rfl rfl ?_
        refine B_VI (st := []) dX12_atom_47 cl_X12_168 (hrc_X12_sum h8) (by omega) shM_0 rfl rfl (Nat.le_of_ble_eq_true rfl) (fun v9 h10 _ => ?_)
        refine B_istore_n (ls' := [.ref 0, .int v1, .int v9, .null]) dX12_atom_50 rfl (Nat.le_of_ble_eq_true rfl) rfl rfl ?_
        refine B_aload_n dX12_atom_51 rfl rfl ?_
        refine B_bipush dX12_atom_52 bp_93 ?_
        refine B_VC (st := []) dX12_atom_54 cl_X12_171 (t_X12_takes 93 h10) (by omega) shM_0 rfl rfl (Nat.le_of_ble_eq_true rfl) (fun v11 h12 _ => ?_)
        refine C_ifb_ne (tgt := 62) dX12_atom_57 (by decide) (fun q13 => ?_) (fun q13 => ?_)
        · refine B_aload_n dX12_atom_62 rfl rfl ?_
          refine B_dup dX12_atom_63 rfl ?_
          refine B_getI dX12_atom_64 fl_X12_138 shM_0 rfl ?_
          refine B_iconst dX12_atom_67 ic_1 ?_
          refine B_isub dX12_atom_68 ?_
          refine B_putI dX12_atom_69 fl_X12_138 fw_X12_12 shM_0 rfl ?_
          refine B_iload_n dX12_atom_72 rfl rfl ?_
          exact B_ireturn dX12_atom_73 rfl rfl
        · refine B_iconst dX12_atom_60 ic_0 ?_
          exact B_ireturn dX12_atom_61 rfl rfl
      · refine B_iconst dX12_atom_44 ic_0 ?_
        exact B_ireturn dX12_atom_45 rfl rfl
  · refine B_aload_n dX12_atom_14 rfl rfl ?_
    refine B_dup dX12_atom_15 rfl ?_
    refine B_getI dX12_atom_16 fl_X12_126 shM_0 rfl ?_
    refine B_iconst dX12_atom_19 ic_1 ?_
    refine B_iadd dX12_atom_20 ?_
    refine B_putI dX12_atom_21 fl_X12_126 fw_X12_10 shM_0 rfl ?_
    refine B_aload_n dX12_atom_24 rfl rfl ?_
    refine B_getR dX12_atom_25 fl_X12_20 shM_0 rfl (rfM_0_4 _) ?_
    refine B_iload_n dX12_atom_28 rfl rfl ?_
    refine C_chk (fun q16 => ?_)
    refine L_iald dX12_atom_29 shM_4 q16 rfl ?_
    exact B_ireturn dX12_atom_30 rfl rfl
def f_X12_term_J87 (rc_X12_atom : dH → Option (Int32 × dH)) (rc_X12_term : dH → Option (Int32 × dH)) (rc_X12_sum : dH → Option (Int32 × dH)) (kL5 : Int32 → dH → Option (Int32 × dH)) (z0 : Int64) (h : dH) : Option (Int32 × dH) :=
  (some ((f_X12_within z0 h))).bind fun v20 =>
  kL5 v20 h
set_option maxRecDepth 20000 in
set_option maxHeartbeats 4000000 in
theorem b_X12_term_J87 {Dr : Nat} {rc_X12_atom : dH → Option (Int32 × dH)} {rc_X12_term : dH → Option (Int32 × dH)} {rc_X12_sum : dH → Option (Int32 × dH)} {kL5 : Int32 → dH → Option (Int32 × dH)} (hDr : 8 ≤ Dr) (hrc_X12_atom : ∀ (h : dH), T XM Dr yX12_atom cX12_atom 4 (some .int) fiI [.ref 0] h (rc_X12_atom h)) (hrc_X12_term : ∀ (h : dH), T XM Dr yX12_term cX12_term 5 (some .int) fiI [.ref 0] h (rc_X12_term h)) (hrc_X12_sum : ∀ (h : dH), T XM Dr yX12_sum cX12_sum 5 (some .int) fiI [.ref 0] h (rc_X12_sum h)) (hkL5 : ∀ (y1 : Int32) (h : dH), B XM (Dr + 1) RX12 cX12_term 5 (some .int) fiI 5 [.ref 0, .int y1, .null, .null, .null] [] h (kL5 y1 h)) (z0 : Int64) (h : dH) : B XM (Dr + 1) RX12 cX12_term 5 (some .int) fiI 87 [.ref 0, .null, .null, .null, .null] [.long z0] h (f_X12_term_J87 rc_X12_atom rc_X12_term rc_X12_sum kL5 z0 h) := by
  unfold f_X12_term_J87
  refine B_St (st := []) dX12_term_87 cl_X12_181 (t_X12_within z0 h) (by omega) rfl rfl (Nat.le_of_ble_eq_true rfl) ?_
  refine B_lv (fun v20 => ?_)
  refine B_istore_n (ls' := [.ref 0, .int v20, .null, .null, .null]) dX12_term_90 rfl (Nat.le_of_ble_eq_true rfl) rfl rfl ?_
  refine B_goto (tgt := 5) dX12_term_91 (by decide) ?_
  exact hkL5 v20  h
def f_X12_term_J45 (rc_X12_atom : dH → Option (Int32 × dH)) (rc_X12_term : dH → Option (Int32 × dH)) (rc_X12_sum : dH → Option (Int32 × dH)) (kL5 : Int32 → dH → Option (Int32 × dH)) (y1 : Int32) (z0 : Bool) (h : dH) : Option (Int32 × dH) :=
  (some (dPut h 0 10 ((h.1 0 10) + 1))).bind fun h13 =>
  (rc_X12_atom h13).bind fun rv14 =>
  (some ((rv14.1 : Int32).toInt64)).bind fun v16 =>
  if z0 then
  f_X12_term_J87 rc_X12_atom rc_X12_term rc_X12_sum kL5 ((y1 : Int32).toInt64 * v16) rv14.2
  else
  if (lg_cmp v16 0) = 0 then
  f_X12_term_J87 rc_X12_atom rc_X12_term rc_X12_sum kL5 0 rv14.2
  else
  if ¬ v16 = 0 then
  f_X12_term_J87 rc_X12_atom rc_X12_term rc_X12_sum kL5 ((y1 : Int32).toInt64 / v16) rv14.2
  else none
set_option maxRecDepth 20000 in
set_option maxHeartbeats 4000000 in
theorem b_X12_term_J45 {Dr : Nat} {rc_X12_atom : dH → Option (Int32 × dH)} {rc_X12_term : dH → Option (Int32 × dH)} {rc_X12_sum : dH → Option (Int32 × dH)} {kL5 : Int32 → dH → Option (Int32 × dH)} (hDr : 8 ≤ Dr) (hrc_X12_atom : ∀ (h : dH), T XM Dr yX12_atom cX12_atom 4 (some .int) fiI [.ref 0] h (rc_X12_atom h)) (hrc_X12_term : ∀ (h : dH), T XM Dr yX12_term cX12_term 5 (some .int) fiI [.ref 0] h (rc_X12_term h)) (hrc_X12_sum : ∀ (h : dH), T XM Dr yX12_sum cX12_sum 5 (some .int) fiI [.ref 0] h (rc_X12_sum h)) (hkL5 : ∀ (y1 : Int32) (h : dH), B XM (Dr + 1) RX12 cX12_term 5 (some .int) fiI 5 [.ref 0, .int y1, .null, .null, .null] [] h (kL5 y1 h)) (y1 : Int32) (z0 : Bool) (h : dH) : B XM (Dr + 1) RX12 cX12_term 5 (some .int) fiI 45 [.ref 0, .int y1, .null, .null, .null] [.int (bi z0)] h (f_X12_term_J45 rc_X12_atom rc_X12_term rc_X12_sum kL5 y1 z0 h) := by
  unfold f_X12_term_J45
  refine B_istore_n (ls' := [.ref 0, .int y1, .int (bi z0), .null, .null]) dX12_term_45 rfl (Nat.le_of_ble_eq_true rfl) rfl rfl ?_
  refine B_aload_n dX12_term_46 rfl rfl ?_
  refine B_dup dX12_term_47 rfl ?_
  refine B_getI dX12_term_48 fl_X12_126 shM_0 rfl ?_
  refine B_iconst dX12_term_51 ic_1 ?_
  refine B_iadd dX12_term_52 ?_
  refine B_putI dX12_term_53 fl_X12_126 fw_X12_10 shM_0 rfl ?_
  refine B_lh (fun h13 => ?_)
  refine B_aload_n dX12_term_56 rfl rfl ?_
  refine B_VI (st := []) dX12_term_57 cl_X12_178 (hrc_X12_atom h13) (by omega) shM_0 rfl rfl (Nat.le_of_ble_eq_true rfl) (fun v14 h15 _ => ?_)
  refine B_i2l dX12_term_60 ?_
  refine B_lj (fun v16 => ?_)
  refine B_lstore_n (ls' := [.ref 0, .int y1, .int (bi z0), .long v16, .null]) dX12_term_61 rfl (Nat.le_of_ble_eq_true rfl) rfl rfl ?_
  refine B_iload_n dX12_term_62 rfl rfl ?_
  refine C_ifb_eq (tgt := 73) dX12_term_63 (by decide) (fun q19 => ?_) (fun q19 => ?_)
  · refine B_lload_n dX12_term_73 rfl rfl ?_
    refine B_lconst (v := 0) dX12_term_74 (by decide) ?_
    refine B_lcmp dX12_term_75 ?_
    refine C_if_ne (tgt := 83) dX12_term_76 (by decide) (fun q18 => ?_) (fun q18 => ?_)
    · refine B_iload_n dX12_term_83 rfl rfl ?_
      refine B_i2l dX12_term_84 ?_
      refine B_lload_n dX12_term_85 rfl rfl ?_
      refine C_chk (fun q17 => ?_)
      refine B_ldiv dX12_term_86 q17 ?_
      refine B_drop 1 (ls' := [.ref 0, .null, .int (bi z0), .long v16, .null]) rfl ?_
      refine B_drop 2 (ls' := [.ref 0, .null, .null, .long v16, .null]) rfl ?_
      refine B_drop 3 (ls' := [.ref 0, .null, .null, .null, .null]) rfl ?_
      exact b_X12_term_J87 hDr hrc_X12_atom hrc_X12_term hrc_X12_sum hkL5 ((y1 : Int32).toInt64 / v16) h15
    · refine B_lconst (v := 0) dX12_term_79 (by decide) ?_
      refine B_goto (tgt := 87) dX12_term_80 (by decide) ?_
      refine B_drop 1 (ls' := [.ref 0, .null, .int (bi z0), .long v16, .null]) rfl ?_
      refine B_drop 2 (ls' := [.ref 0, .null, .null, .long v16, .null]) rfl ?_
      refine B_drop 3 (ls' := [.ref 0, .null, .null, .null, .null]) rfl ?_
      exact b_X12_term_J87 hDr hrc_X12_atom hrc_X12_term hrc_X12_sum hkL5 0 h15
  · refine B_iload_n dX12_term_66 rfl rfl ?_
    refine B_i2l dX12_term_67 ?_
    refine B_lload_n dX12_term_68 rfl rfl ?_
    refine B_lmul dX12_term_69 ?_
    refine B_goto (tgt := 87) dX12_term_70 (by decide) ?_
    refine B_drop 1 (ls' := [.ref 0, .null, .int (bi z0), .long v16, .null]) rfl ?_
    refine B_drop 2 (ls' := [.ref 0, .null, .null, .long v16, .null]) rfl ?_
    refine B_drop 3 (ls' := [.ref 0, .null, .null, .null, .null]) rfl ?_
    exact b_X12_term_J87 hDr hrc_X12_atom hrc_X12_term hrc_X12_sum hkL5 ((y1 : Int32).toInt64 * v16) h15
def f_X12_term_J31 (rc_X12_atom : dH → Option (Int32 × dH)) (rc_X12_term : dH → Option (Int32 × dH)) (rc_X12_sum : dH → Option (Int32 × dH)) (kL5 : Int32 → dH → Option (Int32 × dH)) (y1 : Int32) (h : dH) : Option (Int32 × dH) :=
  (f_X12_look h).bind fun rv10 =>
  if rv10.1 = 42 then
  f_X12_term_J45 rc_X12_atom rc_X12_term rc_X12_sum kL5 y1 true rv10.2
  else
  f_X12_term_J45 rc_X12_atom rc_X12_term rc_X12_sum kL5 y1 false rv10.2
set_option maxRecDepth 20000 in
set_option maxHeartbeats 4000000 in
theorem b_X12_term_J31 {Dr : Nat} {rc_X12_atom : dH → Option (Int32 × dH)} {rc_X12_term : dH → Option (Int32 × dH)} {rc_X12_sum : dH → Option (Int32 × dH)} {kL5 : Int32 → dH → Option (Int32 × dH)} (hDr : 8 ≤ Dr) (hrc_X12_atom : ∀ (h : dH), T XM Dr yX12_atom cX12_atom 4 (some .int) fiI [.ref 0] h (rc_X12_atom h)) (hrc_X12_term : ∀ (h : dH), T XM Dr yX12_term cX12_term 5 (some .int) fiI [.ref 0] h (rc_X12_term h)) (hrc_X12_sum : ∀ (h : dH), T XM Dr yX12_sum cX12_sum 5 (some .int) fiI [.ref 0] h (rc_X12_sum h)) (hkL5 : ∀ (y1 : Int32) (h : dH), B XM (Dr + 1) RX12 cX12_term 5 (some .int) fiI 5 [.ref 0, .int y1, .null, .null, .null] [] h (kL5 y1 h)) (y1 : Int32) (h : dH) : B XM (Dr + 1) RX12 cX12_term 5 (some .int) fiI 31 [.ref 0, .int y1, .null, .null, .null] [] h (f_X12_term_J31 rc_X12_atom rc_X12_term rc_X12_sum kL5 y1 h) := by
  unfold f_X12_term_J31
  refine B_aload_n dX12_term_31 rfl rfl ?_
  refine B_VI (st := []) dX12_term_32 cl_X12_145 (t_X12_look h) (by omega) shM_0 rfl rfl (Nat.le_of_ble_eq_true rfl) (fun v10 h11 _ => ?_)
  refine B_bipush dX12_term_35 bp_42 ?_
  refine C_icmp_ne (tgt := 44) dX12_term_37 (by decide) (fun q12 => ?_) (fun q12 => ?_)
  · refine B_iconst dX12_term_44 ic_0 ?_
    exact b_X12_term_J45 hDr hrc_X12_atom hrc_X12_term hrc_X12_sum hkL5 y1 false h11
  · refine B_iconst dX12_term_40 ic_1 ?_
    refine B_goto (tgt := 45) dX12_term_41 (by decide) ?_
    exact b_X12_term_J45 hDr hrc_X12_atom hrc_X12_term hrc_X12_sum hkL5 y1 true h11
def f_X12_term_L5 (rc_X12_atom : dH → Option (Int32 × dH)) (rc_X12_term : dH → Option (Int32 × dH)) (rc_X12_sum : dH → Option (Int32 × dH)) : Nat → Int32 → dH → Option (Int32 × dH)
  | 0, _, _ => none
  | n + 1, y1, h =>
    if (h.1 0 11) = (-1) then
    (f_X12_look h).bind fun rv3 =>
    if rv3.1 = 42 then
    f_X12_term_J31 rc_X12_atom rc_X12_term rc_X12_sum (f_X12_term_L5 rc_X12_atom rc_X12_term rc_X12_sum n) y1 rv3.2
    else
    (f_X12_look rv3.2).bind fun rv5 =>
    if rv5.1 = 47 then
    f_X12_term_J31 rc_X12_atom rc_X12_term rc_X12_sum (f_X12_term_L5 rc_X12_atom rc_X12_term rc_X12_sum n) y1 rv5.2
    else
    some (y1, rv5.2)
    else
    some (y1, h)
set_option maxRecDepth 20000 in
set_option maxHeartbeats 4000000 in
theorem b_X12_term_L5 {Dr : Nat} {rc_X12_atom : dH → Option (Int32 × dH)} {rc_X12_term : dH → Option (Int32 × dH)} {rc_X12_sum : dH → Option (Int32 × dH)} (hDr : 8 ≤ Dr) (hrc_X12_atom : ∀ (h : dH), T XM Dr yX12_atom cX12_atom 4 (some .int) fiI [.ref 0] h (rc_X12_atom h)) (hrc_X12_term : ∀ (h : dH), T XM Dr yX12_term cX12_term 5 (some .int) fiI [.ref 0] h (rc_X12_term h)) (hrc_X12_sum : ∀ (h : dH), T XM Dr yX12_sum cX12_sum 5 (some .int) fiI [.ref 0] h (rc_X12_sum h)) : ∀ (n : Nat) (y1 : Int32) (h : dH), B XM (Dr + 1) RX12 cX12_term 5 (some .int) fiI 5 [.ref 0, .int y1, .null, .null, .null] [] h (f_X12_term_L5 rc_X12_atom rc_X12_term rc_X12_sum n y1 h) := by
  intro n
  induction n with
  | zero =>
    intro y1 h
    exact B_none
  | succ n ih =>
    intro y1 h
    rw [f_X12_term_L5]
    refine B_aload_n dX12_term_5 rfl rfl ?_
    refine B_getI dX12_term_6 fl_X12_135 shM_0 rfl ?_
    refine B_iconst dX12_term_9 ic_m1 ?_
    refine C_icmp_ne (tgt := 94) dX12_term_10 (by decide) (fun q9 => ?_) (fun q9 => ?_)
    · refine B_iload_n dX12_term_94 rfl rfl ?_
      exact B_ireturn dX12_term_95 rfl rfl
    · refine B_aload_n dX12_term_13 rfl rfl ?_
      refine B_VI (st := []) dX12_term_14 cl_X12_145 (t_X12_look h) (by omega) shM_0 rfl rfl (Nat.le_of_ble_eq_true rfl) (fun v3 h4 _ => ?_)
      refine B_bipush dX12_term_17 bp_42 ?_
      refine C_icmp_eq (tgt := 31) dX12_term_19 (by decide) (fun q8 => ?_) (fun q8 => ?_)
      · exact b_X12_term_J31 hDr hrc_X12_atom hrc_X12_term hrc_X12_sum (fun qy1 qh => ih qy1 qh) y1 h4
      · refine B_aload_n dX12_term_22 rfl rfl ?_
        refine B_VI (st := []) dX12_term_23 cl_X12_145 (t_X12_look h4) (by omega) shM_0 rfl rfl (Nat.le_of_ble_eq_true rfl) (fun v5 h6 _ => ?_)
        refine B_bipush dX12_term_26 bp_47 ?_
        refine C_icmp_ne (tgt := 94) dX12_term_28 (by decide) (fun q7 => ?_) (fun q7 => ?_)
        · refine B_iload_n dX12_term_94 rfl rfl ?_
          exact B_ireturn dX12_term_95 rfl rfl
        · exact b_X12_term_J31 hDr hrc_X12_atom hrc_X12_term hrc_X12_sum (fun qy1 qh => ih qy1 qh) y1 h6
def f_X12_term (rc_X12_atom : dH → Option (Int32 × dH)) (rc_X12_term : dH → Option (Int32 × dH)) (rc_X12_sum : dH → Option (Int32 × dH)) (h : dH) : Option (Int32 × dH) :=
  (rc_X12_atom h).bind fun rv1 =>
  f_X12_term_L5 rc_X12_atom rc_X12_term rc_X12_sum dFu rv1.1 rv1.2
set_option maxRecDepth 20000 in
set_option maxHeartbeats 4000000 in
theorem t_X12_term {Dr : Nat} {rc_X12_atom : dH → Option (Int32 × dH)} {rc_X12_term : dH → Option (Int32 × dH)} {rc_X12_sum : dH → Option (Int32 × dH)} (hDr : 8 ≤ Dr) (hrc_X12_atom : ∀ (h : dH), T XM Dr yX12_atom cX12_atom 4 (some .int) fiI [.ref 0] h (rc_X12_atom h)) (hrc_X12_term : ∀ (h : dH), T XM Dr yX12_term cX12_term 5 (some .int) fiI [.ref 0] h (rc_X12_term h)) (hrc_X12_sum : ∀ (h : dH), T XM Dr yX12_sum cX12_sum 5 (some .int) fiI [.ref 0] h (rc_X12_sum h)) (h : dH) : T XM (Dr + 1) yX12_term cX12_term 5 (some .int) fiI [.ref 0] h (f_X12_term rc_X12_atom rc_X12_term rc_X12_sum h) := by
  refine T_of [.ref 0, .null, .null, .null, .null] (by decide) (fun _ => rfl) (fun _ => Nat.le_of_ble_eq_true rfl) ?_
  show B XM (Dr + 1) RX12 cX12_term 5 (some .int) fiI 0 [.ref 0, .null, .null, .null, .null] [] h (f_X12_term rc_X12_atom rc_X12_term rc_X12_sum h)
  unfold f_X12_term
  refine B_aload_n dX12_term_0 rfl rfl ?_
  refine B_VI (st := []) dX12_term_1 cl_X12_178 (hrc_X12_atom h) (by omega) shM_0 rfl rfl (Nat.le_of_ble_eq_true rfl) (fun v1 h2 _ => ?_)
  refine B_istore_n (ls' := [.ref 0, .int v1, .null, .null, .null]) dX12_term_4 rfl (Nat.le_of_ble_eq_true rfl) rfl rfl ?_
  exact b_X12_term_L5 hDr hrc_X12_atom hrc_X12_term hrc_X12_sum dFu v1 h2
def f_X12_sum_J77 (rc_X12_atom : dH → Option (Int32 × dH)) (rc_X12_term : dH → Option (Int32 × dH)) (rc_X12_sum : dH → Option (Int32 × dH)) (kL5 : Int32 → dH → Option (Int32 × dH)) (z0 : Int64) (h : dH) : Option (Int32 × dH) :=
  (some ((f_X12_within z0 h))).bind fun v18 =>
  kL5 v18 h
set_option maxRecDepth 20000 in
set_option maxHeartbeats 4000000 in
theorem b_X12_sum_J77 {Dr : Nat} {rc_X12_atom : dH → Option (Int32 × dH)} {rc_X12_term : dH → Option (Int32 × dH)} {rc_X12_sum : dH → Option (Int32 × dH)} {kL5 : Int32 → dH → Option (Int32 × dH)} (hDr : 8 ≤ Dr) (hrc_X12_atom : ∀ (h : dH), T XM Dr yX12_atom cX12_atom 4 (some .int) fiI [.ref 0] h (rc_X12_atom h)) (hrc_X12_term : ∀ (h : dH), T XM Dr yX12_term cX12_term 5 (some .int) fiI [.ref 0] h (rc_X12_term h)) (hrc_X12_sum : ∀ (h : dH), T XM Dr yX12_sum cX12_sum 5 (some .int) fiI [.ref 0] h (rc_X12_sum h)) (hkL5 : ∀ (y1 : Int32) (h : dH), B XM (Dr + 1) RX12 cX12_sum 5 (some .int) fiI 5 [.ref 0, .int y1, .null, .null, .null] [] h (kL5 y1 h)) (z0 : Int64) (h : dH) : B XM (Dr + 1) RX12 cX12_sum 5 (some .int) fiI 77 [.ref 0, .null, .null, .null, .null] [.long z0] h (f_X12_sum_J77 rc_X12_atom rc_X12_term rc_X12_sum kL5 z0 h) := by
  unfold f_X12_sum_J77
  refine B_St (st := []) dX12_sum_77 cl_X12_181 (t_X12_within z0 h) (by omega) rfl rfl (Nat.le_of_ble_eq_true rfl) ?_
  refine B_lv (fun v18 => ?_)
  refine B_istore_n (ls' := [.ref 0, .int v18, .null, .null, .null]) dX12_sum_80 rfl (Nat.le_of_ble_eq_true rfl) rfl rfl ?_
  refine B_goto (tgt := 5) dX12_sum_81 (by decide) ?_
  exact hkL5 v18  h
def f_X12_sum_J45 (rc_X12_atom : dH → Option (Int32 × dH)) (rc_X12_term : dH → Option (Int32 × dH)) (rc_X12_sum : dH → Option (Int32 × dH)) (kL5 : Int32 → dH → Option (Int32 × dH)) (y1 : Int32) (z0 : Bool) (h : dH) : Option (Int32 × dH) :=
  (some (dPut h 0 10 ((h.1 0 10) + 1))).bind fun h13 =>
  (rc_X12_term h13).bind fun rv14 =>
  (some ((rv14.1 : Int32).toInt64)).bind fun v16 =>
  if z0 then
  f_X12_sum_J77 rc_X12_atom rc_X12_term rc_X12_sum kL5 ((y1 : Int32).toInt64 + v16) rv14.2
  else
  f_X12_sum_J77 rc_X12_atom rc_X12_term rc_X12_sum kL5 ((y1 : Int32).toInt64 - v16) rv14.2
set_option maxRecDepth 20000 in
set_option maxHeartbeats 4000000 in
theorem b_X12_sum_J45 {Dr : Nat} {rc_X12_atom : dH → Option (Int32 × dH)} {rc_X12_term : dH → Option (Int32 × dH)} {rc_X12_sum : dH → Option (Int32 × dH)} {kL5 : Int32 → dH → Option (Int32 × dH)} (hDr : 8 ≤ Dr) (hrc_X12_atom : ∀ (h : dH), T XM Dr yX12_atom cX12_atom 4 (some .int) fiI [.ref 0] h (rc_X12_atom h)) (hrc_X12_term : ∀ (h : dH), T XM Dr yX12_term cX12_term 5 (some .int) fiI [.ref 0] h (rc_X12_term h)) (hrc_X12_sum : ∀ (h : dH), T XM Dr yX12_sum cX12_sum 5 (some .int) fiI [.ref 0] h (rc_X12_sum h)) (hkL5 : ∀ (y1 : Int32) (h : dH), B XM (Dr + 1) RX12 cX12_sum 5 (some .int) fiI 5 [.ref 0, .int y1, .null, .null, .null] [] h (kL5 y1 h)) (y1 : Int32) (z0 : Bool) (h : dH) : B XM (Dr + 1) RX12 cX12_sum 5 (some .int) fiI 45 [.ref 0, .int y1, .null, .null, .null] [.int (bi z0)] h (f_X12_sum_J45 rc_X12_atom rc_X12_term rc_X12_sum kL5 y1 z0 h) := by
  unfold f_X12_sum_J45
  refine B_istore_n (ls' := [.ref 0, .int y1, .int (bi z0), .null, .null]) dX12_sum_45 rfl (Nat.le_of_ble_eq_true rfl) rfl rfl ?_
  refine B_aload_n dX12_sum_46 rfl rfl ?_
  refine B_dup dX12_sum_47 rfl ?_
  refine B_getI dX12_sum_48 fl_X12_126 shM_0 rfl ?_
  refine B_iconst dX12_sum_51 ic_1 ?_
  refine B_iadd dX12_sum_52 ?_
  refine B_putI dX12_sum_53 fl_X12_126 fw_X12_10 shM_0 rfl ?_
  refine B_lh (fun h13 => ?_)
  refine B_aload_n dX12_sum_56 rfl rfl ?_
  refine B_VI (st := []) dX12_sum_57 cl_X12_185 (hrc_X12_term h13) (by omega) shM_0 rfl rfl (Nat.le_of_ble_eq_true rfl) (fun v14 h15 _ => ?_)
  refine B_i2l dX12_sum_60 ?_
  refine B_lj (fun v16 => ?_)
  refine B_lstore_n (ls' := [.ref 0, .int y1, .int (bi z0), .long v16, .null]) dX12_sum_61 rfl (Nat.le_of_ble_eq_true rfl) rfl rfl ?_
  refine B_iload_n dX12_sum_62 rfl rfl ?_
  refine C_ifb_eq (tgt := 73) dX12_sum_63 (by decide) (fun q17 => ?_) (fun q17 => ?_)
  · refine B_iload_n dX12_sum_73 rfl rfl ?_
    refine B_i2l dX12_sum_74 ?_
    refine B_lload_n dX12_sum_75 rfl rfl ?_
    refine B_lsub dX12_sum_76 ?_
    refine B_drop 1 (ls' := [.ref 0, .null, .int (bi z0), .long v16, .null]) rfl ?_
    refine B_drop 2 (ls' := [.ref 0, .null, .null, .long v16, .null]) rfl ?_
    refine B_drop 3 (ls' := [.ref 0, .null, .null, .null, .null]) rfl ?_
    exact b_X12_sum_J77 hDr hrc_X12_atom hrc_X12_term hrc_X12_sum hkL5 ((y1 : Int32).toInt64 - v16) h15
  · refine B_iload_n dX12_sum_66 rfl rfl ?_
    refine B_i2l dX12_sum_67 ?_
    refine B_lload_n dX12_sum_68 rfl rfl ?_
    refine B_ladd dX12_sum_69 ?_
    refine B_goto (tgt := 77) dX12_sum_70 (by decide) ?_
    refine B_drop 1 (ls' := [.ref 0, .null, .int (bi z0), .long v16, .null]) rfl ?_
    refine B_drop 2 (ls' := [.ref 0, .null, .null, .long v16, .null]) rfl ?_
    refine B_drop 3 (ls' := [.ref 0, .null, .null, .null, .null]) rfl ?_
    exact b_X12_sum_J77 hDr hrc_X12_atom hrc_X12_term hrc_X12_sum hkL5 ((y1 : Int32).toInt64 + v16) h15
def f_X12_sum_J31 (rc_X12_atom : dH → Option (Int32 × dH)) (rc_X12_term : dH → Option (Int32 × dH)) (rc_X12_sum : dH → Option (Int32 × dH)) (kL5 : Int32 → dH → Option (Int32 × dH)) (y1 : Int32) (h : dH) : Option (Int32 × dH) :=
  (f_X12_look h).bind fun rv10 =>
  if rv10.1 = 43 then
  f_X12_sum_J45 rc_X12_atom rc_X12_term rc_X12_sum kL5 y1 true rv10.2
  else
  f_X12_sum_J45 rc_X12_atom rc_X12_term rc_X12_sum kL5 y1 false rv10.2
set_option maxRecDepth 20000 in
set_option maxHeartbeats 4000000 in
theorem b_X12_sum_J31 {Dr : Nat} {rc_X12_atom : dH → Option (Int32 × dH)} {rc_X12_term : dH → Option (Int32 × dH)} {rc_X12_sum : dH → Option (Int32 × dH)} {kL5 : Int32 → dH → Option (Int32 × dH)} (hDr : 8 ≤ Dr) (hrc_X12_atom : ∀ (h : dH), T XM Dr yX12_atom cX12_atom 4 (some .int) fiI [.ref 0] h (rc_X12_atom h)) (hrc_X12_term : ∀ (h : dH), T XM Dr yX12_term cX12_term 5 (some .int) fiI [.ref 0] h (rc_X12_term h)) (hrc_X12_sum : ∀ (h : dH), T XM Dr yX12_sum cX12_sum 5 (some .int) fiI [.ref 0] h (rc_X12_sum h)) (hkL5 : ∀ (y1 : Int32) (h : dH), B XM (Dr + 1) RX12 cX12_sum 5 (some .int) fiI 5 [.ref 0, .int y1, .null, .null, .null] [] h (kL5 y1 h)) (y1 : Int32) (h : dH) : B XM (Dr + 1) RX12 cX12_sum 5 (some .int) fiI 31 [.ref 0, .int y1, .null, .null, .null] [] h (f_X12_sum_J31 rc_X12_atom rc_X12_term rc_X12_sum kL5 y1 h) := by
  unfold f_X12_sum_J31
  refine B_aload_n dX12_sum_31 rfl rfl ?_
  refine B_VI (st := []) dX12_sum_32 cl_X12_145 (t_X12_look h) (by omega) shM_0 rfl rfl (Nat.le_of_ble_eq_true rfl) (fun v10 h11 _ => ?_)
  refine B_bipush dX12_sum_35 bp_43 ?_
  refine C_icmp_ne (tgt := 44) dX12_sum_37 (by decide) (fun q12 => ?_) (fun q12 => ?_)
  · refine B_iconst dX12_sum_44 ic_0 ?_
    exact b_X12_sum_J45 hDr hrc_X12_atom hrc_X12_term hrc_X12_sum hkL5 y1 false h11
  · refine B_iconst dX12_sum_40 ic_1 ?_
    refine B_goto (tgt := 45) dX12_sum_41 (by decide) ?_
    exact b_X12_sum_J45 hDr hrc_X12_atom hrc_X12_term hrc_X12_sum hkL5 y1 true h11
def f_X12_sum_L5 (rc_X12_atom : dH → Option (Int32 × dH)) (rc_X12_term : dH → Option (Int32 × dH)) (rc_X12_sum : dH → Option (Int32 × dH)) : Nat → Int32 → dH → Option (Int32 × dH)
  | 0, _, _ => none
  | n + 1, y1, h =>
    if (h.1 0 11) = (-1) then
    (f_X12_look h).bind fun rv3 =>
    if rv3.1 = 43 then
    f_X12_sum_J31 rc_X12_atom rc_X12_term rc_X12_sum (f_X12_sum_L5 rc_X12_atom rc_X12_term rc_X12_sum n) y1 rv3.2
    else
    (f_X12_look rv3.2).bind fun rv5 =>
    if rv5.1 = 45 then
    f_X12_sum_J31 rc_X12_atom rc_X12_term rc_X12_sum (f_X12_sum_L5 rc_X12_atom rc_X12_term rc_X12_sum n) y1 rv5.2
    else
    some (y1, rv5.2)
    else
    some (y1, h)
set_option maxRecDepth 20000 in
set_option maxHeartbeats 4000000 in
theorem b_X12_sum_L5 {Dr : Nat} {rc_X12_atom : dH → Option (Int32 × dH)} {rc_X12_term : dH → Option (Int32 × dH)} {rc_X12_sum : dH → Option (Int32 × dH)} (hDr : 8 ≤ Dr) (hrc_X12_atom : ∀ (h : dH), T XM Dr yX12_atom cX12_atom 4 (some .int) fiI [.ref 0] h (rc_X12_atom h)) (hrc_X12_term : ∀ (h : dH), T XM Dr yX12_term cX12_term 5 (some .int) fiI [.ref 0] h (rc_X12_term h)) (hrc_X12_sum : ∀ (h : dH), T XM Dr yX12_sum cX12_sum 5 (some .int) fiI [.ref 0] h (rc_X12_sum h)) : ∀ (n : Nat) (y1 : Int32) (h : dH), B XM (Dr + 1) RX12 cX12_sum 5 (some .int) fiI 5 [.ref 0, .int y1, .null, .null, .null] [] h (f_X12_sum_L5 rc_X12_atom rc_X12_term rc_X12_sum n y1 h) := by
  intro n
  induction n with
  | zero =>
    intro y1 h
    exact B_none
  | succ n ih =>
    intro y1 h
    rw [f_X12_sum_L5]
    refine B_aload_n dX12_sum_5 rfl rfl ?_
    refine B_getI dX12_sum_6 fl_X12_135 shM_0 rfl ?_
    refine B_iconst dX12_sum_9 ic_m1 ?_
    refine C_icmp_ne (tgt := 84) dX12_sum_10 (by decide) (fun q9 => ?_) (fun q9 => ?_)
    · refine B_iload_n dX12_sum_84 rfl rfl ?_
      exact B_ireturn dX12_sum_85 rfl rfl
    · refine B_aload_n dX12_sum_13 rfl rfl ?_
      refine B_VI (st := []) dX12_sum_14 cl_X12_145 (t_X12_look h) (by omega) shM_0 rfl rfl (Nat.le_of_ble_eq_true rfl) (fun v3 h4 _ => ?_)
      refine B_bipush dX12_sum_17 bp_43 ?_
      refine C_icmp_eq (tgt := 31) dX12_sum_19 (by decide) (fun q8 => ?_) (fun q8 => ?_)
      · exact b_X12_sum_J31 hDr hrc_X12_atom hrc_X12_term hrc_X12_sum (fun qy1 qh => ih qy1 qh) y1 h4
      · refine B_aload_n dX12_sum_22 rfl rfl ?_
        refine B_VI (st := []) dX12_sum_23 cl_X12_145 (t_X12_look h4) (by omega) shM_0 rfl rfl (Nat.le_of_ble_eq_true rfl) (fun v5 h6 _ => ?_)
        refine B_bipush dX12_sum_26 bp_45 ?_
        refine C_icmp_ne (tgt := 84) dX12_sum_28 (by decide) (fun q7 => ?_) (fun q7 => ?_)
        · refine B_iload_n dX12_sum_84 rfl rfl ?_
          exact B_ireturn dX12_sum_85 rfl rfl
        · exact b_X12_sum_J31 hDr hrc_X12_atom hrc_X12_term hrc_X12_sum (fun qy1 qh => ih qy1 qh) y1 h6
def f_X12_sum (rc_X12_atom : dH → Option (Int32 × dH)) (rc_X12_term : dH → Option (Int32 × dH)) (rc_X12_sum : dH → Option (Int32 × dH)) (h : dH) : Option (Int32 × dH) :=
  (rc_X12_term h).bind fun rv1 =>
  f_X12_sum_L5 rc_X12_atom rc_X12_term rc_X12_sum dFu rv1.1 rv1.2
set_option maxRecDepth 20000 in
set_option maxHeartbeats 4000000 in
theorem t_X12_sum {Dr : Nat} {rc_X12_atom : dH → Option (Int32 × dH)} {rc_X12_term : dH → Option (Int32 × dH)} {rc_X12_sum : dH → Option (Int32 × dH)} (hDr : 8 ≤ Dr) (hrc_X12_atom : ∀ (h : dH), T XM Dr yX12_atom cX12_atom 4 (some .int) fiI [.ref 0] h (rc_X12_atom h)) (hrc_X12_term : ∀ (h : dH), T XM Dr yX12_term cX12_term 5 (some .int) fiI [.ref 0] h (rc_X12_term h)) (hrc_X12_sum : ∀ (h : dH), T XM Dr yX12_sum cX12_sum 5 (some .int) fiI [.ref 0] h (rc_X12_sum h)) (h : dH) : T XM (Dr + 1) yX12_sum cX12_sum 5 (some .int) fiI [.ref 0] h (f_X12_sum rc_X12_atom rc_X12_term rc_X12_sum h) := by
  refine T_of [.ref 0, .null, .null, .null, .null] (by decide) (fun _ => rfl) (fun _ => Nat.le_of_ble_eq_true rfl) ?_
  show B XM (Dr + 1) RX12 cX12_sum 5 (some .int) fiI 0 [.ref 0, .null, .null, .null, .null] [] h (f_X12_sum rc_X12_atom rc_X12_term rc_X12_sum h)
  unfold f_X12_sum
  refine B_aload_n dX12_sum_0 rfl rfl ?_
  refine B_VI (st := []) dX12_sum_1 cl_X12_185 (hrc_X12_term h) (by omega) shM_0 rfl rfl (Nat.le_of_ble_eq_true rfl) (fun v1 h2 _ => ?_)
  refine B_istore_n (ls' := [.ref 0, .int v1, .null, .null, .null]) dX12_sum_4 rfl (Nat.le_of_ble_eq_true rfl) rfl rfl ?_
  exact b_X12_sum_L5 hDr hrc_X12_atom hrc_X12_term hrc_X12_sum dFu v1 h2
def g_X12_atom : Nat → (dH → Option (Int32 × dH)) × (dH → Option (Int32 × dH)) × (dH → Option (Int32 × dH))
  | 0 => (fun _ => none, fun _ => none, fun _ => none)
  | n + 1 => (f_X12_atom (g_X12_atom n).1 (g_X12_atom n).2.1 (g_X12_atom n).2.2, f_X12_term (g_X12_atom n).1 (g_X12_atom n).2.1 (g_X12_atom n).2.2, f_X12_sum (g_X12_atom n).1 (g_X12_atom n).2.1 (g_X12_atom n).2.2)
def r_X12_atom (n : Nat) : dH → Option (Int32 × dH) := (g_X12_atom n).1
def r_X12_term (n : Nat) : dH → Option (Int32 × dH) := (g_X12_atom n).2.1
def r_X12_sum (n : Nat) : dH → Option (Int32 × dH) := (g_X12_atom n).2.2
set_option maxRecDepth 20000 in
set_option maxHeartbeats 4000000 in
theorem t_g_X12_atom : ∀ n : Nat, (∀ (h : dH), T XM (8 + n) yX12_atom cX12_atom 4 (some .int) fiI [.ref 0] h (r_X12_atom n h)) ∧ (∀ (h : dH), T XM (8 + n) yX12_term cX12_term 5 (some .int) fiI [.ref 0] h (r_X12_term n h)) ∧ (∀ (h : dH), T XM (8 + n) yX12_sum cX12_sum 5 (some .int) fiI [.ref 0] h (r_X12_sum n h)) := by
  intro n
  induction n with
  | zero =>
    exact ⟨fun _ => T_none, fun _ => T_none, fun _ => T_none⟩
  | succ n ih =>
    exact ⟨fun h => (t_X12_atom (Nat.le_add_right 8 n) ih.1 ih.2.1 ih.2.2 h : T _ (8 + n + 1) _ _ _ _ _ _ _ _), fun h => (t_X12_term (Nat.le_add_right 8 n) ih.1 ih.2.1 ih.2.2 h : T _ (8 + n + 1) _ _ _ _ _ _ _ _), fun h => (t_X12_sum (Nat.le_add_right 8 n) ih.1 ih.2.1 ih.2.2 h : T _ (8 + n + 1) _ _ _ _ _ _ _ _)⟩
theorem t_X12_atom_r : ∀ (h : dH), T XM 38 yX12_atom cX12_atom 4 (some .int) fiI [.ref 0] h (r_X12_atom 30 h) := (t_g_X12_atom 30).1
theorem t_X12_term_r : ∀ (h : dH), T XM 38 yX12_term cX12_term 5 (some .int) fiI [.ref 0] h (r_X12_term 30 h) := (t_g_X12_atom 30).2.1
theorem t_X12_sum_r : ∀ (h : dH), T XM 38 yX12_sum cX12_sum 5 (some .int) fiI [.ref 0] h (r_X12_sum 30 h) := (t_g_X12_atom 30).2.2
def f_X12_isSign (x0 : Int32) (h : dH) : Bool :=
  if x0 = 61 then
  true
  else
  if x0 = 60 then
  true
  else
  if x0 = 62 then
  true
  else
  false
set_option maxRecDepth 20000 in
set_option maxHeartbeats 4000000 in
theorem t_X12_isSign (x0 : Int32) (h : dH) : T XM 0 yX12_isSign cX12_isSign 1 (some .boolean) (fiB h) [.int x0] h (some (f_X12_isSign x0 h)) := by
  refine T_of [.int x0] (by decide) (fun _ => rfl) (fun _ => Nat.le_of_ble_eq_true rfl) ?_
  show B XM 0 RX12 cX12_isSign 1 (some .boolean) (fiB h) 0 [.int x0] [] h (some (f_X12_isSign x0 h))
  unfold f_X12_isSign
  refine B_iload_n dX12_isSign_0 rfl rfl ?_
  refine B_bipush dX12_isSign_1 bp_61 ?_
  refine C_some ?_
  refine C_icmp_eq (tgt := 18) dX12_isSign_3 (by decide) (fun q3 => ?_) (fun q3 => ?_)
  · refine B_iconst dX12_isSign_18 ic_1 ?_
    refine B_goto (tgt := 23) dX12_isSign_19 (by decide) ?_
    exact B_zreturn dX12_isSign_23 rfl rfl rfl
  · refine B_iload_n dX12_isSign_6 rfl rfl ?_
    refine B_bipush dX12_isSign_7 bp_60 ?_
    refine C_some ?_
    refine C_icmp_eq (tgt := 18) dX12_isSign_9 (by decide) (fun q2 => ?_) (fun q2 => ?_)
    · refine B_iconst dX12_isSign_18 ic_1 ?_
      refine B_goto (tgt := 23) dX12_isSign_19 (by decide) ?_
      exact B_zreturn dX12_isSign_23 rfl rfl rfl
    · refine B_iload_n dX12_isSign_12 rfl rfl ?_
      refine B_bipush dX12_isSign_13 bp_62 ?_
      refine C_some ?_
      refine C_icmp_ne (tgt := 22) dX12_isSign_15 (by decide) (fun q1 => ?_) (fun q1 => ?_)
      · refine B_iconst dX12_isSign_22 ic_0 ?_
        exact B_zreturn dX12_isSign_23 rfl rfl rfl
      · refine B_iconst dX12_isSign_18 ic_1 ?_
        refine B_goto (tgt := 23) dX12_isSign_19 (by decide) ?_
        exact B_zreturn dX12_isSign_23 rfl rfl rfl
def f_X12_compares_J12 (z0 : Int32) (h : dH) : Option (Bool × dH) :=
  if (h.1 0 11) = (-1) then
  (f_X12_look h).bind fun rv4 =>
  if (f_X12_isSign rv4.1 rv4.2) then
  (some (dPut rv4.2 0 10 ((rv4.2.1 0 10) + 1))).bind fun h6 =>
  ((r_X12_sum 30) h6).bind fun rv7 =>
  if rv4.1 = 61 then
  if z0 = rv7.1 then
  some (true, rv7.2)
  else
  some (false, rv7.2)
  else
  if rv4.1 = 60 then
  if z0 < rv7.1 then
  some (true, rv7.2)
  else
  some (false, rv7.2)
  else
  if rv7.1 < z0 then
  some (true, rv7.2)
  else
  some (false, rv7.2)
  else
  (f_X12_fails rv4.2).bind fun rv14 =>
  some (rv14.1, rv14.2)
  else
  some (false, h)
set_option maxRecDepth 20000 in
set_option maxHeartbeats 4000000 in
theorem b_X12_compares_J12 (z0 : Int32) (h : dH) : B XM 39 RX12 cX12_compares 6 (some .boolean) fiC 12 [.ref 0, .null, .null, .null, .null, .null] [.int z0] h (f_X12_compares_J12 z0 h) := by
  unfold f_X12_compares_J12
  refine B_istore_n (ls' := [.ref 0, .null, .null, .int z0, .null, .null]) dX12_compares_12 rfl (Nat.le_of_ble_eq_true rfl) rfl rfl ?_
  refine B_aload_n dX12_compares_13 rfl rfl ?_
  refine B_getI dX12_compares_14 fl_X12_135 shM_0 rfl ?_
  refine B_iconst dX12_compares_17 ic_m1 ?_
  refine C_icmp_eq (tgt := 23) dX12_compares_18 (by decide) (fun q17 => ?_) (fun q17 => ?_)
  · refine B_aload_n dX12_compares_23 rfl rfl ?_
    refine B_VI (st := []) dX12_compares_24 cl_X12_145 (t_X12_look h) (Nat.le_of_ble_eq_true rfl) shM_0 rfl rfl (Nat.le_of_ble_eq_true rfl) (fun v4 h5 _ => ?_)
    refine B_istore (ls' := [.ref 0, .null, .null, .int z0, .int v4, .null]) dX12_compares_27 (Nat.le_of_ble_eq_true rfl) rfl rfl ?_
    refine B_iload dX12_compares_29 rfl ?_
    refine B_STb (st := []) dX12_compares_31 cl_X12_188 (t_X12_isSign v4 h5) (Nat.le_of_ble_eq_true rfl) rfl rfl (Nat.le_of_ble_eq_true rfl) ?_
    refine C_ifb_ne (tgt := 42) dX12_compares_34 (by decide) (fun q16 => ?_) (fun q16 => ?_)
    · refine B_aload_n dX12_compares_42 rfl rfl ?_
      refine B_dup dX12_compares_43 rfl ?_
      refine B_getI dX12_compares_44 fl_X12_126 shM_0 rfl ?_
      refine B_iconst dX12_compares_47 ic_1 ?_
      refine B_iadd dX12_compares_48 ?_
      refine B_putI dX12_compares_49 fl_X12_126 fw_X12_10 shM_0 rfl ?_
      refine B_lh (fun h6 => ?_)
      refine B_aload_n dX12_compares_52 rfl rfl ?_
      refine B_VI (st := []) dX12_compares_53 cl_X12_168 (t_X12_sum_r h6) (Nat.le_of_ble_eq_true rfl) shM_0 rfl rfl (Nat.le_of_ble_eq_true rfl) (fun v7 h8 _ => ?_)
      refine B_istore (ls' := [.ref 0, .null, .null, .int z0, .int v4, .int v7]) dX12_compares_56 (Nat.le_of_ble_eq_true rfl) rfl rfl ?_
      refine B_iload dX12_compares_58 rfl ?_
      refine B_bipush dX12_compares_60 bp_61 ?_
      refine C_icmp_ne (tgt := 79) dX12_compares_62 (by decide) (fun q13 => ?_) (fun q13 => ?_)
      · refine B_iload dX12_compares_79 rfl ?_
        refine B_bipush dX12_compares_81 bp_60 ?_
        refine C_icmp_ne (tgt := 100) dX12_compares_83 (by decide) (fun q11 => ?_) (fun q11 => ?_)
        · refine B_iload_n dX12_compares_100 rfl rfl ?_
          refine B_iload dX12_compares_101 rfl ?_
          refine C_icmp_le (tgt := 110) dX12_compares_103 (by decide) (fun q9 => ?_) (fun q9 => ?_)
          · refine B_iconst dX12_compares_110 ic_0 ?_
            exact B_zreturn dX12_compares_111 rfl rfl rfl
          · refine B_iconst dX12_compares_106 ic_1 ?_
            refine B_goto (tgt := 111) dX12_compares_107 (by decide) ?_
            exact B_zreturn dX12_compares_111 rfl rfl rfl
        · refine B_iload_n dX12_compares_86 rfl rfl ?_
          refine B_iload dX12_compares_87 rfl ?_
          refine C_icmp_ge (tgt := 96) dX12_compares_89 (by decide) (fun q10 => ?_) (fun q10 => ?_)
          · refine B_iconst dX12_compares_96 ic_0 ?_
            refine B_goto (tgt := 111) dX12_compares_97 (by decide) ?_
            exact B_zreturn dX12_compares_111 rfl rfl rfl
          · refine B_iconst dX12_compares_92 ic_1 ?_
            refine B_goto (tgt := 111) dX12_compares_93 (by decide) ?_
            exact B_zreturn dX12_compares_111 rfl rfl rfl
      · refine B_iload_n dX12_compares_65 rfl rfl ?_
        refine B_iload dX12_compares_66 rfl ?_
        refine C_icmp_ne (tgt := 75) dX12_compares_68 (by decide) (fun q12 => ?_) (fun q12 => ?_)
        · refine B_iconst dX12_compares_75 ic_0 ?_
          refine B_goto (tgt := 111) dX12_compares_76 (by decide) ?_
          exact B_zreturn dX12_compares_111 rfl rfl rfl
        · refine B_iconst dX12_compares_71 ic_1 ?_
          refine B_goto (tgt := 111) dX12_compares_72 (by decide) ?_
          exact B_zreturn dX12_compares_111 rfl rfl rfl
    · refine B_aload_n dX12_compares_37 rfl rfl ?_
      refine B_VC (st := []) dX12_compares_38 cl_X12_141 (t_X12_fails h5) (Nat.le_of_ble_eq_true rfl) shM_0 rfl rfl (Nat.le_of_ble_eq_true rfl) (fun v14 h15 _ => ?_)
      exact B_zreturn dX12_compares_41 rfl (nar_bi v14) rfl
  · refine B_iconst dX12_compares_21 ic_0 ?_
    exact B_zreturn dX12_compares_22 rfl rfl rfl
def f_X12_compares (x1 : Bool) (x2 : Int32) (h : dH) : Option (Bool × dH) :=
  if x1 then
  f_X12_compares_J12 x2 h
  else
  ((r_X12_sum 30) h).bind fun rv1 =>
  f_X12_compares_J12 rv1.1 rv1.2
set_option maxRecDepth 20000 in
set_option maxHeartbeats 4000000 in
theorem t_X12_compares (x1 : Bool) (x2 : Int32) (h : dH) : T XM 39 yX12_compares cX12_compares 6 (some .boolean) fiC [.ref 0, .int (bi x1), .int x2] h (f_X12_compares x1 x2 h) := by
  refine T_of [.ref 0, .int (bi x1), .int x2, .null, .null, .null] (by decide) (fun _ => rfl) (fun _ => Nat.le_of_ble_eq_true rfl) ?_
  show B XM 39 RX12 cX12_compares 6 (some .boolean) fiC 0 [.ref 0, .int (bi x1), .int x2, .null, .null, .null] [] h (f_X12_compares x1 x2 h)
  unfold f_X12_compares
  refine B_iload_n dX12_compares_0 rfl rfl ?_
  refine C_ifb_eq (tgt := 8) dX12_compares_1 (by decide) (fun q3 => ?_) (fun q3 => ?_)
  · refine B_aload_n dX12_compares_8 rfl rfl ?_
    refine B_VI (st := []) dX12_compares_9 cl_X12_168 (t_X12_sum_r h) (Nat.le_of_ble_eq_true rfl) shM_0 rfl rfl (Nat.le_of_ble_eq_true rfl) (fun v1 h2 _ => ?_)
    refine B_drop 1 (ls' := [.ref 0, .null, .int x2, .null, .null, .null]) rfl ?_
    refine B_drop 2 (ls' := [.ref 0, .null, .null, .null, .null, .null]) rfl ?_
    exact b_X12_compares_J12 v1 h2
  · refine B_iload_n dX12_compares_4 rfl rfl ?_
    refine B_goto (tgt := 12) dX12_compares_5 (by decide) ?_
    refine B_drop 1 (ls' := [.ref 0, .null, .int x2, .null, .null, .null]) rfl ?_
    refine B_drop 2 (ls' := [.ref 0, .null, .null, .null, .null, .null]) rfl ?_
    exact b_X12_compares_J12 x2 h
def f_X12_unit (rc_X12_unit : dH → Option (Bool × dH)) (rc_X12_part : Bool → Int32 → dH → Option (Bool × dH)) (rc_X12_condition : Bool → Int32 → dH → Option (Bool × dH)) (h : dH) : Option (Bool × dH) :=
  (f_X12_look h).bind fun rv1 =>
  if rv1.1 = 33 then
  (f_X12_goesIn rv1.2).bind fun rv14 =>
  if rv14.1 then
  (rc_X12_unit rv14.2).bind fun rv16 =>
  (some (dPut rv16.2 0 12 ((rv16.2.1 0 12) - 1))).bind fun h18 =>
  if rv16.1 then
  some (false, h18)
  else
  some (true, h18)
  else
  some (false, rv14.2)
  else
  if rv1.1 = 40 then
  (f_X12_goesIn rv1.2).bind fun rv5 =>
  if rv5.1 then
  (rc_X12_condition false 0 rv5.2).bind fun rv7 =>
  (f_X12_takes 41 rv7.2).bind fun rv9 =>
  if rv9.1 then
  some (rv7.1, (dPut rv9.2 0 12 ((rv9.2.1 0 12) - 1)))
  else
  some (false, rv9.2)
  else
  some (false, rv5.2)
  else
  (f_X12_compares false 0 rv1.2).bind fun rv3 =>
  some (rv3.1, rv3.2)
set_option maxRecDepth 20000 in
set_option maxHeartbeats 4000000 in
theorem t_X12_unit {Dr : Nat} {rc_X12_unit : dH → Option (Bool × dH)} {rc_X12_part : Bool → Int32 → dH → Option (Bool × dH)} {rc_X12_condition : Bool → Int32 → dH → Option (Bool × dH)} (hDr : 40 ≤ Dr) (hrc_X12_unit : ∀ (h : dH), T XM Dr yX12_unit cX12_unit 3 (some .boolean) fiC [.ref 0] h (rc_X12_unit h)) (hrc_X12_part : ∀ (x1 : Bool) (x2 : Int32) (h : dH), T XM Dr yX12_part cX12_part 5 (some .boolean) fiC [.ref 0, .int (bi x1), .int x2] h (rc_X12_part x1 x2 h)) (hrc_X12_condition : ∀ (x1 : Bool) (x2 : Int32) (h : dH), T XM Dr yX12_condition cX12_condition 5 (some .boolean) fiC [.ref 0, .int (bi x1), .int x2] h (rc_X12_condition x1 x2 h)) (h : dH) : T XM (Dr + 1) yX12_unit cX12_unit 3 (some .boolean) fiC [.ref 0] h (f_X12_unit rc_X12_unit rc_X12_part rc_X12_condition h) := by
  refine T_of [.ref 0, .null, .null] (by decide) (fun _ => rfl) (fun _ => Nat.le_of_ble_eq_true rfl) ?_
  show B XM (Dr + 1) RX12 cX12_unit 3 (some .boolean) fiC 0 [.ref 0, .null, .null] [] h (f_X12_unit rc_X12_unit rc_X12_part rc_X12_condition h)
  unfold f_X12_unit
  refine B_aload_n dX12_unit_0 rfl rfl ?_
  refine B_VI (st := []) dX12_unit_1 cl_X12_145 (t_X12_look h) (by omega) shM_0 rfl rfl (Nat.le_of_ble_eq_true rfl) (fun v1 h2 _ => ?_)
  refine B_istore_n (ls' := [.ref 0, .int v1, .null]) dX12_unit_4 rfl (Nat.le_of_ble_eq_true rfl) rfl rfl ?_
  refine B_iload_n dX12_unit_5 rfl rfl ?_
  refine B_bipush dX12_unit_6 bp_33 ?_
  refine C_icmp_ne (tgt := 45) dX12_unit_8 (by decide) (fun q21 => ?_) (fun q21 => ?_)
  · refine B_iload_n dX12_unit_45 rfl rfl ?_
    refine B_bipush dX12_unit_46 bp_40 ?_
    refine C_icmp_ne (tgt := 90) dX12_unit_48 (by decide) (fun q13 => ?_) (fun q13 => ?_)
    · refine B_aload_n dX12_unit_90 rfl rfl ?_
      refine B_iconst dX12_unit_91 ic_0 ?_
      refine B_iconst dX12_unit_92 ic_0 ?_
      refine B_VC (st := []) dX12_unit_93 cl_X12_198 (t_X12_compares false 0 h2) (by omega) shM_0 rfl rfl (Nat.le_of_ble_eq_true rfl) (fun v3 h4 _ => ?_)
      exact B_zreturn dX12_unit_96 rfl (nar_bi v3) rfl
    · refine B_aload_n dX12_unit_51 rfl rfl ?_
      refine B_VC (st := []) dX12_unit_52 cl_X12_165 (t_X12_goesIn h2) (by omega) shM_0 rfl rfl (Nat.le_of_ble_eq_true rfl) (fun v5 h6 _ => ?_)
      refine C_ifb_ne (tgt := 60) dX12_unit_55 (by decide) (fun q12 => ?_) (fun q12 => ?_)
      · refine B_aload_n dX12_unit_60 rfl rfl ?_
        refine B_iconst dX12_unit_61 ic_0 ?_
        refine B_iconst dX12_unit_62 ic_0 ?_
        refine B_VC (st := []) dX12_unit_63 cl_X12_194 (hrc_X12_condition false 0 h6) (by omega) shM_0 rfl rfl (Nat.le_of_ble_eq_true rfl) (fun v7 h8 _ => ?_)
        refine B_istore_n (ls' := [.ref 0, .int v1, .int (bi v7)]) dX12_unit_66 rfl (Nat.le_of_ble_eq_true rfl) rfl rfl ?_
        refine B_aload_n dX12_unit_67 rfl rfl ?_
        refine B_bipush dX12_unit_68 bp_41 ?_
        refine B_VC (st := []) dX12_unit_70 cl_X12_171 (t_X12_takes 41 h8) (by omega) shM_0 rfl rfl (Nat.le_of_ble_eq_true rfl) (fun v9 h10 _ => ?_)
        refine C_ifb_ne (tgt := 78) dX12_unit_73 (by decide) (fun q11 => ?_) (fun q11 => ?_)
        · refine B_aload_n dX12_unit_78 rfl rfl ?_
          refine B_dup dX12_unit_79 rfl ?_
          refine B_getI dX12_unit_80 fl_X12_138 shM_0 rfl ?_
          refine B_iconst dX12_unit_83 ic_1 ?_
          refine B_isub dX12_unit_84 ?_
          refine B_putI dX12_unit_85 fl_X12_138 fw_X12_12 shM_0 rfl ?_
          refine B_iload_n dX12_unit_88 rfl rfl ?_
          exact B_zreturn dX12_unit_89 rfl (nar_bi v7) rfl
        · refine B_iconst dX12_unit_76 ic_0 ?_
          exact B_zreturn dX12_unit_77 rfl rfl rfl
      · refine B_iconst dX12_unit_58 ic_0 ?_
        exact B_zreturn dX12_unit_59 rfl rfl rfl
  · refine B_aload_n dX12_unit_11 rfl rfl ?_
    refine B_VC (st := []) dX12_unit_12 cl_X12_165 (t_X12_goesIn h2) (by omega) shM_0 rfl rfl (Nat.le_of_ble_eq_true rfl) (fun v14 h15 _ => ?_)
    refine C_ifb_ne (tgt := 20) dX12_unit_15 (by decide) (fun q20 => ?_) (fun q20 => ?_)
    · refine B_aload_n dX12_unit_20 rfl rfl ?_
      refine B_VC (st := []) dX12_unit_21 cl_X12_191 (hrc_X12_unit h15) (by omega) shM_0 rfl rfl (Nat.le_of_ble_eq_true rfl) (fun v16 h17 _ => ?_)
      refine B_istore_n (ls' := [.ref 0, .int v1, .int (bi v16)]) dX12_unit_24 rfl (Nat.le_of_ble_eq_true rfl) rfl rfl ?_
      refine B_aload_n dX12_unit_25 rfl rfl ?_
      refine B_dup dX12_unit_26 rfl ?_
      refine B_getI dX12_unit_27 fl_X12_138 shM_0 rfl ?_
      refine B_iconst dX12_unit_30 ic_1 ?_
      refine B_isub dX12_unit_31 ?_
      refine B_putI dX12_unit_32 fl_X12_138 fw_X12_12 shM_0 rfl ?_
      refine B_lh (fun h18 => ?_)
      refine B_iload_n dX12_unit_35 rfl rfl ?_
      refine C_ifb_ne (tgt := 43) dX12_unit_36 (by decide) (fun q19 => ?_) (fun q19 => ?_)
      · refine B_iconst dX12_unit_43 ic_0 ?_
        exact B_zreturn dX12_unit_44 rfl rfl rfl
      · refine B_iconst dX12_unit_39 ic_1 ?_
        refine B_goto (tgt := 44) dX12_unit_40 (by decide) ?_
        exact B_zreturn dX12_unit_44 rfl rfl rfl
    · refine B_iconst dX12_unit_18 ic_0 ?_
      exact B_zreturn dX12_unit_19 rfl rfl rfl
def f_X12_part_J65 (rc_X12_unit : dH → Option (Bool × dH)) (rc_X12_part : Bool → Int32 → dH → Option (Bool × dH)) (rc_X12_condition : Bool → Int32 → dH → Option (Bool × dH)) (kL18 : Bool → dH → Option (Bool × dH)) (z0 : Bool) (h : dH) : Option (Bool × dH) :=
  kL18 z0 h
set_option maxRecDepth 20000 in
set_option maxHeartbeats 4000000 in
theorem b_X12_part_J65 {Dr : Nat} {rc_X12_unit : dH → Option (Bool × dH)} {rc_X12_part : Bool → Int32 → dH → Option (Bool × dH)} {rc_X12_condition : Bool → Int32 → dH → Option (Bool × dH)} {kL18 : Bool → dH → Option (Bool × dH)} (hDr : 40 ≤ Dr) (hrc_X12_unit : ∀ (h : dH), T XM Dr yX12_unit cX12_unit 3 (some .boolean) fiC [.ref 0] h (rc_X12_unit h)) (hrc_X12_part : ∀ (x1 : Bool) (x2 : Int32) (h : dH), T XM Dr yX12_part cX12_part 5 (some .boolean) fiC [.ref 0, .int (bi x1), .int x2] h (rc_X12_part x1 x2 h)) (hrc_X12_condition : ∀ (x1 : Bool) (x2 : Int32) (h : dH), T XM Dr yX12_condition cX12_condition 5 (some .boolean) fiC [.ref 0, .int (bi x1), .int x2] h (rc_X12_condition x1 x2 h)) (hkL18 : ∀ (y3 : Bool) (h : dH), B XM (Dr + 1) RX12 cX12_part 5 (some .boolean) fiC 18 [.ref 0, .null, .null, .int (bi y3), .null] [] h (kL18 y3 h)) (z0 : Bool) (h : dH) : B XM (Dr + 1) RX12 cX12_part 5 (some .boolean) fiC 65 [.ref 0, .null, .null, .null, .null] [.int (bi z0)] h (f_X12_part_J65 rc_X12_unit rc_X12_part rc_X12_condition kL18 z0 h) := by
  unfold f_X12_part_J65
  refine B_istore_n (ls' := [.ref 0, .null, .null, .int (bi z0), .null]) dX12_part_65 rfl (Nat.le_of_ble_eq_true rfl) rfl rfl ?_
  refine B_goto (tgt := 18) dX12_part_66 (by decide) ?_
  exact hkL18 z0  h
def f_X12_part_J64 (rc_X12_unit : dH → Option (Bool × dH)) (rc_X12_part : Bool → Int32 → dH → Option (Bool × dH)) (rc_X12_condition : Bool → Int32 → dH → Option (Bool × dH)) (kL18 : Bool → dH → Option (Bool × dH)) (h : dH) : Option (Bool × dH) :=
  f_X12_part_J65 rc_X12_unit rc_X12_part rc_X12_condition kL18 false h
set_option maxRecDepth 20000 in
set_option maxHeartbeats 4000000 in
theorem b_X12_part_J64 {Dr : Nat} {rc_X12_unit : dH → Option (Bool × dH)} {rc_X12_part : Bool → Int32 → dH → Option (Bool × dH)} {rc_X12_condition : Bool → Int32 → dH → Option (Bool × dH)} {kL18 : Bool → dH → Option (Bool × dH)} (hDr : 40 ≤ Dr) (hrc_X12_unit : ∀ (h : dH), T XM Dr yX12_unit cX12_unit 3 (some .boolean) fiC [.ref 0] h (rc_X12_unit h)) (hrc_X12_part : ∀ (x1 : Bool) (x2 : Int32) (h : dH), T XM Dr yX12_part cX12_part 5 (some .boolean) fiC [.ref 0, .int (bi x1), .int x2] h (rc_X12_part x1 x2 h)) (hrc_X12_condition : ∀ (x1 : Bool) (x2 : Int32) (h : dH), T XM Dr yX12_condition cX12_condition 5 (some .boolean) fiC [.ref 0, .int (bi x1), .int x2] h (rc_X12_condition x1 x2 h)) (hkL18 : ∀ (y3 : Bool) (h : dH), B XM (Dr + 1) RX12 cX12_part 5 (some .boolean) fiC 18 [.ref 0, .null, .null, .int (bi y3), .null] [] h (kL18 y3 h)) (h : dH) : B XM (Dr + 1) RX12 cX12_part 5 (some .boolean) fiC 64 [.ref 0, .null, .null, .null, .null] [] h (f_X12_part_J64 rc_X12_unit rc_X12_part rc_X12_condition kL18 h) := by
  unfold f_X12_part_J64
  refine B_iconst dX12_part_64 ic_0 ?_
  exact b_X12_part_J65 hDr hrc_X12_unit hrc_X12_part hrc_X12_condition hkL18 false h
def f_X12_part_L18 (rc_X12_unit : dH → Option (Bool × dH)) (rc_X12_part : Bool → Int32 → dH → Option (Bool × dH)) (rc_X12_condition : Bool → Int32 → dH → Option (Bool × dH)) : Nat → Bool → dH → Option (Bool × dH)
  | 0, _, _ => none
  | n + 1, y3, h =>
    if (h.1 0 11) = (-1) then
    (f_X12_look h).bind fun rv6 =>
    if rv6.1 = 38 then
    (some (dPut rv6.2 0 10 ((rv6.2.1 0 10) + 1))).bind fun h8 =>
    (rc_X12_unit h8).bind fun rv9 =>
    if y3 then
    if rv9.1 then
    f_X12_part_J65 rc_X12_unit rc_X12_part rc_X12_condition (f_X12_part_L18 rc_X12_unit rc_X12_part rc_X12_condition n) true rv9.2
    else
    f_X12_part_J64 rc_X12_unit rc_X12_part rc_X12_condition (f_X12_part_L18 rc_X12_unit rc_X12_part rc_X12_condition n) rv9.2
    else
    f_X12_part_J64 rc_X12_unit rc_X12_part rc_X12_condition (f_X12_part_L18 rc_X12_unit rc_X12_part rc_X12_condition n) rv9.2
    else
    some (y3, rv6.2)
    else
    some (y3, h)
set_option maxRecDepth 20000 in
set_option maxHeartbeats 4000000 in
theorem b_X12_part_L18 {Dr : Nat} {rc_X12_unit : dH → Option (Bool × dH)} {rc_X12_part : Bool → Int32 → dH → Option (Bool × dH)} {rc_X12_condition : Bool → Int32 → dH → Option (Bool × dH)} (hDr : 40 ≤ Dr) (hrc_X12_unit : ∀ (h : dH), T XM Dr yX12_unit cX12_unit 3 (some .boolean) fiC [.ref 0] h (rc_X12_unit h)) (hrc_X12_part : ∀ (x1 : Bool) (x2 : Int32) (h : dH), T XM Dr yX12_part cX12_part 5 (some .boolean) fiC [.ref 0, .int (bi x1), .int x2] h (rc_X12_part x1 x2 h)) (hrc_X12_condition : ∀ (x1 : Bool) (x2 : Int32) (h : dH), T XM Dr yX12_condition cX12_condition 5 (some .boolean) fiC [.ref 0, .int (bi x1), .int x2] h (rc_X12_condition x1 x2 h)) : ∀ (n : Nat) (y3 : Bool) (h : dH), B XM (Dr + 1) RX12 cX12_part 5 (some .boolean) fiC 18 [.ref 0, .null, .null, .int (bi y3), .null] [] h (f_X12_part_L18 rc_X12_unit rc_X12_part rc_X12_condition n y3 h) := by
  intro n
  induction n with
  | zero =>
    intro y3 h
    exact B_none
  | succ n ih =>
    intro y3 h
    rw [f_X12_part_L18]
    refine B_aload_n dX12_part_18 rfl rfl ?_
    refine B_getI dX12_part_19 fl_X12_135 shM_0 rfl ?_
    refine B_iconst dX12_part_22 ic_m1 ?_
    refine C_icmp_ne (tgt := 69) dX12_part_23 (by decide) (fun q14 => ?_) (fun q14 => ?_)
    · refine B_iload_n dX12_part_69 rfl rfl ?_
      exact B_zreturn dX12_part_70 rfl (nar_bi y3) rfl
    · refine B_aload_n dX12_part_26 rfl rfl ?_
      refine B_VI (st := []) dX12_part_27 cl_X12_145 (t_X12_look h) (by omega) shM_0 rfl rfl (Nat.le_of_ble_eq_true rfl) (fun v6 h7 _ => ?_)
      refine B_bipush dX12_part_30 bp_38 ?_
      refine C_icmp_ne (tgt := 69) dX12_part_32 (by decide) (fun q13 => ?_) (fun q13 => ?_)
      · refine B_iload_n dX12_part_69 rfl rfl ?_
        exact B_zreturn dX12_part_70 rfl (nar_bi y3) rfl
      · refine B_aload_n dX12_part_35 rfl rfl ?_
        refine B_dup dX12_part_36 rfl ?_
        refine B_getI dX12_part_37 fl_X12_126 shM_0 rfl ?_
        refine B_iconst dX12_part_40 ic_1 ?_
        refine B_iadd dX12_part_41 ?_
        refine B_putI dX12_part_42 fl_X12_126 fw_X12_10 shM_0 rfl ?_
        refine B_lh (fun h8 => ?_)
        refine B_aload_n dX12_part_45 rfl rfl ?_
        refine B_VC (st := []) dX12_part_46 cl_X12_191 (hrc_X12_unit h8) (by omega) shM_0 rfl rfl (Nat.le_of_ble_eq_true rfl) (fun v9 h10 _ => ?_)
        refine B_istore (ls' := [.ref 0, .null, .null, .int (bi y3), .int (bi v9)]) dX12_part_49 (Nat.le_of_ble_eq_true rfl) rfl rfl ?_
        refine B_iload_n dX12_part_51 rfl rfl ?_
        refine C_ifb_eq (tgt := 64) dX12_part_52 (by decide) (fun q12 => ?_) (fun q12 => ?_)
        · refine B_drop 3 (ls' := [.ref 0, .null, .null, .null, .int (bi v9)]) rfl ?_
          refine B_drop 4 (ls' := [.ref 0, .null, .null, .null, .null]) rfl ?_
          exact b_X12_part_J64 hDr hrc_X12_unit hrc_X12_part hrc_X12_condition (fun qy3 qh => ih qy3 qh) h10
        · refine B_iload dX12_part_55 rfl ?_
          refine C_ifb_eq (tgt := 64) dX12_part_57 (by decide) (fun q11 => ?_) (fun q11 => ?_)
          · refine B_drop 3 (ls' := [.ref 0, .null, .null, .null, .int (bi v9)]) rfl ?_
            refine B_drop 4 (ls' := [.ref 0, .null, .null, .null, .null]) rfl ?_
            exact b_X12_part_J64 hDr hrc_X12_unit hrc_X12_part hrc_X12_condition (fun qy3 qh => ih qy3 qh) h10
          · refine B_iconst dX12_part_60 ic_1 ?_
            refine B_goto (tgt := 65) dX12_part_61 (by decide) ?_
            refine B_drop 3 (ls' := [.ref 0, .null, .null, .null, .int (bi v9)]) rfl ?_
            refine B_drop 4 (ls' := [.ref 0, .null, .null, .null, .null]) rfl ?_
            exact b_X12_part_J65 hDr hrc_X12_unit hrc_X12_part hrc_X12_condition (fun qy3 qh => ih qy3 qh) true h10
def f_X12_part_J17 (rc_X12_unit : dH → Option (Bool × dH)) (rc_X12_part : Bool → Int32 → dH → Option (Bool × dH)) (rc_X12_condition : Bool → Int32 → dH → Option (Bool × dH)) (z0 : Bool) (h : dH) : Option (Bool × dH) :=
  f_X12_part_L18 rc_X12_unit rc_X12_part rc_X12_condition dFu z0 h
set_option maxRecDepth 20000 in
set_option maxHeartbeats 4000000 in
theorem b_X12_part_J17 {Dr : Nat} {rc_X12_unit : dH → Option (Bool × dH)} {rc_X12_part : Bool → Int32 → dH → Option (Bool × dH)} {rc_X12_condition : Bool → Int32 → dH → Option (Bool × dH)} (hDr : 40 ≤ Dr) (hrc_X12_unit : ∀ (h : dH), T XM Dr yX12_unit cX12_unit 3 (some .boolean) fiC [.ref 0] h (rc_X12_unit h)) (hrc_X12_part : ∀ (x1 : Bool) (x2 : Int32) (h : dH), T XM Dr yX12_part cX12_part 5 (some .boolean) fiC [.ref 0, .int (bi x1), .int x2] h (rc_X12_part x1 x2 h)) (hrc_X12_condition : ∀ (x1 : Bool) (x2 : Int32) (h : dH), T XM Dr yX12_condition cX12_condition 5 (some .boolean) fiC [.ref 0, .int (bi x1), .int x2] h (rc_X12_condition x1 x2 h)) (z0 : Bool) (h : dH) : B XM (Dr + 1) RX12 cX12_part 5 (some .boolean) fiC 17 [.ref 0, .null, .null, .null, .null] [.int (bi z0)] h (f_X12_part_J17 rc_X12_unit rc_X12_part rc_X12_condition z0 h) := by
  unfold f_X12_part_J17
  refine B_istore_n (ls' := [.ref 0, .null, .null, .int (bi z0), .null]) dX12_part_17 rfl (Nat.le_of_ble_eq_true rfl) rfl rfl ?_
  exact b_X12_part_L18 hDr hrc_X12_unit hrc_X12_part hrc_X12_condition dFu z0 h
def f_X12_part (rc_X12_unit : dH → Option (Bool × dH)) (rc_X12_part : Bool → Int32 → dH → Option (Bool × dH)) (rc_X12_condition : Bool → Int32 → dH → Option (Bool × dH)) (x1 : Bool) (x2 : Int32) (h : dH) : Option (Bool × dH) :=
  if x1 then
  (f_X12_compares true x2 h).bind fun rv3 =>
  f_X12_part_J17 rc_X12_unit rc_X12_part rc_X12_condition rv3.1 rv3.2
  else
  (rc_X12_unit h).bind fun rv1 =>
  f_X12_part_J17 rc_X12_unit rc_X12_part rc_X12_condition rv1.1 rv1.2
set_option maxRecDepth 20000 in
set_option maxHeartbeats 4000000 in
theorem t_X12_part {Dr : Nat} {rc_X12_unit : dH → Option (Bool × dH)} {rc_X12_part : Bool → Int32 → dH → Option (Bool × dH)} {rc_X12_condition : Bool → Int32 → dH → Option (Bool × dH)} (hDr : 40 ≤ Dr) (hrc_X12_unit : ∀ (h : dH), T XM Dr yX12_unit cX12_unit 3 (some .boolean) fiC [.ref 0] h (rc_X12_unit h)) (hrc_X12_part : ∀ (x1 : Bool) (x2 : Int32) (h : dH), T XM Dr yX12_part cX12_part 5 (some .boolean) fiC [.ref 0, .int (bi x1), .int x2] h (rc_X12_part x1 x2 h)) (hrc_X12_condition : ∀ (x1 : Bool) (x2 : Int32) (h : dH), T XM Dr yX12_condition cX12_condition 5 (some .boolean) fiC [.ref 0, .int (bi x1), .int x2] h (rc_X12_condition x1 x2 h)) (x1 : Bool) (x2 : Int32) (h : dH) : T XM (Dr + 1) yX12_part cX12_part 5 (some .boolean) fiC [.ref 0, .int (bi x1), .int x2] h (f_X12_part rc_X12_unit rc_X12_part rc_X12_condition x1 x2 h) := by
  refine T_of [.ref 0, .int (bi x1), .int x2, .null, .null] (by decide) (fun _ => rfl) (fun _ => Nat.le_of_ble_eq_true rfl) ?_
  show B XM (Dr + 1) RX12 cX12_part 5 (some .boolean) fiC 0 [.ref 0, .int (bi x1), .int x2, .null, .null] [] h (f_X12_part rc_X12_unit rc_X12_part rc_X12_condition x1 x2 h)
  unfold f_X12_part
  refine B_iload_n dX12_part_0 rfl rfl ?_
  refine C_ifb_eq (tgt := 13) dX12_part_1 (by decide) (fun q5 => ?_) (fun q5 => ?_)
  · refine B_aload_n dX12_part_13 rfl rfl ?_
    refine B_VC (st := []) dX12_part_14 cl_X12_191 (hrc_X12_unit h) (by omega) shM_0 rfl rfl (Nat.le_of_ble_eq_true rfl) (fun v1 h2 _ => ?_)
    refine B_drop 1 (ls' := [.ref 0, .null, .int x2, .null, .null]) rfl ?_
    refine B_drop 2 (ls' := [.ref 0, .null, .null, .null, .null]) rfl ?_
    exact b_X12_part_J17 hDr hrc_X12_unit hrc_X12_part hrc_X12_condition v1 h2
  · refine B_aload_n dX12_part_4 rfl rfl ?_
    refine B_iconst dX12_part_5 ic_1 ?_
    refine B_iload_n dX12_part_6 rfl rfl ?_
    refine B_VC (st := []) dX12_part_7 cl_X12_198 (t_X12_compares true x2 h) (by omega) shM_0 rfl rfl (Nat.le_of_ble_eq_true rfl) (fun v3 h4 _ => ?_)
    refine B_goto (tgt := 17) dX12_part_10 (by decide) ?_
    refine B_drop 1 (ls' := [.ref 0, .null, .int x2, .null, .null]) rfl ?_
    refine B_drop 2 (ls' := [.ref 0, .null, .null, .null, .null]) rfl ?_
    exact b_X12_part_J17 hDr hrc_X12_unit hrc_X12_part hrc_X12_condition v3 h4
def f_X12_condition_J56 (rc_X12_unit : dH → Option (Bool × dH)) (rc_X12_part : Bool → Int32 → dH → Option (Bool × dH)) (rc_X12_condition : Bool → Int32 → dH → Option (Bool × dH)) (kL7 : Bool → dH → Option (Bool × dH)) (z0 : Bool) (h : dH) : Option (Bool × dH) :=
  kL7 z0 h
set_option maxRecDepth 20000 in
set_option maxHeartbeats 4000000 in
theorem b_X12_condition_J56 {Dr : Nat} {rc_X12_unit : dH → Option (Bool × dH)} {rc_X12_part : Bool → Int32 → dH → Option (Bool × dH)} {rc_X12_condition : Bool → Int32 → dH → Option (Bool × dH)} {kL7 : Bool → dH → Option (Bool × dH)} (hDr : 40 ≤ Dr) (hrc_X12_unit : ∀ (h : dH), T XM Dr yX12_unit cX12_unit 3 (some .boolean) fiC [.ref 0] h (rc_X12_unit h)) (hrc_X12_part : ∀ (x1 : Bool) (x2 : Int32) (h : dH), T XM Dr yX12_part cX12_part 5 (some .boolean) fiC [.ref 0, .int (bi x1), .int x2] h (rc_X12_part x1 x2 h)) (hrc_X12_condition : ∀ (x1 : Bool) (x2 : Int32) (h : dH), T XM Dr yX12_condition cX12_condition 5 (some .boolean) fiC [.ref 0, .int (bi x1), .int x2] h (rc_X12_condition x1 x2 h)) (hkL7 : ∀ (y3 : Bool) (h : dH), B XM (Dr + 1) RX12 cX12_condition 5 (some .boolean) fiC 7 [.ref 0, .null, .null, .int (bi y3), .null] [] h (kL7 y3 h)) (z0 : Bool) (h : dH) : B XM (Dr + 1) RX12 cX12_condition 5 (some .boolean) fiC 56 [.ref 0, .null, .null, .null, .null] [.int (bi z0)] h (f_X12_condition_J56 rc_X12_unit rc_X12_part rc_X12_condition kL7 z0 h) := by
  unfold f_X12_condition_J56
  refine B_istore_n (ls' := [.ref 0, .null, .null, .int (bi z0), .null]) dX12_condition_56 rfl (Nat.le_of_ble_eq_true rfl) rfl rfl ?_
  refine B_goto (tgt := 7) dX12_condition_57 (by decide) ?_
  exact hkL7 z0  h
def f_X12_condition_J51 (rc_X12_unit : dH → Option (Bool × dH)) (rc_X12_part : Bool → Int32 → dH → Option (Bool × dH)) (rc_X12_condition : Bool → Int32 → dH → Option (Bool × dH)) (kL7 : Bool → dH → Option (Bool × dH)) (h : dH) : Option (Bool × dH) :=
  f_X12_condition_J56 rc_X12_unit rc_X12_part rc_X12_condition kL7 true h
set_option maxRecDepth 20000 in
set_option maxHeartbeats 4000000 in
theorem b_X12_condition_J51 {Dr : Nat} {rc_X12_unit : dH → Option (Bool × dH)} {rc_X12_part : Bool → Int32 → dH → Option (Bool × dH)} {rc_X12_condition : Bool → Int32 → dH → Option (Bool × dH)} {kL7 : Bool → dH → Option (Bool × dH)} (hDr : 40 ≤ Dr) (hrc_X12_unit : ∀ (h : dH), T XM Dr yX12_unit cX12_unit 3 (some .boolean) fiC [.ref 0] h (rc_X12_unit h)) (hrc_X12_part : ∀ (x1 : Bool) (x2 : Int32) (h : dH), T XM Dr yX12_part cX12_part 5 (some .boolean) fiC [.ref 0, .int (bi x1), .int x2] h (rc_X12_part x1 x2 h)) (hrc_X12_condition : ∀ (x1 : Bool) (x2 : Int32) (h : dH), T XM Dr yX12_condition cX12_condition 5 (some .boolean) fiC [.ref 0, .int (bi x1), .int x2] h (rc_X12_condition x1 x2 h)) (hkL7 : ∀ (y3 : Bool) (h : dH), B XM (Dr + 1) RX12 cX12_condition 5 (some .boolean) fiC 7 [.ref 0, .null, .null, .int (bi y3), .null] [] h (kL7 y3 h)) (h : dH) : B XM (Dr + 1) RX12 cX12_condition 5 (some .boolean) fiC 51 [.ref 0, .null, .null, .null, .null] [] h (f_X12_condition_J51 rc_X12_unit rc_X12_part rc_X12_condition kL7 h) := by
  unfold f_X12_condition_J51
  refine B_iconst dX12_condition_51 ic_1 ?_
  refine B_goto (tgt := 56) dX12_condition_52 (by decide) ?_
  exact b_X12_condition_J56 hDr hrc_X12_unit hrc_X12_part hrc_X12_condition hkL7 true h
def f_X12_condition_L7 (rc_X12_unit : dH → Option (Bool × dH)) (rc_X12_part : Bool → Int32 → dH → Option (Bool × dH)) (rc_X12_condition : Bool → Int32 → dH → Option (Bool × dH)) : Nat → Bool → dH → Option (Bool × dH)
  | 0, _, _ => none
  | n + 1, y3, h =>
    if (h.1 0 11) = (-1) then
    (f_X12_look h).bind fun rv3 =>
    if rv3.1 = 124 then
    (some (dPut rv3.2 0 10 ((rv3.2.1 0 10) + 1))).bind fun h5 =>
    (rc_X12_part false 0 h5).bind fun rv6 =>
    if y3 then
    f_X12_condition_J51 rc_X12_unit rc_X12_part rc_X12_condition (f_X12_condition_L7 rc_X12_unit rc_X12_part rc_X12_condition n) rv6.2
    else
    if rv6.1 then
    f_X12_condition_J51 rc_X12_unit rc_X12_part rc_X12_condition (f_X12_condition_L7 rc_X12_unit rc_X12_part rc_X12_condition n) rv6.2
    else
    f_X12_condition_J56 rc_X12_unit rc_X12_part rc_X12_condition (f_X12_condition_L7 rc_X12_unit rc_X12_part rc_X12_condition n) false rv6.2
    else
    some (y3, rv3.2)
    else
    some (y3, h)
set_option maxRecDepth 20000 in
set_option maxHeartbeats 4000000 in
theorem b_X12_condition_L7 {Dr : Nat} {rc_X12_unit : dH → Option (Bool × dH)} {rc_X12_part : Bool → Int32 → dH → Option (Bool × dH)} {rc_X12_condition : Bool → Int32 → dH → Option (Bool × dH)} (hDr : 40 ≤ Dr) (hrc_X12_unit : ∀ (h : dH), T XM Dr yX12_unit cX12_unit 3 (some .boolean) fiC [.ref 0] h (rc_X12_unit h)) (hrc_X12_part : ∀ (x1 : Bool) (x2 : Int32) (h : dH), T XM Dr yX12_part cX12_part 5 (some .boolean) fiC [.ref 0, .int (bi x1), .int x2] h (rc_X12_part x1 x2 h)) (hrc_X12_condition : ∀ (x1 : Bool) (x2 : Int32) (h : dH), T XM Dr yX12_condition cX12_condition 5 (some .boolean) fiC [.ref 0, .int (bi x1), .int x2] h (rc_X12_condition x1 x2 h)) : ∀ (n : Nat) (y3 : Bool) (h : dH), B XM (Dr + 1) RX12 cX12_condition 5 (some .boolean) fiC 7 [.ref 0, .null, .null, .int (bi y3), .null] [] h (f_X12_condition_L7 rc_X12_unit rc_X12_part rc_X12_condition n y3 h) := by
  intro n
  induction n with
  | zero =>
    intro y3 h
    exact B_none
  | succ n ih =>
    intro y3 h
    rw [f_X12_condition_L7]
    refine B_aload_n dX12_condition_7 rfl rfl ?_
    refine B_getI dX12_condition_8 fl_X12_135 shM_0 rfl ?_
    refine B_iconst dX12_condition_11 ic_m1 ?_
    refine C_icmp_ne (tgt := 60) dX12_condition_12 (by decide) (fun q11 => ?_) (fun q11 => ?_)
    · refine B_iload_n dX12_condition_60 rfl rfl ?_
      exact B_zreturn dX12_condition_61 rfl (nar_bi y3) rfl
    · refine B_aload_n dX12_condition_15 rfl rfl ?_
      refine B_VI (st := []) dX12_condition_16 cl_X12_145 (t_X12_look h) (by omega) shM_0 rfl rfl (Nat.le_of_ble_eq_true rfl) (fun v3 h4 _ => ?_)
      refine B_bipush dX12_condition_19 bp_124 ?_
      refine C_icmp_ne (tgt := 60) dX12_condition_21 (by decide) (fun q10 => ?_) (fun q10 => ?_)
      · refine B_iload_n dX12_condition_60 rfl rfl ?_
        exact B_zreturn dX12_condition_61 rfl (nar_bi y3) rfl
      · refine B_aload_n dX12_condition_24 rfl rfl ?_
        refine B_dup dX12_condition_25 rfl ?_
        refine B_getI dX12_condition_26 fl_X12_126 shM_0 rfl ?_
        refine B_iconst dX12_condition_29 ic_1 ?_
        refine B_iadd dX12_condition_30 ?_
        refine B_putI dX12_condition_31 fl_X12_126 fw_X12_10 shM_0 rfl ?_
        refine B_lh (fun h5 => ?_)
        refine B_aload_n dX12_condition_34 rfl rfl ?_
        refine B_iconst dX12_condition_35 ic_0 ?_
        refine B_iconst dX12_condition_36 ic_0 ?_
        refine B_VC (st := []) dX12_condition_37 cl_X12_201 (hrc_X12_part false 0 h5) (by omega) shM_0 rfl rfl (Nat.le_of_ble_eq_true rfl) (fun v6 h7 _ => ?_)
        refine B_istore (ls' := [.ref 0, .null, .null, .int (bi y3), .int (bi v6)]) dX12_condition_40 (Nat.le_of_ble_eq_true rfl) rfl rfl ?_
        refine B_iload_n dX12_condition_42 rfl rfl ?_
        refine C_ifb_ne (tgt := 51) dX12_condition_43 (by decide) (fun q9 => ?_) (fun q9 => ?_)
        · refine B_drop 3 (ls' := [.ref 0, .null, .null, .null, .int (bi v6)]) rfl ?_
          refine B_drop 4 (ls' := [.ref 0, .null, .null, .null, .null]) rfl ?_
          exact b_X12_condition_J51 hDr hrc_X12_unit hrc_X12_part hrc_X12_condition (fun qy3 qh => ih qy3 qh) h7
        · refine B_iload dX12_condition_46 rfl ?_
          refine C_ifb_eq (tgt := 55) dX12_condition_48 (by decide) (fun q8 => ?_) (fun q8 => ?_)
          · refine B_iconst dX12_condition_55 ic_0 ?_
            refine B_drop 3 (ls' := [.ref 0, .null, .null, .null, .int (bi v6)]) rfl ?_
            refine B_drop 4 (ls' := [.ref 0, .null, .null, .null, .null]) rfl ?_
            exact b_X12_condition_J56 hDr hrc_X12_unit hrc_X12_part hrc_X12_condition (fun qy3 qh => ih qy3 qh) false h7
          · refine B_drop 3 (ls' := [.ref 0, .null, .null, .null, .int (bi v6)]) rfl ?_
            refine B_drop 4 (ls' := [.ref 0, .null, .null, .null, .null]) rfl ?_
            exact b_X12_condition_J51 hDr hrc_X12_unit hrc_X12_part hrc_X12_condition (fun qy3 qh => ih qy3 qh) h7
def f_X12_condition (rc_X12_unit : dH → Option (Bool × dH)) (rc_X12_part : Bool → Int32 → dH → Option (Bool × dH)) (rc_X12_condition : Bool → Int32 → dH → Option (Bool × dH)) (x1 : Bool) (x2 : Int32) (h : dH) : Option (Bool × dH) :=
  (rc_X12_part x1 x2 h).bind fun rv1 =>
  f_X12_condition_L7 rc_X12_unit rc_X12_part rc_X12_condition dFu rv1.1 rv1.2
set_option maxRecDepth 20000 in
set_option maxHeartbeats 4000000 in
theorem t_X12_condition {Dr : Nat} {rc_X12_unit : dH → Option (Bool × dH)} {rc_X12_part : Bool → Int32 → dH → Option (Bool × dH)} {rc_X12_condition : Bool → Int32 → dH → Option (Bool × dH)} (hDr : 40 ≤ Dr) (hrc_X12_unit : ∀ (h : dH), T XM Dr yX12_unit cX12_unit 3 (some .boolean) fiC [.ref 0] h (rc_X12_unit h)) (hrc_X12_part : ∀ (x1 : Bool) (x2 : Int32) (h : dH), T XM Dr yX12_part cX12_part 5 (some .boolean) fiC [.ref 0, .int (bi x1), .int x2] h (rc_X12_part x1 x2 h)) (hrc_X12_condition : ∀ (x1 : Bool) (x2 : Int32) (h : dH), T XM Dr yX12_condition cX12_condition 5 (some .boolean) fiC [.ref 0, .int (bi x1), .int x2] h (rc_X12_condition x1 x2 h)) (x1 : Bool) (x2 : Int32) (h : dH) : T XM (Dr + 1) yX12_condition cX12_condition 5 (some .boolean) fiC [.ref 0, .int (bi x1), .int x2] h (f_X12_condition rc_X12_unit rc_X12_part rc_X12_condition x1 x2 h) := by
  refine T_of [.ref 0, .int (bi x1), .int x2, .null, .null] (by decide) (fun _ => rfl) (fun _ => Nat.le_of_ble_eq_true rfl) ?_
  show B XM (Dr + 1) RX12 cX12_condition 5 (some .boolean) fiC 0 [.ref 0, .int (bi x1), .int x2, .null, .null] [] h (f_X12_condition rc_X12_unit rc_X12_part rc_X12_condition x1 x2 h)
  unfold f_X12_condition
  refine B_aload_n dX12_condition_0 rfl rfl ?_
  refine B_iload_n dX12_condition_1 rfl rfl ?_
  refine B_iload_n dX12_condition_2 rfl rfl ?_
  refine B_VC (st := []) dX12_condition_3 cl_X12_201 (hrc_X12_part x1 x2 h) (by omega) shM_0 rfl rfl (Nat.le_of_ble_eq_true rfl) (fun v1 h2 _ => ?_)
  refine B_istore_n (ls' := [.ref 0, .int (bi x1), .int x2, .int (bi v1), .null]) dX12_condition_6 rfl (Nat.le_of_ble_eq_true rfl) rfl rfl ?_
  refine B_drop 1 (ls' := [.ref 0, .null, .int x2, .int (bi v1), .null]) rfl ?_
  refine B_drop 2 (ls' := [.ref 0, .null, .null, .int (bi v1), .null]) rfl ?_
  exact b_X12_condition_L7 hDr hrc_X12_unit hrc_X12_part hrc_X12_condition dFu v1 h2
def g_X12_unit : Nat → (dH → Option (Bool × dH)) × (Bool → Int32 → dH → Option (Bool × dH)) × (Bool → Int32 → dH → Option (Bool × dH))
  | 0 => (fun _ => none, fun _ _ _ => none, fun _ _ _ => none)
  | n + 1 => (f_X12_unit (g_X12_unit n).1 (g_X12_unit n).2.1 (g_X12_unit n).2.2, f_X12_part (g_X12_unit n).1 (g_X12_unit n).2.1 (g_X12_unit n).2.2, f_X12_condition (g_X12_unit n).1 (g_X12_unit n).2.1 (g_X12_unit n).2.2)
def r_X12_unit (n : Nat) : dH → Option (Bool × dH) := (g_X12_unit n).1
def r_X12_part (n : Nat) : Bool → Int32 → dH → Option (Bool × dH) := (g_X12_unit n).2.1
def r_X12_condition (n : Nat) : Bool → Int32 → dH → Option (Bool × dH) := (g_X12_unit n).2.2
set_option maxRecDepth 20000 in
set_option maxHeartbeats 4000000 in
theorem t_g_X12_unit : ∀ n : Nat, (∀ (h : dH), T XM (40 + n) yX12_unit cX12_unit 3 (some .boolean) fiC [.ref 0] h (r_X12_unit n h)) ∧ (∀ (x1 : Bool) (x2 : Int32) (h : dH), T XM (40 + n) yX12_part cX12_part 5 (some .boolean) fiC [.ref 0, .int (bi x1), .int x2] h (r_X12_part n x1 x2 h)) ∧ (∀ (x1 : Bool) (x2 : Int32) (h : dH), T XM (40 + n) yX12_condition cX12_condition 5 (some .boolean) fiC [.ref 0, .int (bi x1), .int x2] h (r_X12_condition n x1 x2 h)) := by
  intro n
  induction n with
  | zero =>
    exact ⟨fun _ => T_none, fun _ _ _ => T_none, fun _ _ _ => T_none⟩
  | succ n ih =>
    exact ⟨fun h => (t_X12_unit (Nat.le_add_right 40 n) ih.1 ih.2.1 ih.2.2 h : T _ (40 + n + 1) _ _ _ _ _ _ _ _), fun x1 x2 h => (t_X12_part (Nat.le_add_right 40 n) ih.1 ih.2.1 ih.2.2 x1 x2 h : T _ (40 + n + 1) _ _ _ _ _ _ _ _), fun x1 x2 h => (t_X12_condition (Nat.le_add_right 40 n) ih.1 ih.2.1 ih.2.2 x1 x2 h : T _ (40 + n + 1) _ _ _ _ _ _ _ _)⟩
theorem t_X12_unit_r : ∀ (h : dH), T XM 80 yX12_unit cX12_unit 3 (some .boolean) fiC [.ref 0] h (r_X12_unit 40 h) := (t_g_X12_unit 40).1
theorem t_X12_part_r : ∀ (x1 : Bool) (x2 : Int32) (h : dH), T XM 80 yX12_part cX12_part 5 (some .boolean) fiC [.ref 0, .int (bi x1), .int x2] h (r_X12_part 40 x1 x2 h) := (t_g_X12_unit 40).2.1
theorem t_X12_condition_r : ∀ (x1 : Bool) (x2 : Int32) (h : dH), T XM 80 yX12_condition cX12_condition 5 (some .boolean) fiC [.ref 0, .int (bi x1), .int x2] h (r_X12_condition 40 x1 x2 h) := (t_g_X12_unit 40).2.2
def f_X12_clause_J134 (y1 : Int32) (y2 : Bool) (y3 : Int32) (h : dH) : Option (dH) :=
  if (h.1 0 11) = (-1) then
  if (h.1 0 17) = 0 then
  if y1 = (h.1 0 13) then
  if y2 then
  (some (dPut h 0 17 1)).bind fun h34 =>
  some (dPut h34 0 14 y3)
  else
  some h
  else
  some h
  else
  some h
  else
  some h
set_option maxRecDepth 20000 in
set_option maxHeartbeats 4000000 in
theorem b_X12_clause_J134 (y1 : Int32) (y2 : Bool) (y3 : Int32) (h : dH) : B XM 81 RX12 cX12_clause 5 none fiV 134 [.ref 0, .int y1, .int (bi y2), .int y3, .null] [] h (f_X12_clause_J134 y1 y2 y3 h) := by
  unfold f_X12_clause_J134
  refine B_aload_n dX12_clause_134 rfl rfl ?_
  refine B_getI dX12_clause_135 fl_X12_135 shM_0 rfl ?_
  refine B_iconst dX12_clause_138 ic_m1 ?_
  refine C_icmp_ne (tgt := 161) dX12_clause_139 (by decide) (fun q38 => ?_) (fun q38 => ?_)
  · exact B_return dX12_clause_161 rfl rfl
  · refine B_aload_n dX12_clause_142 rfl rfl ?_
    refine B_getZ dX12_clause_143 fl_X12_204 shM_0 rfl ?_
    refine C_if_ne (tgt := 161) dX12_clause_146 (by decide) (fun q37 => ?_) (fun q37 => ?_)
    · exact B_return dX12_clause_161 rfl rfl
    · refine B_iload_n dX12_clause_149 rfl rfl ?_
      refine B_aload_n dX12_clause_150 rfl rfl ?_
      refine B_getI dX12_clause_151 fl_X12_208 shM_0 rfl ?_
      refine C_icmp_ne (tgt := 161) dX12_clause_154 (by decide) (fun q36 => ?_) (fun q36 => ?_)
      · exact B_return dX12_clause_161 rfl rfl
      · refine B_iload_n dX12_clause_157 rfl rfl ?_
        refine C_ifb_ne (tgt := 162) dX12_clause_158 (by decide) (fun q35 => ?_) (fun q35 => ?_)
        · refine B_aload_n dX12_clause_162 rfl rfl ?_
          refine B_iconst dX12_clause_163 ic_1 ?_
          refine B_putZ dX12_clause_164 fl_X12_204 fw_X12_17 shM_0 rfl (Or.inr rfl) ?_
          refine B_lh (fun h34 => ?_)
          refine B_aload_n dX12_clause_167 rfl rfl ?_
          refine B_iload_n dX12_clause_168 rfl rfl ?_
          refine B_putI dX12_clause_169 fl_X12_211 fw_X12_14 shM_0 rfl ?_
          exact B_return dX12_clause_172 rfl rfl
        · exact B_return dX12_clause_161 rfl rfl
def f_X12_clause_J64 (y1 : Int32) (h : dH) : Option (dH) :=
  ((r_X12_condition 40) false 0 h).bind fun rv27 =>
  (f_X12_takes 63 rv27.2).bind fun rv29 =>
  if rv29.1 then
  ((r_X12_sum 30) rv29.2).bind fun rv31 =>
  f_X12_clause_J134 y1 rv27.1 rv31.1 rv31.2
  else
  some rv29.2
set_option maxRecDepth 20000 in
set_option maxHeartbeats 4000000 in
theorem b_X12_clause_J64 (y1 : Int32) (h : dH) : B XM 81 RX12 cX12_clause 5 none fiV 64 [.ref 0, .int y1, .null, .null, .null] [] h (f_X12_clause_J64 y1 h) := by
  unfold f_X12_clause_J64
  refine B_aload_n dX12_clause_64 rfl rfl ?_
  refine B_iconst dX12_clause_65 ic_0 ?_
  refine B_iconst dX12_clause_66 ic_0 ?_
  refine B_VC (st := []) dX12_clause_67 cl_X12_194 (t_X12_condition_r false 0 h) (Nat.le_of_ble_eq_true rfl) shM_0 rfl rfl (Nat.le_of_ble_eq_true rfl) (fun v27 h28 _ => ?_)
  refine B_istore_n (ls' := [.ref 0, .int y1, .int (bi v27), .null, .null]) dX12_clause_70 rfl (Nat.le_of_ble_eq_true rfl) rfl rfl ?_
  refine B_aload_n dX12_clause_71 rfl rfl ?_
  refine B_bipush dX12_clause_72 bp_63 ?_
  refine B_VC (st := []) dX12_clause_74 cl_X12_171 (t_X12_takes 63 h28) (Nat.le_of_ble_eq_true rfl) shM_0 rfl rfl (Nat.le_of_ble_eq_true rfl) (fun v29 h30 _ => ?_)
  refine C_ifb_ne (tgt := 81) dX12_clause_77 (by decide) (fun q33 => ?_) (fun q33 => ?_)
  · refine B_aload_n dX12_clause_81 rfl rfl ?_
    refine B_VI (st := []) dX12_clause_82 cl_X12_168 (t_X12_sum_r h30) (Nat.le_of_ble_eq_true rfl) shM_0 rfl rfl (Nat.le_of_ble_eq_true rfl) (fun v31 h32 _ => ?_)
    refine B_istore_n (ls' := [.ref 0, .int y1, .int (bi v27), .int v31, .null]) dX12_clause_85 rfl (Nat.le_of_ble_eq_true rfl) rfl rfl ?_
    refine B_goto (tgt := 134) dX12_clause_86 (by decide) ?_
    exact b_X12_clause_J134 y1 v27 v31 h32
  · exact B_return dX12_clause_80 rfl rfl
def f_X12_clause (h : dH) : Option (dH) :=
  (f_X12_look h).bind fun rv1 =>
  if (f_X12_isAmong 4 rv1.1) then
  (some (dPut rv1.2 0 10 ((rv1.2.1 0 10) + 1))).bind fun h3 =>
  (f_X12_takes 58 h3).bind fun rv4 =>
  if rv4.1 then
  (f_X12_look rv4.2).bind fun rv6 =>
  if rv6.1 = 33 then
  f_X12_clause_J64 rv1.1 rv6.2
  else
  if rv6.1 = 40 then
  f_X12_clause_J64 rv1.1 rv6.2
  else
  ((r_X12_sum 30) rv6.2).bind fun rv8 =>
  if (rv8.2.1 0 11) = (-1) then
  (f_X12_look rv8.2).bind fun rv10 =>
  if (f_X12_isSign rv10.1 rv10.2) then
  ((r_X12_condition 40) true rv8.1 rv10.2).bind fun rv12 =>
  (f_X12_takes 63 rv12.2).bind fun rv14 =>
  if rv14.1 then
  ((r_X12_sum 30) rv14.2).bind fun rv16 =>
  f_X12_clause_J134 rv1.1 rv12.1 rv16.1 rv16.2
  else
  some rv14.2
  else
  f_X12_clause_J134 rv1.1 true rv8.1 rv10.2
  else
  f_X12_clause_J134 rv1.1 true rv8.1 rv8.2
  else
  some rv4.2
  else
  (f_X12_fails rv1.2).bind fun rv24 =>
  some rv24.2
set_option maxRecDepth 20000 in
set_option maxHeartbeats 4000000 in
theorem t_X12_clause (h : dH) : T XM 81 yX12_clause cX12_clause 5 none fiV [.ref 0] h (f_X12_clause h) := by
  refine T_of [.ref 0, .null, .null, .null, .null] (by decide) (fun _ => rfl) (fun _ => Nat.le_of_ble_eq_true rfl) ?_
  show B XM 81 RX12 cX12_clause 5 none fiV 0 [.ref 0, .null, .null, .null, .null] [] h (f_X12_clause h)
  unfold f_X12_clause
  refine B_aload_n dX12_clause_0 rfl rfl ?_
  refine B_VI (st := []) dX12_clause_1 cl_X12_145 (t_X12_look h) (Nat.le_of_ble_eq_true rfl) shM_0 rfl rfl (Nat.le_of_ble_eq_true rfl) (fun v1 h2 _ => ?_)
  refine B_istore_n (ls' := [.ref 0, .int v1, .null, .null, .null]) dX12_clause_4 rfl (Nat.le_of_ble_eq_true rfl) rfl rfl ?_
  refine B_ldcS (j := 4) dX12_clause_5 rfl rfl rfl ?_
  refine B_iload_n dX12_clause_7 rfl rfl ?_
  refine B_STb (st := []) dX12_clause_8 cl_X12_161 (t_X12_isAmong 4 (by decide) v1 h2) (Nat.le_of_ble_eq_true rfl) rfl rfl (Nat.le_of_ble_eq_true rfl) ?_
  refine C_ifb_ne (tgt := 20) dX12_clause_11 (by decide) (fun q26 => ?_) (fun q26 => ?_)
  · refine B_aload_n dX12_clause_20 rfl rfl ?_
    refine B_dup dX12_clause_21 rfl ?_
    refine B_getI dX12_clause_22 fl_X12_126 shM_0 rfl ?_
    refine B_iconst dX12_clause_25 ic_1 ?_
    refine B_iadd dX12_clause_26 ?_
    refine B_putI dX12_clause_27 fl_X12_126 fw_X12_10 shM_0 rfl ?_
    refine B_lh (fun h3 => ?_)
    refine B_aload_n dX12_clause_30 rfl rfl ?_
    refine B_bipush dX12_clause_31 bp_58 ?_
    refine B_VC (st := []) dX12_clause_33 cl_X12_171 (t_X12_takes 58 h3) (Nat.le_of_ble_eq_true rfl) shM_0 rfl rfl (Nat.le_of_ble_eq_true rfl) (fun v4 h5 _ => ?_)
    refine C_ifb_ne (tgt := 40) dX12_clause_36 (by decide) (fun q23 => ?_) (fun q23 => ?_)
    · refine B_iconst dX12_clause_40 ic_1 ?_
      refine B_istore_n (ls' := [.ref 0, .int v1, .int 1, .null, .null]) dX12_clause_41 rfl (Nat.le_of_ble_eq_true rfl) rfl rfl ?_
      refine B_iconst dX12_clause_42 ic_0 ?_
      refine B_istore_n (ls' := [.ref 0, .int v1, .int 1, .int 0, .null]) dX12_clause_43 rfl (Nat.le_of_ble_eq_true rfl) rfl rfl ?_
      refine B_aload_n dX12_clause_44 rfl rfl ?_
      refine B_VI (st := []) dX12_clause_45 cl_X12_145 (t_X12_look h5) (Nat.le_of_ble_eq_true rfl) shM_0 rfl rfl (Nat.le_of_ble_eq_true rfl) (fun v6 h7 _ => ?_)
      refine B_istore (ls' := [.ref 0, .int v1, .int 1, .int 0, .int v6]) dX12_clause_48 (Nat.le_of_ble_eq_true rfl) rfl rfl ?_
      refine B_iload dX12_clause_50 rfl ?_
      refine B_bipush dX12_clause_52 bp_33 ?_
      refine C_icmp_eq (tgt := 64) dX12_clause_54 (by decide) (fun q22 => ?_) (fun q22 => ?_)
      · refine B_drop 2 (ls' := [.ref 0, .int v1, .null, .int 0, .int v6]) rfl ?_
        refine B_drop 3 (ls' := [.ref 0, .int v1, .null, .null, .int v6]) rfl ?_
        refine B_drop 4 (ls' := [.ref 0, .int v1, .null, .null, .null]) rfl ?_
        exact b_X12_clause_J64 v1 h7
      · refine B_iload dX12_clause_57 rfl ?_
        refine B_bipush dX12_clause_59 bp_40 ?_
        refine C_icmp_ne (tgt := 89) dX12_clause_61 (by decide) (fun q21 => ?_) (fun q21 => ?_)
        · refine B_aload_n dX12_clause_89 rfl rfl ?_
          refine B_VI (st := []) dX12_clause_90 cl_X12_168 (t_X12_sum_r h7) (Nat.le_of_ble_eq_true rfl) shM_0 rfl rfl (Nat.le_of_ble_eq_true rfl) (fun v8 h9 _ => ?_)
          refine B_istore_n (ls' := [.ref 0, .int v1, .int 1, .int v8, .int v6]) dX12_clause_93 rfl (Nat.le_of_ble_eq_true rfl) rfl rfl ?_
          refine B_aload_n dX12_clause_94 rfl rfl ?_
          refine B_getI dX12_clause_95 fl_X12_135 shM_0 rfl ?_
          refine B_iconst dX12_clause_98 ic_m1 ?_
          refine C_icmp_ne (tgt := 134) dX12_clause_99 (by decide) (fun q20 => ?_) (fun q20 => ?_)
          · refine B_drop 4 (ls' := [.ref 0, .int v1, .int 1, .int v8, .null]) rfl ?_
            exact b_X12_clause_J134 v1 true v8 h9
          · refine B_aload_n dX12_clause_102 rfl rfl ?_
            refine B_VI (st := []) dX12_clause_103 cl_X12_145 (t_X12_look h9) (Nat.le_of_ble_eq_true rfl) shM_0 rfl rfl (Nat.le_of_ble_eq_true rfl) (fun v10 h11 _ => ?_)
            refine B_STb (st := []) dX12_clause_106 cl_X12_188 (t_X12_isSign v10 h11) (Nat.le_of_ble_eq_true rfl) rfl rfl (Nat.le_of_ble_eq_true rfl) ?_
            refine C_ifb_eq (tgt := 134) dX12_clause_109 (by decide) (fun q19 => ?_) (fun q19 => ?_)
            · refine B_drop 4 (ls' := [.ref 0, .int v1, .int 1, .int v8, .null]) rfl ?_
              exact b_X12_clause_J134 v1 true v8 h11
            · refine B_aload_n dX12_clause_112 rfl rfl ?_
              refine B_iconst dX12_clause_113 ic_1 ?_
              refine B_iload_n dX12_clause_114 rfl rfl ?_
              refine B_VC (st := []) dX12_clause_115 cl_X12_194 (t_X12_condition_r true v8 h11) (Nat.le_of_ble_eq_true rfl) shM_0 rfl rfl (Nat.le_of_ble_eq_true rfl) (fun v12 h13 _ => ?_)
              refine B_istore_n (ls' := [.ref 0, .int v1, .int (bi v12), .int v8, .int v6]) dX12_clause_118 rfl (Nat.le_of_ble_eq_true rfl) rfl rfl ?_
              refine B_aload_n dX12_clause_119 rfl rfl ?_
              refine B_bipush dX12_clause_120 bp_63 ?_
              refine B_VC (st := []) dX12_clause_122 cl_X12_171 (t_X12_takes 63 h13) (Nat.le_of_ble_eq_true rfl) shM_0 rfl rfl (Nat.le_of_ble_eq_true rfl) (fun v14 h15 _ => ?_)
              refine C_ifb_ne (tgt := 129) dX12_clause_125 (by decide) (fun q18 => ?_) (fun q18 => ?_)
              · refine B_aload_n dX12_clause_129 rfl rfl ?_
                refine B_VI (st := []) dX12_clause_130 cl_X12_168 (t_X12_sum_r h15) (Nat.le_of_ble_eq_true rfl) shM_0 rfl rfl (Nat.le_of_ble_eq_true rfl) (fun v16 h17 _ => ?_)
                refine B_istore_n (ls' := [.ref 0, .int v1, .int (bi v12), .int v16, .int v6]) dX12_clause_133 rfl (Nat.le_of_ble_eq_true rfl) rfl rfl ?_
                refine B_drop 4 (ls' := [.ref 0, .int v1, .int (bi v12), .int v16, .null]) rfl ?_
                exact b_X12_clause_J134 v1 v12 v16 h17
              · exact B_return dX12_clause_128 rfl rfl
        · refine B_drop 2 (ls' := [.ref 0, .int v1, .null, .int 0, .int v6]) rfl ?_
          refine B_drop 3 (ls' := [.ref 0, .int v1, .null, .null, .int v6]) rfl ?_
          refine B_drop 4 (ls' := [.ref 0, .int v1, .null, .null, .null]) rfl ?_
          exact b_X12_clause_J64 v1 h7
    · exact B_return dX12_clause_39 rfl rfl
  · refine B_aload_n dX12_clause_14 rfl rfl ?_
    refine B_VC (st := []) dX12_clause_15 cl_X12_141 (t_X12_fails h2) (Nat.le_of_ble_eq_true rfl) shM_0 rfl rfl (Nat.le_of_ble_eq_true rfl) (fun v24 h25 _ => ?_)
    refine B_pop dX12_clause_18 rfl ?_
    exact B_return dX12_clause_19 rfl rfl
def f_X12_starts (bs : Nat) (x2 : Int32) (x3 : Int32) (h : dH) : Option (dH) :=
  (some (dPutT h bs)).bind fun h1 =>
  (some (dPut h1 0 8 x2)).bind fun h2 =>
  (some (dPut h2 0 9 x3)).bind fun h3 =>
  (some (dPut h3 0 10 0)).bind fun h4 =>
  some (dPut h4 0 11 (-1))
set_option maxRecDepth 20000 in
set_option maxHeartbeats 4000000 in
theorem t_X12_starts (bs : Nat) (hbs : bs = 1 ∨ bs = 2) (x2 : Int32) (x3 : Int32) (h : dH) : T XM 0 yX12_starts cX12_starts 4 none fiV [.ref 0, .ref bs, .int x2, .int x3] h (f_X12_starts bs x2 x3 h) := by
  refine T_of [.ref 0, .ref bs, .int x2, .int x3] (by decide) (fun _ => rfl) (fun _ => Nat.le_of_ble_eq_true rfl) ?_
  show B XM 0 RX12 cX12_starts 4 none fiV 0 [.ref 0, .ref bs, .int x2, .int x3] [] h (f_X12_starts bs x2 x3 h)
  unfold f_X12_starts
  refine B_aload_n dX12_starts_0 rfl rfl ?_
  refine B_aload_n dX12_starts_1 rfl rfl ?_
  refine B_putR dX12_starts_2 fl_X12_23 fw_X12_5 shM_0 rfl (rfM_0_5 _) rfM_oth ?_
  refine B_lh (fun h1 => ?_)
  refine B_aload_n dX12_starts_5 rfl rfl ?_
  refine B_iload_n dX12_starts_6 rfl rfl ?_
  refine B_putI dX12_starts_7 fl_X12_132 fw_X12_8 shM_0 rfl ?_
  refine B_lh (fun h2 => ?_)
  refine B_aload_n dX12_starts_10 rfl rfl ?_
  refine B_iload_n dX12_starts_11 rfl rfl ?_
  refine B_putI dX12_starts_12 fl_X12_129 fw_X12_9 shM_0 rfl ?_
  refine B_lh (fun h3 => ?_)
  refine B_aload_n dX12_starts_15 rfl rfl ?_
  refine B_iconst dX12_starts_16 ic_0 ?_
  refine B_putI dX12_starts_17 fl_X12_126 fw_X12_10 shM_0 rfl ?_
  refine B_lh (fun h4 => ?_)
  refine B_aload_n dX12_starts_20 rfl rfl ?_
  refine B_iconst dX12_starts_21 ic_m1 ?_
  refine B_putI dX12_starts_22 fl_X12_135 fw_X12_11 shM_0 rfl ?_
  exact B_return dX12_starts_25 rfl rfl
def f_X12_goThrough_J66 (bs : Nat) (h : dH) : Option (dH) :=
  if (h.1 0 11) = (-1) then
  (f_X12_look h).bind fun rv16 =>
  if rv16.1 = (-1) then
  some rv16.2
  else
  (f_X12_fails rv16.2).bind fun rv18 =>
  some rv18.2
  else
  some h
set_option maxRecDepth 20000 in
set_option maxHeartbeats 4000000 in
theorem b_X12_goThrough_J66 {bs : Nat} (hbs : bs = 1 ∨ bs = 2) (h : dH) : B XM 82 RX12 cX12_goThrough 4 none fiV 66 [.ref 0, .null, .null, .null] [] h (f_X12_goThrough_J66 bs h) := by
  unfold f_X12_goThrough_J66
  refine B_aload_n dX12_goThrough_66 rfl rfl ?_
  refine B_getI dX12_goThrough_67 fl_X12_135 shM_0 rfl ?_
  refine B_iconst dX12_goThrough_70 ic_m1 ?_
  refine C_icmp_ne (tgt := 87) dX12_goThrough_71 (by decide) (fun q21 => ?_) (fun q21 => ?_)
  · exact B_return dX12_goThrough_87 rfl rfl
  · refine B_aload_n dX12_goThrough_74 rfl rfl ?_
    refine B_VI (st := []) dX12_goThrough_75 cl_X12_145 (t_X12_look h) (Nat.le_of_ble_eq_true rfl) shM_0 rfl rfl (Nat.le_of_ble_eq_true rfl) (fun v16 h17 _ => ?_)
    refine B_iconst dX12_goThrough_78 ic_m1 ?_
    refine C_icmp_eq (tgt := 87) dX12_goThrough_79 (by decide) (fun q20 => ?_) (fun q20 => ?_)
    · exact B_return dX12_goThrough_87 rfl rfl
    · refine B_aload_n dX12_goThrough_82 rfl rfl ?_
      refine B_VC (st := []) dX12_goThrough_83 cl_X12_141 (t_X12_fails h17) (Nat.le_of_ble_eq_true rfl) shM_0 rfl rfl (Nat.le_of_ble_eq_true rfl) (fun v18 h19 _ => ?_)
      refine B_pop dX12_goThrough_86 rfl ?_
      exact B_return dX12_goThrough_87 rfl rfl
def f_X12_goThrough_L32 (bs : Nat) : Nat → dH → Option (dH)
  | 0, _ => none
  | n + 1, h =>
    if (h.1 0 11) = (-1) then
    (f_X12_look h).bind fun rv9 =>
    if rv9.1 = 59 then
    (some (dPut rv9.2 0 10 ((rv9.2.1 0 10) + 1))).bind fun h11 =>
    (f_X12_clause h11).bind fun h13 =>
    (f_X12_goThrough_L32 bs n) h13
    else
    f_X12_goThrough_J66 bs rv9.2
    else
    f_X12_goThrough_J66 bs h
set_option maxRecDepth 20000 in
set_option maxHeartbeats 4000000 in
theorem b_X12_goThrough_L32 {bs : Nat} (hbs : bs = 1 ∨ bs = 2) : ∀ (n : Nat) (h : dH), B XM 82 RX12 cX12_goThrough 4 none fiV 32 [.ref 0, .null, .null, .null] [] h (f_X12_goThrough_L32 bs n h) := by
  intro n
  induction n with
  | zero =>
    intro h
    exact B_none
  | succ n ih =>
    intro h
    rw [f_X12_goThrough_L32]
    refine B_aload_n dX12_goThrough_32 rfl rfl ?_
    refine B_getI dX12_goThrough_33 fl_X12_135 shM_0 rfl ?_
    refine B_iconst dX12_goThrough_36 ic_m1 ?_
    refine C_icmp_ne (tgt := 66) dX12_goThrough_37 (by decide) (fun q15 => ?_) (fun q15 => ?_)
    · exact b_X12_goThrough_J66 hbs h
    · refine B_aload_n dX12_goThrough_40 rfl rfl ?_
      refine B_VI (st := []) dX12_goThrough_41 cl_X12_145 (t_X12_look h) (Nat.le_of_ble_eq_true rfl) shM_0 rfl rfl (Nat.le_of_ble_eq_true rfl) (fun v9 h10 _ => ?_)
      refine B_bipush dX12_goThrough_44 bp_59 ?_
      refine C_icmp_ne (tgt := 66) dX12_goThrough_46 (by decide) (fun q14 => ?_) (fun q14 => ?_)
      · exact b_X12_goThrough_J66 hbs h10
      · refine B_aload_n dX12_goThrough_49 rfl rfl ?_
        refine B_dup dX12_goThrough_50 rfl ?_
        refine B_getI dX12_goThrough_51 fl_X12_126 shM_0 rfl ?_
        refine B_iconst dX12_goThrough_54 ic_1 ?_
        refine B_iadd dX12_goThrough_55 ?_
        refine B_putI dX12_goThrough_56 fl_X12_126 fw_X12_10 shM_0 rfl ?_
        refine B_lh (fun h11 => ?_)
        refine B_aload_n dX12_goThrough_59 rfl rfl ?_
        refine B_VV (st := []) dX12_goThrough_60 cl_X12_218 (t_X12_clause h11) (Nat.le_of_ble_eq_true rfl) shM_0 rfl rfl (Nat.le_of_ble_eq_true rfl) (fun h13 _ => ?_)
        refine B_goto (tgt := 32) dX12_goThrough_63 (by decide) ?_
        exact ih   h13
def f_X12_goThrough (bs : Nat) (x2 : Int32) (x3 : Int32) (h : dH) : Option (dH) :=
  (f_X12_starts bs x2 x3 h).bind fun h2 =>
  (some (dPut h2 0 13 121)).bind fun h3 =>
  (some (dPut h3 0 12 0)).bind fun h4 =>
  (some (dPut h4 0 17 0)).bind fun h5 =>
  (some (dPut h5 0 14 0)).bind fun h6 =>
  (f_X12_clause h6).bind fun h8 =>
  f_X12_goThrough_L32 bs dFu h8
set_option maxRecDepth 20000 in
set_option maxHeartbeats 4000000 in
theorem t_X12_goThrough (bs : Nat) (hbs : bs = 1 ∨ bs = 2) (x2 : Int32) (x3 : Int32) (h : dH) : T XM 82 yX12_goThrough cX12_goThrough 4 none fiV [.ref 0, .ref bs, .int x2, .int x3] h (f_X12_goThrough bs x2 x3 h) := by
  refine T_of [.ref 0, .ref bs, .int x2, .int x3] (by decide) (fun _ => rfl) (fun _ => Nat.le_of_ble_eq_true rfl) ?_
  show B XM 82 RX12 cX12_goThrough 4 none fiV 0 [.ref 0, .ref bs, .int x2, .int x3] [] h (f_X12_goThrough bs x2 x3 h)
  unfold f_X12_goThrough
  refine B_aload_n dX12_goThrough_0 rfl rfl ?_
  refine B_aload_n dX12_goThrough_1 rfl rfl ?_
  refine B_iload_n dX12_goThrough_2 rfl rfl ?_
  refine B_iload_n dX12_goThrough_3 rfl rfl ?_
  refine B_VV (st := []) dX12_goThrough_4 cl_X12_214 (t_X12_starts bs hbs x2 x3 h) (Nat.le_of_ble_eq_true rfl) shM_0 rfl rfl (Nat.le_of_ble_eq_true rfl) (fun h2 _ => ?_)
  refine B_aload_n dX12_goThrough_7 rfl rfl ?_
  refine B_bipush dX12_goThrough_8 bp_121 ?_
  refine B_putI dX12_goThrough_10 fl_X12_208 fw_X12_13 shM_0 rfl ?_
  refine B_lh (fun h3 => ?_)
  refine B_aload_n dX12_goThrough_13 rfl rfl ?_
  refine B_iconst dX12_goThrough_14 ic_0 ?_
  refine B_putI dX12_goThrough_15 fl_X12_138 fw_X12_12 shM_0 rfl ?_
  refine B_lh (fun h4 => ?_)
  refine B_aload_n dX12_goThrough_18 rfl rfl ?_
  refine B_iconst dX12_goThrough_19 ic_0 ?_
  refine B_putZ dX12_goThrough_20 fl_X12_204 fw_X12_17 shM_0 rfl (Or.inl rfl) ?_
  refine B_lh (fun h5 => ?_)
  refine B_aload_n dX12_goThrough_23 rfl rfl ?_
  refine B_iconst dX12_goThrough_24 ic_0 ?_
  refine B_putI dX12_goThrough_25 fl_X12_211 fw_X12_14 shM_0 rfl ?_
  refine B_lh (fun h6 => ?_)
  refine B_aload_n dX12_goThrough_28 rfl rfl ?_
  refine B_VV (st := []) dX12_goThrough_29 cl_X12_218 (t_X12_clause h6) (Nat.le_of_ble_eq_true rfl) shM_0 rfl rfl (Nat.le_of_ble_eq_true rfl) (fun h8 _ => ?_)
  refine B_drop 1 (ls' := [.ref 0, .null, .int x2, .int x3]) rfl ?_
  refine B_drop 2 (ls' := [.ref 0, .null, .null, .int x3]) rfl ?_
  refine B_drop 3 (ls' := [.ref 0, .null, .null, .null]) rfl ?_
  exact b_X12_goThrough_L32 hbs dFu h8
def f_X12_here (h : dH) : Option (Int32) :=
  if (h.1 0 10) < (h.1 0 9) then
  if dIn ((h.1 0 8) + (h.1 0 10)) (bln h.2.2) then
  some ((h.1 h.2.2 (dI ((h.1 0 8) + (h.1 0 10)))) &&& 255)
  else none
  else
  some (-1)
set_option maxRecDepth 20000 in
set_option maxHeartbeats 4000000 in
theorem t_X12_here (h : dH) : T XM 0 yX12_here cX12_here 1 (some .int) (fiP h) [.ref 0] h (f_X12_here h) := by
  refine T_of [.ref 0] (by decide) (fun _ => rfl) (fun _ => Nat.le_of_ble_eq_true rfl) ?_
  show B XM 0 RX12 cX12_here 1 (some .int) (fiP h) 0 [.ref 0] [] h (f_X12_here h)
  unfold f_X12_here
  refine B_aload_n dX12_here_0 rfl rfl ?_
  refine B_getI dX12_here_1 fl_X12_126 shM_0 rfl ?_
  refine B_aload_n dX12_here_4 rfl rfl ?_
  refine B_getI dX12_here_5 fl_X12_129 shM_0 rfl ?_
  refine C_icmp_ge (tgt := 32) dX12_here_8 (by decide) (fun q2 => ?_) (fun q2 => ?_)
  · refine B_iconst dX12_here_32 ic_m1 ?_
    exact B_ireturn dX12_here_33 rfl rfl
  · refine B_aload_n dX12_here_11 rfl rfl ?_
    refine B_getR dX12_here_12 fl_X12_23 shM_0 rfl (rfM_0_5 _) ?_
    refine B_aload_n dX12_here_15 rfl rfl ?_
    refine B_getI dX12_here_16 fl_X12_132 shM_0 rfl ?_
    refine B_aload_n dX12_here_19 rfl rfl ?_
    refine B_getI dX12_here_20 fl_X12_126 shM_0 rfl ?_
    refine B_iadd dX12_here_23 ?_
    refine C_chk (fun q1 => ?_)
    refine L_baldD dX12_here_24 q1 ?_
    refine B_sipush dX12_here_25 sp_255 ?_
    refine B_iand dX12_here_28 ?_
    refine B_goto (tgt := 33) dX12_here_29 (by decide) ?_
    exact B_ireturn dX12_here_33 rfl rfl
def f_X12_number_J67 (y1 : Int32) (y2 : Int32) (y4 : Int32) (h : dH) : Option (Int32 × dH) :=
  (f_X12_isDigit h).bind fun v13 =>
  if v13 then
  (f_X12_fails h).bind fun rv18 =>
  some (0, rv18.2)
  else
  if (f_X12_isIn ((y4 : Int32).toInt64) ((y1 : Int32).toInt64) ((y2 : Int32).toInt64) h) then
  some (y4, h)
  else
  (some (dPut h 0 10 ((h.1 0 10) - 1))).bind fun h14 =>
  (f_X12_fails h14).bind fun rv15 =>
  some (y4, rv15.2)
set_option maxRecDepth 20000 in
set_option maxHeartbeats 4000000 in
theorem b_X12_number_J67 (y1 : Int32) (y2 : Int32) (y4 : Int32) (h : dH) : B XM 1 RX12 cX12_number 5 (some .int) fiI 67 [.ref 0, .int y1, .int y2, .null, .int y4] [] h (f_X12_number_J67 y1 y2 y4 h) := by
  unfold f_X12_number_J67
  refine B_aload_n dX12_number_67 rfl rfl ?_
  refine B_Vpb (st := []) dX12_number_68 cl_X12_175 (t_X12_isDigit h) (Nat.le_of_ble_eq_true rfl) shM_0 rfl rfl (Nat.le_of_ble_eq_true rfl) (fun v13 _ => ?_)
  refine C_ifb_eq (tgt := 81) dX12_number_71 (by decide) (fun q20 => ?_) (fun q20 => ?_)
  · refine B_iload dX12_number_81 rfl ?_
    refine B_i2l dX12_number_83 ?_
    refine B_iload_n dX12_number_84 rfl rfl ?_
    refine B_i2l dX12_number_85 ?_
    refine B_iload_n dX12_number_86 rfl rfl ?_
    refine B_i2l dX12_number_87 ?_
    refine B_STb (st := []) dX12_number_88 cl_X12_224 (t_X12_isIn ((y4 : Int32).toInt64) ((y1 : Int32).toInt64) ((y2 : Int32).toInt64) h) (Nat.le_of_ble_eq_true rfl) rfl rfl (Nat.le_of_ble_eq_true rfl) ?_
    refine C_ifb_ne (tgt := 109) dX12_number_91 (by decide) (fun q17 => ?_) (fun q17 => ?_)
    · refine B_iload dX12_number_109 rfl ?_
      exact B_ireturn dX12_number_111 rfl rfl
    · refine B_aload_n dX12_number_94 rfl rfl ?_
      refine B_dup dX12_number_95 rfl ?_
      refine B_getI dX12_number_96 fl_X12_126 shM_0 rfl ?_
      refine B_iconst dX12_number_99 ic_1 ?_
      refine B_isub dX12_number_100 ?_
      refine B_putI dX12_number_101 fl_X12_126 fw_X12_10 shM_0 rfl ?_
      refine B_lh (fun h14 => ?_)
      refine B_aload_n dX12_number_104 rfl rfl ?_
      refine B_VC (st := []) dX12_number_105 cl_X12_141 (t_X12_fails h14) (Nat.le_of_ble_eq_true rfl) shM_0 rfl rfl (Nat.le_of_ble_eq_true rfl) (fun v15 h16 _ => ?_)
      refine B_pop dX12_number_108 rfl ?_
      refine B_iload dX12_number_109 rfl ?_
      exact B_ireturn dX12_number_111 rfl rfl
  · refine B_aload_n dX12_number_74 rfl rfl ?_
    refine B_VC (st := []) dX12_number_75 cl_X12_141 (t_X12_fails h) (Nat.le_of_ble_eq_true rfl) shM_0 rfl rfl (Nat.le_of_ble_eq_true rfl) (fun v18 h19 _ => ?_)
    refine B_pop dX12_number_78 rfl ?_
    refine B_iconst dX12_number_79 ic_0 ?_
    exact B_ireturn dX12_number_80 rfl rfl
def f_X12_number (x1 : Int32) (x2 : Int32) (h : dH) : Option (Int32 × dH) :=
  (f_X12_look h).bind fun rv1 =>
  (f_X12_isDigit rv1.2).bind fun v3 =>
  if v3 then
  (some (dPut rv1.2 0 10 ((rv1.2.1 0 10) + 1))).bind fun h4 =>
  (f_X12_isDigit h4).bind fun v5 =>
  if v5 then
  (f_X12_here h4).bind fun v6 =>
  (some ((((10 * (rv1.1 - 48)) + v6) - 48))).bind fun v7 =>
  (some (dPut h4 0 10 ((h4.1 0 10) + 1))).bind fun h8 =>
  f_X12_number_J67 x1 x2 v7 h8
  else
  f_X12_number_J67 x1 x2 (rv1.1 - 48) h4
  else
  (f_X12_fails rv1.2).bind fun rv10 =>
  some (0, rv10.2)
set_option maxRecDepth 20000 in
set_option maxHeartbeats 4000000 in
theorem t_X12_number (x1 : Int32) (x2 : Int32) (h : dH) : T XM 1 yX12_number cX12_number 5 (some .int) fiI [.ref 0, .int x1, .int x2] h (f_X12_number x1 x2 h) := by
  refine T_of [.ref 0, .int x1, .int x2, .null, .null] (by decide) (fun _ => rfl) (fun _ => Nat.le_of_ble_eq_true rfl) ?_
  show B XM 1 RX12 cX12_number 5 (some .int) fiI 0 [.ref 0, .int x1, .int x2, .null, .null] [] h (f_X12_number x1 x2 h)
  unfold f_X12_number
  refine B_aload_n dX12_number_0 rfl rfl ?_
  refine B_VI (st := []) dX12_number_1 cl_X12_145 (t_X12_look h) (Nat.le_of_ble_eq_true rfl) shM_0 rfl rfl (Nat.le_of_ble_eq_true rfl) (fun v1 h2 _ => ?_)
  refine B_istore_n (ls' := [.ref 0, .int x1, .int x2, .int v1, .null]) dX12_number_4 rfl (Nat.le_of_ble_eq_true rfl) rfl rfl ?_
  refine B_aload_n dX12_number_5 rfl rfl ?_
  refine B_Vpb (st := []) dX12_number_6 cl_X12_175 (t_X12_isDigit h2) (Nat.le_of_ble_eq_true rfl) shM_0 rfl rfl (Nat.le_of_ble_eq_true rfl) (fun v3 _ => ?_)
  refine C_ifb_ne (tgt := 19) dX12_number_9 (by decide) (fun q12 => ?_) (fun q12 => ?_)
  · refine B_iload_n dX12_number_19 rfl rfl ?_
    refine B_bipush dX12_number_20 bp_48 ?_
    refine B_isub dX12_number_22 ?_
    refine B_istore (ls' := [.ref 0, .int x1, .int x2, .int v1, .int (v1 - 48)]) dX12_number_23 (Nat.le_of_ble_eq_true rfl) rfl rfl ?_
    refine B_aload_n dX12_number_25 rfl rfl ?_
    refine B_dup dX12_number_26 rfl ?_
    refine B_getI dX12_number_27 fl_X12_126 shM_0 rfl ?_
    refine B_iconst dX12_number_30 ic_1 ?_
    refine B_iadd dX12_number_31 ?_
    refine B_putI dX12_number_32 fl_X12_126 fw_X12_10 shM_0 rfl ?_
    refine B_lh (fun h4 => ?_)
    refine B_aload_n dX12_number_35 rfl rfl ?_
    refine B_Vpb (st := []) dX12_number_36 cl_X12_175 (t_X12_isDigit h4) (Nat.le_of_ble_eq_true rfl) shM_0 rfl rfl (Nat.le_of_ble_eq_true rfl) (fun v5 _ => ?_)
    refine C_ifb_eq (tgt := 67) dX12_number_39 (by decide) (fun q9 => ?_) (fun q9 => ?_)
    · refine B_drop 3 (ls' := [.ref 0, .int x1, .int x2, .null, .int (v1 - 48)]) rfl ?_
      exact b_X12_number_J67 x1 x2 (v1 - 48) h4
    · refine B_bipush dX12_number_42 bp_10 ?_
      refine B_iload dX12_number_44 rfl ?_
      refine B_imul dX12_number_46 ?_
      refine B_aload_n dX12_number_47 rfl rfl ?_
      refine B_Vp (st := [.int (10 * (v1 - 48))]) dX12_number_48 cl_X12_221 (t_X12_here h4) (Nat.le_of_ble_eq_true rfl) shM_0 rfl rfl (Nat.le_of_ble_eq_true rfl) (fun v6 _ => ?_)
      refine B_iadd dX12_number_51 ?_
      refine B_bipush dX12_number_52 bp_48 ?_
      refine B_isub dX12_number_54 ?_
      refine B_lv (fun v7 => ?_)
      refine B_istore (ls' := [.ref 0, .int x1, .int x2, .int v1, .int v7]) dX12_number_55 (Nat.le_of_ble_eq_true rfl) rfl rfl ?_
      refine B_aload_n dX12_number_57 rfl rfl ?_
      refine B_dup dX12_number_58 rfl ?_
      refine B_getI dX12_number_59 fl_X12_126 shM_0 rfl ?_
      refine B_iconst dX12_number_62 ic_1 ?_
      refine B_iadd dX12_number_63 ?_
      refine B_putI dX12_number_64 fl_X12_126 fw_X12_10 shM_0 rfl ?_
      refine B_lh (fun h8 => ?_)
      refine B_drop 3 (ls' := [.ref 0, .int x1, .int x2, .null, .int v7]) rfl ?_
      exact b_X12_number_J67 x1 x2 v7 h8
  · refine B_aload_n dX12_number_12 rfl rfl ?_
    refine B_VC (st := []) dX12_number_13 cl_X12_141 (t_X12_fails h2) (Nat.le_of_ble_eq_true rfl) shM_0 rfl rfl (Nat.le_of_ble_eq_true rfl) (fun v10 h11 _ => ?_)
    refine B_pop dX12_number_16 rfl ?_
    refine B_iconst dX12_number_17 ic_0 ?_
    exact B_ireturn dX12_number_18 rfl rfl
def f_X12_mostOf (x0 : Int32) (x1 : Int32) (h : dH) : Int32 :=
  if x0 = 115 then
  if x1 = 2 then
  9
  else
  60
  else
  if x1 = 2 then
  3
  else
  if x1 = 4 then
  30
  else
  9
set_option maxRecDepth 20000 in
set_option maxHeartbeats 4000000 in
theorem t_X12_mostOf (x0 : Int32) (x1 : Int32) (h : dH) : T XM 0 yX12_mostOf cX12_mostOf 2 (some .int) (fiP h) [.int x0, .int x1] h (some (f_X12_mostOf x0 x1 h)) := by
  refine T_of [.int x0, .int x1] (by decide) (fun _ => rfl) (fun _ => Nat.le_of_ble_eq_true rfl) ?_
  show B XM 0 RX12 cX12_mostOf 2 (some .int) (fiP h) 0 [.int x0, .int x1] [] h (some (f_X12_mostOf x0 x1 h))
  unfold f_X12_mostOf
  refine B_iload_n dX12_mostOf_0 rfl rfl ?_
  refine B_bipush dX12_mostOf_1 bp_115 ?_
  refine C_some ?_
  refine C_icmp_ne (tgt := 19) dX12_mostOf_3 (by decide) (fun q4 => ?_) (fun q4 => ?_)
  · refine B_iload_n dX12_mostOf_19 rfl rfl ?_
    refine B_iconst dX12_mostOf_20 ic_2 ?_
    refine C_some ?_
    refine C_icmp_ne (tgt := 28) dX12_mostOf_21 (by decide) (fun q2 => ?_) (fun q2 => ?_)
    · refine B_iload_n dX12_mostOf_28 rfl rfl ?_
      refine B_iconst dX12_mostOf_29 ic_4 ?_
      refine C_some ?_
      refine C_icmp_ne (tgt := 38) dX12_mostOf_30 (by decide) (fun q1 => ?_) (fun q1 => ?_)
      · refine B_bipush dX12_mostOf_38 bp_9 ?_
        exact B_ireturn dX12_mostOf_40 rfl rfl
      · refine B_bipush dX12_mostOf_33 bp_30 ?_
        refine B_goto (tgt := 40) dX12_mostOf_35 (by decide) ?_
        exact B_ireturn dX12_mostOf_40 rfl rfl
    · refine B_iconst dX12_mostOf_24 ic_3 ?_
      refine B_goto (tgt := 40) dX12_mostOf_25 (by decide) ?_
      exact B_ireturn dX12_mostOf_40 rfl rfl
  · refine B_iload_n dX12_mostOf_6 rfl rfl ?_
    refine B_iconst dX12_mostOf_7 ic_2 ?_
    refine C_some ?_
    refine C_icmp_ne (tgt := 16) dX12_mostOf_8 (by decide) (fun q3 => ?_) (fun q3 => ?_)
    · refine B_bipush dX12_mostOf_16 bp_60 ?_
      exact B_ireturn dX12_mostOf_18 rfl rfl
    · refine B_bipush dX12_mostOf_11 bp_9 ?_
      refine B_goto (tgt := 18) dX12_mostOf_13 (by decide) ?_
      exact B_ireturn dX12_mostOf_18 rfl rfl
def f_X12_leastOf (x0 : Int32) (x1 : Int32) (h : dH) : Int32 :=
  if x0 = 115 then
  if x1 < 2 then
  1
  else
  0
  else
  0
set_option maxRecDepth 20000 in
set_option maxHeartbeats 4000000 in
theorem t_X12_leastOf (x0 : Int32) (x1 : Int32) (h : dH) : T XM 0 yX12_leastOf cX12_leastOf 2 (some .int) (fiP h) [.int x0, .int x1] h (some (f_X12_leastOf x0 x1 h)) := by
  refine T_of [.int x0, .int x1] (by decide) (fun _ => rfl) (fun _ => Nat.le_of_ble_eq_true rfl) ?_
  show B XM 0 RX12 cX12_leastOf 2 (some .int) (fiP h) 0 [.int x0, .int x1] [] h (some (f_X12_leastOf x0 x1 h))
  unfold f_X12_leastOf
  refine B_iload_n dX12_leastOf_0 rfl rfl ?_
  refine B_bipush dX12_leastOf_1 bp_115 ?_
  refine C_some ?_
  refine C_icmp_ne (tgt := 15) dX12_leastOf_3 (by decide) (fun q2 => ?_) (fun q2 => ?_)
  · refine B_iconst dX12_leastOf_15 ic_0 ?_
    exact B_ireturn dX12_leastOf_16 rfl rfl
  · refine B_iload_n dX12_leastOf_6 rfl rfl ?_
    refine B_iconst dX12_leastOf_7 ic_2 ?_
    refine C_some ?_
    refine C_icmp_ge (tgt := 15) dX12_leastOf_8 (by decide) (fun q1 => ?_) (fun q1 => ?_)
    · refine B_iconst dX12_leastOf_15 ic_0 ?_
      exact B_ireturn dX12_leastOf_16 rfl rfl
    · refine B_iconst dX12_leastOf_11 ic_1 ?_
      refine B_goto (tgt := 16) dX12_leastOf_12 (by decide) ?_
      exact B_ireturn dX12_leastOf_16 rfl rfl
def f_X12_usual (x0 : Int32) (x1 : Int32) (h : dH) : Int32 :=
  if x0 = 115 then
  if x1 = 0 then
  30
  else
  if x1 = 1 then
  40
  else
  2
  else
  if x1 = 3 then
  3
  else
  if x1 = 4 then
  6
  else
  0
set_option maxRecDepth 20000 in
set_option maxHeartbeats 4000000 in
theorem t_X12_usual (x0 : Int32) (x1 : Int32) (h : dH) : T XM 0 yX12_usual cX12_usual 2 (some .int) (fiP h) [.int x0, .int x1] h (some (f_X12_usual x0 x1 h)) := by
  refine T_of [.int x0, .int x1] (by decide) (fun _ => rfl) (fun _ => Nat.le_of_ble_eq_true rfl) ?_
  show B XM 0 RX12 cX12_usual 2 (some .int) (fiP h) 0 [.int x0, .int x1] [] h (some (f_X12_usual x0 x1 h))
  unfold f_X12_usual
  refine B_iload_n dX12_usual_0 rfl rfl ?_
  refine B_bipush dX12_usual_1 bp_115 ?_
  refine C_some ?_
  refine C_icmp_ne (tgt := 27) dX12_usual_3 (by decide) (fun q5 => ?_) (fun q5 => ?_)
  · refine B_iload_n dX12_usual_27 rfl rfl ?_
    refine B_iconst dX12_usual_28 ic_3 ?_
    refine C_some ?_
    refine C_icmp_ne (tgt := 36) dX12_usual_29 (by decide) (fun q2 => ?_) (fun q2 => ?_)
    · refine B_iload_n dX12_usual_36 rfl rfl ?_
      refine B_iconst dX12_usual_37 ic_4 ?_
      refine C_some ?_
      refine C_icmp_ne (tgt := 46) dX12_usual_38 (by decide) (fun q1 => ?_) (fun q1 => ?_)
      · refine B_iconst dX12_usual_46 ic_0 ?_
        exact B_ireturn dX12_usual_47 rfl rfl
      · refine B_bipush dX12_usual_41 bp_6 ?_
        refine B_goto (tgt := 47) dX12_usual_43 (by decide) ?_
        exact B_ireturn dX12_usual_47 rfl rfl
    · refine B_iconst dX12_usual_32 ic_3 ?_
      refine B_goto (tgt := 47) dX12_usual_33 (by decide) ?_
      exact B_ireturn dX12_usual_47 rfl rfl
  · refine B_iload_n dX12_usual_6 rfl rfl ?_
    refine C_some ?_
    refine C_if_ne (tgt := 15) dX12_usual_7 (by decide) (fun q4 => ?_) (fun q4 => ?_)
    · refine B_iload_n dX12_usual_15 rfl rfl ?_
      refine B_iconst dX12_usual_16 ic_1 ?_
      refine C_some ?_
      refine C_icmp_ne (tgt := 25) dX12_usual_17 (by decide) (fun q3 => ?_) (fun q3 => ?_)
      · refine B_iconst dX12_usual_25 ic_2 ?_
        exact B_ireturn dX12_usual_26 rfl rfl
      · refine B_bipush dX12_usual_20 bp_40 ?_
        refine B_goto (tgt := 26) dX12_usual_22 (by decide) ?_
        exact B_ireturn dX12_usual_26 rfl rfl
    · refine B_bipush dX12_usual_10 bp_30 ?_
      refine B_goto (tgt := 26) dX12_usual_12 (by decide) ?_
      exact B_ireturn dX12_usual_26 rfl rfl
def f_X12_readItems_L45 (to : Nat) (nn : Nat) (ks : Nat) : Nat → Int32 → Int32 → Int32 → Int32 → dH → Option (dH)
  | 0, _, _, _, _, _ => none
  | n + 1, y1, y3, y5, y6, h =>
    if y6 = (-1) then
    some h
    else
    if (h.1 0 11) = (-1) then
    if (f_X12_has y5 y6 h) then
    (f_X12_fails h).bind fun rv17 =>
    some rv17.2
    else
    (some ((y5 ||| (1 <<< (y6 &&& 31))))).bind fun v7 =>
    (some (dPut h 0 10 ((h.1 0 10) + 1))).bind fun h8 =>
    (f_X12_number (f_X12_leastOf y1 y6 h8) (f_X12_mostOf y1 y6 h8) h8).bind fun rv9 =>
    if dIn (y3 + y6) nn then
    (some (dPut rv9.2 to (dI (y3 + y6)) rv9.1)).bind fun h12 =>
    if (h12.1 0 11) = (-1) then
    (f_X12_look h12).bind fun rv13 =>
    (some ((f_X12_spotOf ks rv13.1))).bind fun v15 =>
    (f_X12_readItems_L45 to nn ks n) y1 y3 v7 v15 rv13.2
    else
    (f_X12_readItems_L45 to nn ks n) y1 y3 v7 y6 h12
    else none
    else
    some h
set_option maxRecDepth 20000 in
set_option maxHeartbeats 4000000 in
theorem b_X12_readItems_L45 {to : Nat} {nn : Nat} {ks : Nat} (hto : XM.1[to]? = some (.inr (0, nn))) (hks : ks < 9) : ∀ (n : Nat) (y1 : Int32) (y3 : Int32) (y5 : Int32) (y6 : Int32) (h : dH), B XM 8 RX12 cX12_readItems 7 none fiV 45 [.ref 0, .int y1, .ref to, .int y3, .ref (2000 + ks), .int y5, .int y6] [] h (f_X12_readItems_L45 to nn ks n y1 y3 y5 y6 h) := by
  intro n
  induction n with
  | zero =>
    intro y1 y3 y5 y6 h
    exact B_none
  | succ n ih =>
    intro y1 y3 y5 y6 h
    rw [f_X12_readItems_L45]
    refine B_iload dX12_readItems_45 rfl ?_
    refine B_iconst dX12_readItems_47 ic_m1 ?_
    refine C_icmp_eq (tgt := 138) dX12_readItems_48 (by decide) (fun q21 => ?_) (fun q21 => ?_)
    · exact B_return dX12_readItems_138 rfl rfl
    · refine B_aload_n dX12_readItems_51 rfl rfl ?_
      refine B_getI dX12_readItems_52 fl_X12_135 shM_0 rfl ?_
      refine B_iconst dX12_readItems_55 ic_m1 ?_
      refine C_icmp_ne (tgt := 138) dX12_readItems_56 (by decide) (fun q20 => ?_) (fun q20 => ?_)
      · exact B_return dX12_readItems_138 rfl rfl
      · refine B_iload dX12_readItems_59 rfl ?_
        refine B_iload dX12_readItems_61 rfl ?_
        refine B_STb (st := []) dX12_readItems_63 cl_X12_236 (t_X12_has y5 y6 h) (Nat.le_of_ble_eq_true rfl) rfl rfl (Nat.le_of_ble_eq_true rfl) ?_
        refine C_ifb_eq (tgt := 75) dX12_readItems_66 (by decide) (fun q19 => ?_) (fun q19 => ?_)
        · refine B_iload dX12_readItems_75 rfl ?_
          refine B_iconst dX12_readItems_77 ic_1 ?_
          refine B_iload dX12_readItems_78 rfl ?_
          refine B_ishl dX12_readItems_80 ?_
          refine B_ior dX12_readItems_81 ?_
          refine B_lv (fun v7 => ?_)
          refine B_istore (ls' := [.ref 0, .int y1, .ref to, .int y3, .ref (2000 + ks), .int v7, .int y6]) dX12_readItems_82 (Nat.le_of_ble_eq_true rfl) rfl rfl ?_
          refine B_aload_n dX12_readItems_84 rfl rfl ?_
          refine B_dup dX12_readItems_85 rfl ?_
          refine B_getI dX12_readItems_86 fl_X12_126 shM_0 rfl ?_
          refine B_iconst dX12_readItems_89 ic_1 ?_
          refine B_iadd dX12_readItems_90 ?_
          refine B_putI dX12_readItems_91 fl_X12_126 fw_X12_10 shM_0 rfl ?_
          refine B_lh (fun h8 => ?_)
          refine B_aload_n dX12_readItems_94 rfl rfl ?_
          refine B_iload_n dX12_readItems_95 rfl rfl ?_
          refine B_iload dX12_readItems_96 rfl ?_
          refine B_iadd dX12_readItems_98 ?_
          refine B_aload_n dX12_readItems_99 rfl rfl ?_
          refine B_iload_n dX12_readItems_100 rfl rfl ?_
          refine B_iload dX12_readItems_101 rfl ?_
          refine B_St (st := [.ref 0, .int (y3 + y6), .ref to]) dX12_readItems_103 cl_X12_240 (t_X12_leastOf y1 y6 h8) (Nat.le_of_ble_eq_true rfl) rfl rfl (Nat.le_of_ble_eq_true rfl) ?_
          refine B_iload_n dX12_readItems_106 rfl rfl ?_
          refine B_iload dX12_readItems_107 rfl ?_
          refine B_St (st := [.int (f_X12_leastOf y1 y6 h8), .ref 0, .int (y3 + y6), .ref to]) dX12_readItems_109 cl_X12_243 (t_X12_mostOf y1 y6 h8) (Nat.le_of_ble_eq_true rfl) rfl rfl (Nat.le_of_ble_eq_true rfl) ?_
          refine B_VI (st := [.int (y3 + y6), .ref to]) dX12_readItems_112 cl_X12_246 (t_X12_number (f_X12_leastOf y1 y6 h8) (f_X12_mostOf y1 y6 h8) h8) (Nat.le_of_ble_eq_true rfl) shM_0 rfl rfl (Nat.le_of_ble_eq_true rfl) (fun v9 h10 _ => ?_)
          refine C_chk (fun q11 => ?_)
          refine L_iast dX12_readItems_115 hto q11 rfl ?_
          refine B_lh (fun h12 => ?_)
          refine B_aload_n dX12_readItems_116 rfl rfl ?_
          refine B_getI dX12_readItems_117 fl_X12_135 shM_0 rfl ?_
          refine B_iconst dX12_readItems_120 ic_m1 ?_
          refine C_icmp_ne (tgt := 45) dX12_readItems_121 (by decide) (fun q16 => ?_) (fun q16 => ?_)
          · exact ih y1 y3 v7 y6  h12
          · refine B_aload dX12_readItems_124 rfl ?_
            refine B_aload_n dX12_readItems_126 rfl rfl ?_
            refine B_VI (st := [.ref (2000 + ks)]) dX12_readItems_127 cl_X12_145 (t_X12_look h12) (Nat.le_of_ble_eq_true rfl) shM_0 rfl rfl (Nat.le_of_ble_eq_true rfl) (fun v13 h14 _ => ?_)
            refine B_St (st := []) dX12_readItems_130 cl_X12_232 (t_X12_spotOf ks hks v13 h14) (Nat.le_of_ble_eq_true rfl) rfl rfl (Nat.le_of_ble_eq_true rfl) ?_
            refine B_lv (fun v15 => ?_)
            refine B_istore (ls' := [.ref 0, .int y1, .ref to, .int y3, .ref (2000 + ks), .int v7, .int v15]) dX12_readItems_133 (Nat.le_of_ble_eq_true rfl) rfl rfl ?_
            refine B_goto (tgt := 45) dX12_readItems_135 (by decide) ?_
            exact ih y1 y3 v7 v15  h14
        · refine B_aload_n dX12_readItems_69 rfl rfl ?_
          refine B_VC (st := []) dX12_readItems_70 cl_X12_141 (t_X12_fails h) (Nat.le_of_ble_eq_true rfl) shM_0 rfl rfl (Nat.le_of_ble_eq_true rfl) (fun v17 h18 _ => ?_)
          refine B_pop dX12_readItems_73 rfl ?_
          exact B_return dX12_readItems_74 rfl rfl
def f_X12_readItems_L3 (to : Nat) (nn : Nat) (ks : Nat) : Nat → Int32 → Int32 → Int32 → dH → Option (dH)
  | 0, _, _, _, _ => none
  | n + 1, y1, y3, y5, h =>
    if y5 < (sln ks) then
    if dIn (y3 + y5) nn then
    (some (dPut h to (dI (y3 + y5)) (f_X12_usual y1 y5 h))).bind fun h5 =>
    (f_X12_readItems_L3 to nn ks n) y1 y3 (y5 + 1) h5
    else none
    else
    (f_X12_look h).bind fun rv1 =>
    (some ((f_X12_spotOf ks rv1.1))).bind fun v3 =>
    f_X12_readItems_L45 to nn ks dFu y1 y3 0 v3 rv1.2
set_option maxRecDepth 20000 in
set_option maxHeartbeats 4000000 in
theorem b_X12_readItems_L3 {to : Nat} {nn : Nat} {ks : Nat} (hto : XM.1[to]? = some (.inr (0, nn))) (hks : ks < 9) : ∀ (n : Nat) (y1 : Int32) (y3 : Int32) (y5 : Int32) (h : dH), B XM 8 RX12 cX12_readItems 7 none fiV 3 [.ref 0, .int y1, .ref to, .int y3, .ref (2000 + ks), .int y5, .null] [] h (f_X12_readItems_L3 to nn ks n y1 y3 y5 h) := by
  intro n
  induction n with
  | zero =>
    intro y1 y3 y5 h
    exact B_none
  | succ n ih =>
    intro y1 y3 y5 h
    rw [f_X12_readItems_L3]
    refine B_iload dX12_readItems_3 rfl ?_
    refine B_aload dX12_readItems_5 rfl ?_
    refine B_slen dX12_readItems_7 cl_X12_106 (Nat.le_of_ble_eq_true rfl) hks (Nat.le_of_ble_eq_true rfl) ?_
    refine C_icmp_ge (tgt := 31) dX12_readItems_10 (by decide) (fun q6 => ?_) (fun q6 => ?_)
    · refine B_iconst dX12_readItems_31 ic_0 ?_
      refine B_istore (ls' := [.ref 0, .int y1, .ref to, .int y3, .ref (2000 + ks), .int 0, .null]) dX12_readItems_32 (Nat.le_of_ble_eq_true rfl) rfl rfl ?_
      refine B_aload dX12_readItems_34 rfl ?_
      refine B_aload_n dX12_readItems_36 rfl rfl ?_
      refine B_VI (st := [.ref (2000 + ks)]) dX12_readItems_37 cl_X12_145 (t_X12_look h) (Nat.le_of_ble_eq_true rfl) shM_0 rfl rfl (Nat.le_of_ble_eq_true rfl) (fun v1 h2 _ => ?_)
      refine B_St (st := []) dX12_readItems_40 cl_X12_232 (t_X12_spotOf ks hks v1 h2) (Nat.le_of_ble_eq_true rfl) rfl rfl (Nat.le_of_ble_eq_true rfl) ?_
      refine B_lv (fun v3 => ?_)
      refine B_istore (ls' := [.ref 0, .int y1, .ref to, .int y3, .ref (2000 + ks), .int 0, .int v3]) dX12_readItems_43 (Nat.le_of_ble_eq_true rfl) rfl rfl ?_
      exact b_X12_readItems_L45 hto hks dFu y1 y3 0 v3 h2
    · refine B_aload_n dX12_readItems_13 rfl rfl ?_
      refine B_iload_n dX12_readItems_14 rfl rfl ?_
      refine B_iload dX12_readItems_15 rfl ?_
      refine B_iadd dX12_readItems_17 ?_
      refine B_iload_n dX12_readItems_18 rfl rfl ?_
      refine B_iload dX12_readItems_19 rfl ?_
      refine B_St (st := [.int (y3 + y5), .ref to]) dX12_readItems_21 cl_X12_228 (t_X12_usual y1 y5 h) (Nat.le_of_ble_eq_true rfl) rfl rfl (Nat.le_of_ble_eq_true rfl) ?_
      refine C_chk (fun q4 => ?_)
      refine L_iast dX12_readItems_24 hto q4 rfl ?_
      refine B_lh (fun h5 => ?_)
      refine B_iinc (w := (y5 + 1)) (ls' := [.ref 0, .int y1, .ref to, .int y3, .ref (2000 + ks), .int (y5 + 1), .null]) dX12_readItems_25 rfl (congrArg (fun z => y5 + z) ic_1) (Nat.le_of_ble_eq_true rfl) rfl rfl ?_
      refine B_goto (tgt := 3) dX12_readItems_28 (by decide) ?_
      exact ih y1 y3 (y5 + 1)  h5
def f_X12_readItems (x1 : Int32) (to nn : Nat) (x3 : Int32) (ks : Nat) (h : dH) : Option (dH) :=
  f_X12_readItems_L3 to nn ks dFu x1 x3 0 h
set_option maxRecDepth 20000 in
set_option maxHeartbeats 4000000 in
theorem t_X12_readItems (x1 : Int32) (to nn : Nat) (hto : XM.1[to]? = some (.inr (0, nn))) (x3 : Int32) (ks : Nat) (hks : ks < 9) (h : dH) : T XM 8 yX12_readItems cX12_readItems 7 none fiV [.ref 0, .int x1, .ref to, .int x3, .ref (2000 + ks)] h (f_X12_readItems x1 to nn x3 ks h) := by
  refine T_of [.ref 0, .int x1, .ref to, .int x3, .ref (2000 + ks), .null, .null] (by decide) (fun _ => rfl) (fun _ => Nat.le_of_ble_eq_true rfl) ?_
  show B XM 8 RX12 cX12_readItems 7 none fiV 0 [.ref 0, .int x1, .ref to, .int x3, .ref (2000 + ks), .null, .null] [] h (f_X12_readItems x1 to nn x3 ks h)
  unfold f_X12_readItems
  refine B_iconst dX12_readItems_0 ic_0 ?_
  refine B_istore (ls' := [.ref 0, .int x1, .ref to, .int x3, .ref (2000 + ks), .int 0, .null]) dX12_readItems_1 (Nat.le_of_ble_eq_true rfl) rfl rfl ?_
  exact b_X12_readItems_L3 hto hks dFu x1 x3 0 h
def f_X12_readClause_J38 (y1 : Int32) (z0 : Bool) (h : dH) : Option (dH) :=
  if z0 then
  (some (dPut h 0 10 ((h.1 0 10) + 1))).bind fun h7 =>
  if y1 = 115 then
  (some (dPut h7 0 27 1)).bind fun h11 =>
  (f_X12_readItems y1 6 3 0 6 h11).bind fun h13 =>
  some h13
  else
  (some (dPut h7 0 25 ((h7.1 0 25) + 1))).bind fun h8 =>
  (f_X12_readItems y1 8 35 (5 * ((h8.1 0 25) - 1)) 7 h8).bind fun h10 =>
  some h10
  else
  (f_X12_fails h).bind fun rv15 =>
  some rv15.2
set_option maxRecDepth 20000 in
set_option maxHeartbeats 4000000 in
theorem b_X12_readClause_J38 (y1 : Int32) (z0 : Bool) (h : dH) : B XM 9 RX12 cX12_readClause 3 none fiV 38 [.ref 0, .int y1, .null] [.int (bi z0)] h (f_X12_readClause_J38 y1 z0 h) := by
  unfold f_X12_readClause_J38
  refine B_istore_n (ls' := [.ref 0, .int y1, .int (bi z0)]) dX12_readClause_38 rfl (Nat.le_of_ble_eq_true rfl) rfl rfl ?_
  refine B_iload_n dX12_readClause_39 rfl rfl ?_
  refine C_ifb_ne (tgt := 49) dX12_readClause_40 (by decide) (fun q17 => ?_) (fun q17 => ?_)
  · refine B_aload_n dX12_readClause_49 rfl rfl ?_
    refine B_dup dX12_readClause_50 rfl ?_
    refine B_getI dX12_readClause_51 fl_X12_126 shM_0 rfl ?_
    refine B_iconst dX12_readClause_54 ic_1 ?_
    refine B_iadd dX12_readClause_55 ?_
    refine B_putI dX12_readClause_56 fl_X12_126 fw_X12_10 shM_0 rfl ?_
    refine B_lh (fun h7 => ?_)
    refine B_iload_n dX12_readClause_59 rfl rfl ?_
    refine B_bipush dX12_readClause_60 bp_115 ?_
    refine C_icmp_ne (tgt := 85) dX12_readClause_62 (by decide) (fun q14 => ?_) (fun q14 => ?_)
    · refine B_aload_n dX12_readClause_85 rfl rfl ?_
      refine B_dup dX12_readClause_86 rfl ?_
      refine B_getI dX12_readClause_87 fl_X12_252 shM_0 rfl ?_
      refine B_iconst dX12_readClause_90 ic_1 ?_
      refine B_iadd dX12_readClause_91 ?_
      refine B_putI dX12_readClause_92 fl_X12_252 fw_X12_25 shM_0 rfl ?_
      refine B_lh (fun h8 => ?_)
      refine B_aload_n dX12_readClause_95 rfl rfl ?_
      refine B_iload_n dX12_readClause_96 rfl rfl ?_
      refine B_aload_n dX12_readClause_97 rfl rfl ?_
      refine B_getR dX12_readClause_98 fl_X12_46 shM_0 rfl (rfM_0_21 _) ?_
      refine B_iconst dX12_readClause_101 ic_5 ?_
      refine B_aload_n dX12_readClause_102 rfl rfl ?_
      refine B_getI dX12_readClause_103 fl_X12_252 shM_0 rfl ?_
      refine B_iconst dX12_readClause_106 ic_1 ?_
      refine B_isub dX12_readClause_107 ?_
      refine B_imul dX12_readClause_108 ?_
      refine B_ldcwS (j := 7) dX12_readClause_109 rfl rfl rfl ?_
      refine B_VV (st := []) dX12_readClause_112 cl_X12_257 (t_X12_readItems y1 8 35 shM_8 (5 * ((h8.1 0 25) - 1)) 7 (by decide) h8) (Nat.le_of_ble_eq_true rfl) shM_0 rfl rfl (Nat.le_of_ble_eq_true rfl) (fun h10 _ => ?_)
      exact B_return dX12_readClause_115 rfl rfl
    · refine B_aload_n dX12_readClause_65 rfl rfl ?_
      refine B_iconst dX12_readClause_66 ic_1 ?_
      refine B_putZ dX12_readClause_67 fl_X12_249 fw_X12_27 shM_0 rfl (Or.inr rfl) ?_
      refine B_lh (fun h11 => ?_)
      refine B_aload_n dX12_readClause_70 rfl rfl ?_
      refine B_iload_n dX12_readClause_71 rfl rfl ?_
      refine B_aload_n dX12_readClause_72 rfl rfl ?_
      refine B_getR dX12_readClause_73 fl_X12_40 shM_0 rfl (rfM_0_19 _) ?_
      refine B_iconst dX12_readClause_76 ic_0 ?_
      refine B_ldcS (j := 6) dX12_readClause_77 rfl rfl rfl ?_
      refine B_VV (st := []) dX12_readClause_79 cl_X12_257 (t_X12_readItems y1 6 3 shM_6 0 6 (by decide) h11) (Nat.le_of_ble_eq_true rfl) shM_0 rfl rfl (Nat.le_of_ble_eq_true rfl) (fun h13 _ => ?_)
      refine B_goto (tgt := 115) dX12_readClause_82 (by decide) ?_
      exact B_return dX12_readClause_115 rfl rfl
  · refine B_aload_n dX12_readClause_43 rfl rfl ?_
    refine B_VC (st := []) dX12_readClause_44 cl_X12_141 (t_X12_fails h) (Nat.le_of_ble_eq_true rfl) shM_0 rfl rfl (Nat.le_of_ble_eq_true rfl) (fun v15 h16 _ => ?_)
    refine B_pop dX12_readClause_47 rfl ?_
    exact B_return dX12_readClause_48 rfl rfl
def f_X12_readClause_J33 (y1 : Int32) (h : dH) : Option (dH) :=
  f_X12_readClause_J38 y1 true h
set_option maxRecDepth 20000 in
set_option maxHeartbeats 4000000 in
theorem b_X12_readClause_J33 (y1 : Int32) (h : dH) : B XM 9 RX12 cX12_readClause 3 none fiV 33 [.ref 0, .int y1, .null] [] h (f_X12_readClause_J33 y1 h) := by
  unfold f_X12_readClause_J33
  refine B_iconst dX12_readClause_33 ic_1 ?_
  refine B_goto (tgt := 38) dX12_readClause_34 (by decide) ?_
  exact b_X12_readClause_J38 y1 true h
def f_X12_readClause_J37 (y1 : Int32) (h : dH) : Option (dH) :=
  f_X12_readClause_J38 y1 false h
set_option maxRecDepth 20000 in
set_option maxHeartbeats 4000000 in
theorem b_X12_readClause_J37 (y1 : Int32) (h : dH) : B XM 9 RX12 cX12_readClause 3 none fiV 37 [.ref 0, .int y1, .null] [] h (f_X12_readClause_J37 y1 h) := by
  unfold f_X12_readClause_J37
  refine B_iconst dX12_readClause_37 ic_0 ?_
  exact b_X12_readClause_J38 y1 false h
def f_X12_readClause_J18 (y1 : Int32) (h : dH) : Option (dH) :=
  if y1 = 112 then
  if (h.1 0 25) < 7 then
  f_X12_readClause_J33 y1 h
  else
  f_X12_readClause_J37 y1 h
  else
  f_X12_readClause_J37 y1 h
set_option maxRecDepth 20000 in
set_option maxHeartbeats 4000000 in
theorem b_X12_readClause_J18 (y1 : Int32) (h : dH) : B XM 9 RX12 cX12_readClause 3 none fiV 18 [.ref 0, .int y1, .null] [] h (f_X12_readClause_J18 y1 h) := by
  unfold f_X12_readClause_J18
  refine B_iload_n dX12_readClause_18 rfl rfl ?_
  refine B_bipush dX12_readClause_19 bp_112 ?_
  refine C_icmp_ne (tgt := 37) dX12_readClause_21 (by decide) (fun q6 => ?_) (fun q6 => ?_)
  · exact b_X12_readClause_J37 y1 h
  · refine B_aload_n dX12_readClause_24 rfl rfl ?_
    refine B_getI dX12_readClause_25 fl_X12_252 shM_0 rfl ?_
    refine B_bipush dX12_readClause_28 bp_7 ?_
    refine C_icmp_ge (tgt := 37) dX12_readClause_30 (by decide) (fun q5 => ?_) (fun q5 => ?_)
    · exact b_X12_readClause_J37 y1 h
    · exact b_X12_readClause_J33 y1 h
def f_X12_readClause (h : dH) : Option (dH) :=
  (f_X12_look h).bind fun rv1 =>
  if rv1.1 = 115 then
  if (rv1.2.1 0 27) = 0 then
  f_X12_readClause_J33 rv1.1 rv1.2
  else
  f_X12_readClause_J18 rv1.1 rv1.2
  else
  f_X12_readClause_J18 rv1.1 rv1.2
set_option maxRecDepth 20000 in
set_option maxHeartbeats 4000000 in
theorem t_X12_readClause (h : dH) : T XM 9 yX12_readClause cX12_readClause 3 none fiV [.ref 0] h (f_X12_readClause h) := by
  refine T_of [.ref 0, .null, .null] (by decide) (fun _ => rfl) (fun _ => Nat.le_of_ble_eq_true rfl) ?_
  show B XM 9 RX12 cX12_readClause 3 none fiV 0 [.ref 0, .null, .null] [] h (f_X12_readClause h)
  unfold f_X12_readClause
  refine B_aload_n dX12_readClause_0 rfl rfl ?_
  refine B_VI (st := []) dX12_readClause_1 cl_X12_145 (t_X12_look h) (Nat.le_of_ble_eq_true rfl) shM_0 rfl rfl (Nat.le_of_ble_eq_true rfl) (fun v1 h2 _ => ?_)
  refine B_istore_n (ls' := [.ref 0, .int v1, .null]) dX12_readClause_4 rfl (Nat.le_of_ble_eq_true rfl) rfl rfl ?_
  refine B_iload_n dX12_readClause_5 rfl rfl ?_
  refine B_bipush dX12_readClause_6 bp_115 ?_
  refine C_icmp_ne (tgt := 18) dX12_readClause_8 (by decide) (fun q4 => ?_) (fun q4 => ?_)
  · exact b_X12_readClause_J18 v1 h2
  · refine B_aload_n dX12_readClause_11 rfl rfl ?_
    refine B_getZ dX12_readClause_12 fl_X12_249 shM_0 rfl ?_
    refine C_if_eq (tgt := 33) dX12_readClause_15 (by decide) (fun q3 => ?_) (fun q3 => ?_)
    · exact b_X12_readClause_J33 v1 h2
    · exact b_X12_readClause_J18 v1 h2
def f_X12_isWhole_J61 (kL2 : Int32 → Option (Bool)) (kL12 : Int32 → Int32 → Option (Bool)) (y1 : Int32) (y2 : Int32) (h : dH) : Option (Bool) :=
  kL12 y1 (y2 + 1)
set_option maxRecDepth 20000 in
set_option maxHeartbeats 4000000 in
theorem b_X12_isWhole_J61 {kL2 : Int32 → Option (Bool)} {kL12 : Int32 → Int32 → Option (Bool)} (h : dH) (hkL2 : ∀ (y1 : Int32), B XM 0 RX12 cX12_isWhole 3 (some .boolean) (fiB h) 2 [.ref 0, .int y1, .null] [] h (kL2 y1)) (hkL12 : ∀ (y1 : Int32) (y2 : Int32), B XM 0 RX12 cX12_isWhole 3 (some .boolean) (fiB h) 12 [.ref 0, .int y1, .int y2] [] h (kL12 y1 y2)) (y1 : Int32) (y2 : Int32) : B XM 0 RX12 cX12_isWhole 3 (some .boolean) (fiB h) 61 [.ref 0, .int y1, .int y2] [] h (f_X12_isWhole_J61 kL2 kL12 y1 y2 h) := by
  unfold f_X12_isWhole_J61
  refine B_iinc (w := (y2 + 1)) (ls' := [.ref 0, .int y1, .int (y2 + 1)]) dX12_isWhole_61 rfl (congrArg (fun z => y2 + z) ic_1) (Nat.le_of_ble_eq_true rfl) rfl rfl ?_
  refine B_goto (tgt := 12) dX12_isWhole_64 (by decide) ?_
  exact hkL12 y1 (y2 + 1)  
def f_X12_isWhole_L12 (kL2 : Int32 → Option (Bool)) (h : dH) : Nat → Int32 → Int32 → Option (Bool)
  | 0, _, _ => none
  | n + 1, y1, y2 =>
    if y2 < y1 then
    if dIn (5 * y1) 35 then
    if dIn (5 * y2) 35 then
    if (h.1 8 (dI (5 * y1))) = (h.1 8 (dI (5 * y2))) then
    if dIn ((5 * y1) + 1) 35 then
    if dIn ((5 * y2) + 1) 35 then
    if (h.1 8 (dI ((5 * y1) + 1))) = (h.1 8 (dI ((5 * y2) + 1))) then
    some false
    else
    f_X12_isWhole_J61 kL2 (f_X12_isWhole_L12 kL2 h n) y1 y2 h
    else none
    else none
    else
    f_X12_isWhole_J61 kL2 (f_X12_isWhole_L12 kL2 h n) y1 y2 h
    else none
    else none
    else
    kL2 (y1 + 1)
set_option maxRecDepth 20000 in
set_option maxHeartbeats 4000000 in
theorem b_X12_isWhole_L12 {kL2 : Int32 → Option (Bool)} (h : dH) (hkL2 : ∀ (y1 : Int32), B XM 0 RX12 cX12_isWhole 3 (some .boolean) (fiB h) 2 [.ref 0, .int y1, .null] [] h (kL2 y1)) : ∀ (n : Nat) (y1 : Int32) (y2 : Int32), B XM 0 RX12 cX12_isWhole 3 (some .boolean) (fiB h) 12 [.ref 0, .int y1, .int y2] [] h (f_X12_isWhole_L12 kL2 h n y1 y2) := by
  intro n
  induction n with
  | zero =>
    intro y1 y2
    exact B_none
  | succ n ih =>
    intro y1 y2
    rw [f_X12_isWhole_L12]
    refine B_iload_n dX12_isWhole_12 rfl rfl ?_
    refine B_iload_n dX12_isWhole_13 rfl rfl ?_
    refine C_icmp_ge (tgt := 67) dX12_isWhole_14 (by decide) (fun q9 => ?_) (fun q9 => ?_)
    · refine B_iinc (w := (y1 + 1)) (ls' := [.ref 0, .int (y1 + 1), .int y2]) dX12_isWhole_67 rfl (congrArg (fun z => y1 + z) ic_1) (Nat.le_of_ble_eq_true rfl) rfl rfl ?_
      refine B_goto (tgt := 2) dX12_isWhole_70 (by decide) ?_
      refine B_drop 2 (ls' := [.ref 0, .int (y1 + 1), .null]) rfl ?_
      exact hkL2 (y1 + 1)  
    · refine B_aload_n dX12_isWhole_17 rfl rfl ?_
      refine B_getR dX12_isWhole_18 fl_X12_46 shM_0 rfl (rfM_0_21 _) ?_
      refine B_iconst dX12_isWhole_21 ic_5 ?_
      refine B_iload_n dX12_isWhole_22 rfl rfl ?_
      refine B_imul dX12_isWhole_23 ?_
      refine C_chk (fun q3 => ?_)
      refine L_iald dX12_isWhole_24 shM_8 q3 rfl ?_
      refine B_aload_n dX12_isWhole_25 rfl rfl ?_
      refine B_getR dX12_isWhole_26 fl_X12_46 shM_0 rfl (rfM_0_21 _) ?_
      refine B_iconst dX12_isWhole_29 ic_5 ?_
      refine B_iload_n dX12_isWhole_30 rfl rfl ?_
      refine B_imul dX12_isWhole_31 ?_
      refine C_chk (fun q4 => ?_)
      refine L_iald dX12_isWhole_32 shM_8 q4 rfl ?_
      refine C_icmp_ne (tgt := 61) dX12_isWhole_33 (by decide) (fun q8 => ?_) (fun q8 => ?_)
      · exact b_X12_isWhole_J61 h hkL2 (fun qy1 qy2 => ih qy1 qy2) y1 y2
      · refine B_aload_n dX12_isWhole_36 rfl rfl ?_
        refine B_getR dX12_isWhole_37 fl_X12_46 shM_0 rfl (rfM_0_21 _) ?_
        refine B_iconst dX12_isWhole_40 ic_5 ?_
        refine B_iload_n dX12_isWhole_41 rfl rfl ?_
        refine B_imul dX12_isWhole_42 ?_
        refine B_iconst dX12_isWhole_43 ic_1 ?_
        refine B_iadd dX12_isWhole_44 ?_
        refine C_chk (fun q5 => ?_)
        refine L_iald dX12_isWhole_45 shM_8 q5 rfl ?_
        refine B_aload_n dX12_isWhole_46 rfl rfl ?_
        refine B_getR dX12_isWhole_47 fl_X12_46 shM_0 rfl (rfM_0_21 _) ?_
        refine B_iconst dX12_isWhole_50 ic_5 ?_
        refine B_iload_n dX12_isWhole_51 rfl rfl ?_
        refine B_imul dX12_isWhole_52 ?_
        refine B_iconst dX12_isWhole_53 ic_1 ?_
        refine B_iadd dX12_isWhole_54 ?_
        refine C_chk (fun q6 => ?_)
        refine L_iald dX12_isWhole_55 shM_8 q6 rfl ?_
        refine C_icmp_ne (tgt := 61) dX12_isWhole_56 (by decide) (fun q7 => ?_) (fun q7 => ?_)
        · exact b_X12_isWhole_J61 h hkL2 (fun qy1 qy2 => ih qy1 qy2) y1 y2
        · refine B_iconst dX12_isWhole_59 ic_0 ?_
          exact B_zreturn dX12_isWhole_60 rfl rfl rfl
def f_X12_isWhole_L2 (h : dH) : Nat → Int32 → Option (Bool)
  | 0, _ => none
  | n + 1, y1 =>
    if y1 < (h.1 0 25) then
    f_X12_isWhole_L12 (f_X12_isWhole_L2 h n) h dFu y1 0
    else
    if 1 < (h.1 0 25) then
    some true
    else
    some false
set_option maxRecDepth 20000 in
set_option maxHeartbeats 4000000 in
theorem b_X12_isWhole_L2 (h : dH) : ∀ (n : Nat) (y1 : Int32), B XM 0 RX12 cX12_isWhole 3 (some .boolean) (fiB h) 2 [.ref 0, .int y1, .null] [] h (f_X12_isWhole_L2 h n y1) := by
  intro n
  induction n with
  | zero =>
    intro y1
    exact B_none
  | succ n ih =>
    intro y1
    rw [f_X12_isWhole_L2]
    refine B_iload_n dX12_isWhole_2 rfl rfl ?_
    refine B_aload_n dX12_isWhole_3 rfl rfl ?_
    refine B_getI dX12_isWhole_4 fl_X12_252 shM_0 rfl ?_
    refine C_icmp_ge (tgt := 73) dX12_isWhole_7 (by decide) (fun q2 => ?_) (fun q2 => ?_)
    · refine B_aload_n dX12_isWhole_73 rfl rfl ?_
      refine B_getI dX12_isWhole_74 fl_X12_252 shM_0 rfl ?_
      refine B_iconst dX12_isWhole_77 ic_1 ?_
      refine C_icmp_le (tgt := 85) dX12_isWhole_78 (by decide) (fun q1 => ?_) (fun q1 => ?_)
      · refine B_iconst dX12_isWhole_85 ic_0 ?_
        exact B_zreturn dX12_isWhole_86 rfl rfl rfl
      · refine B_iconst dX12_isWhole_81 ic_1 ?_
        refine B_goto (tgt := 86) dX12_isWhole_82 (by decide) ?_
        exact B_zreturn dX12_isWhole_86 rfl rfl rfl
    · refine B_iconst dX12_isWhole_10 ic_0 ?_
      refine B_istore_n (ls' := [.ref 0, .int y1, .int 0]) dX12_isWhole_11 rfl (Nat.le_of_ble_eq_true rfl) rfl rfl ?_
      exact b_X12_isWhole_L12 h (fun qy1 => ih qy1) dFu y1 0
def f_X12_isWhole (h : dH) : Option (Bool) :=
  f_X12_isWhole_L2 h dFu 0
set_option maxRecDepth 20000 in
set_option maxHeartbeats 4000000 in
theorem t_X12_isWhole (h : dH) : T XM 0 yX12_isWhole cX12_isWhole 3 (some .boolean) (fiB h) [.ref 0] h (f_X12_isWhole h) := by
  refine T_of [.ref 0, .null, .null] (by decide) (fun _ => rfl) (fun _ => Nat.le_of_ble_eq_true rfl) ?_
  show B XM 0 RX12 cX12_isWhole 3 (some .boolean) (fiB h) 0 [.ref 0, .null, .null] [] h (f_X12_isWhole h)
  unfold f_X12_isWhole
  refine B_iconst dX12_isWhole_0 ic_0 ?_
  refine B_istore_n (ls' := [.ref 0, .int 0, .null]) dX12_isWhole_1 rfl (Nat.le_of_ble_eq_true rfl) rfl rfl ?_
  exact b_X12_isWhole_L2 h dFu 0
