def f_X7_seeMost (h : dH) : Option (dH) :=
  (some (dPut h 83 0 (-1))).bind fun h1 =>
  (some (dPut h1 83 5 0)).bind fun h2 =>
  (some (dPut h2 83 1 0)).bind fun h3 =>
  (some (dPut h3 83 2 (f_X8_hour h3))).bind fun h4 =>
  ((r_X7_seeOn 9) (f_X8_place h4) (f_X8_hour h4) (f_X8_tired h4) 0 0 0 h4).bind fun h6 =>
  some h6
set_option maxRecDepth 20000 in
set_option maxHeartbeats 4000000 in
theorem t_X7_seeMost (h : dH) : T XC 14 yX7_seeMost cX7_seeMost 1 none fiV [.ref 83] h (f_X7_seeMost h) := by
  refine T_of [.ref 83] (by decide) (fun _ => rfl) (fun _ => Nat.le_of_ble_eq_true rfl) ?_
  show B XC 14 RX7 cX7_seeMost 1 none fiV 0 [.ref 83] [] h (f_X7_seeMost h)
  unfold f_X7_seeMost
  refine B_aload_n dX7_seeMost_0 rfl rfl ?_
  refine B_iconst dX7_seeMost_1 ic_m1 ?_
  refine B_putI dX7_seeMost_2 fl_X7_19 fw_X7_0 shC_83 rfl ?_
  refine B_lh (fun h1 => ?_)
  refine B_aload_n dX7_seeMost_5 rfl rfl ?_
  refine B_iconst dX7_seeMost_6 ic_0 ?_
  refine B_putI dX7_seeMost_7 fl_X7_23 fw_X7_5 shC_83 rfl ?_
  refine B_lh (fun h2 => ?_)
  refine B_aload_n dX7_seeMost_10 rfl rfl ?_
  refine B_iconst dX7_seeMost_11 ic_0 ?_
  refine B_putI dX7_seeMost_12 fl_X7_26 fw_X7_1 shC_83 rfl ?_
  refine B_lh (fun h3 => ?_)
  refine B_aload_n dX7_seeMost_15 rfl rfl ?_
  refine B_aload_n dX7_seeMost_16 rfl rfl ?_
  refine B_getR dX7_seeMost_17 fl_X7_15 shC_83 rfl (rfC_83_4 _) ?_
  refine B_Vt (st := [.ref 83]) dX7_seeMost_20 cl_X7_29 (t_X8_hour h3) (Nat.le_of_ble_eq_true rfl) shC_66 rfl rfl (Nat.le_of_ble_eq_true rfl) ?_
  refine B_putI dX7_seeMost_23 fl_X7_35 fw_X7_2 shC_83 rfl ?_
  refine B_lh (fun h4 => ?_)
  refine B_aload_n dX7_seeMost_26 rfl rfl ?_
  refine B_aload_n dX7_seeMost_27 rfl rfl ?_
  refine B_getR dX7_seeMost_28 fl_X7_15 shC_83 rfl (rfC_83_4 _) ?_
  refine B_Vt (st := [.ref 83]) dX7_seeMost_31 cl_X7_38 (t_X8_place h4) (Nat.le_of_ble_eq_true rfl) shC_66 rfl rfl (Nat.le_of_ble_eq_true rfl) ?_
  refine B_aload_n dX7_seeMost_34 rfl rfl ?_
  refine B_getR dX7_seeMost_35 fl_X7_15 shC_83 rfl (rfC_83_4 _) ?_
  refine B_Vt (st := [.int (f_X8_place h4), .ref 83]) dX7_seeMost_38 cl_X7_29 (t_X8_hour h4) (Nat.le_of_ble_eq_true rfl) shC_66 rfl rfl (Nat.le_of_ble_eq_true rfl) ?_
  refine B_aload_n dX7_seeMost_41 rfl rfl ?_
  refine B_getR dX7_seeMost_42 fl_X7_15 shC_83 rfl (rfC_83_4 _) ?_
  refine B_Vt (st := [.int (f_X8_hour h4), .int (f_X8_place h4), .ref 83]) dX7_seeMost_45 cl_X7_41 (t_X8_tired h4) (Nat.le_of_ble_eq_true rfl) shC_66 rfl rfl (Nat.le_of_ble_eq_true rfl) ?_
  refine B_iconst dX7_seeMost_48 ic_0 ?_
  refine B_iconst dX7_seeMost_49 ic_0 ?_
  refine B_iconst dX7_seeMost_50 ic_0 ?_
  refine B_VV (st := []) dX7_seeMost_51 cl_X7_44 (t_X7_seeOn_r (f_X8_place h4) (f_X8_hour h4) (f_X8_tired h4) 0 0 0 h4) (Nat.le_of_ble_eq_true rfl) shC_83 rfl rfl (Nat.le_of_ble_eq_true rfl) (fun h6 _ => ?_)
  exact B_return dX7_seeMost_54 rfl rfl
def f_X7_troubleOn_J138 (rc_X7_troubleOn : Int32 → Int32 → Int32 → Int32 → Int32 → Int32 → dH → Option (dH)) (kL31 : Int32 → Int32 → Int32 → Int32 → Int32 → Int32 → Int32 → dH → Option (dH)) (y1 : Int32) (y2 : Int32) (y3 : Int32) (y4 : Int32) (y5 : Int32) (y6 : Int32) (y7 : Int32) (h : dH) : Option (dH) :=
  kL31 y1 y2 y3 y4 y5 y6 (y7 + 1) h
set_option maxRecDepth 20000 in
set_option maxHeartbeats 4000000 in
theorem b_X7_troubleOn_J138 {Dr : Nat} {rc_X7_troubleOn : Int32 → Int32 → Int32 → Int32 → Int32 → Int32 → dH → Option (dH)} {kL31 : Int32 → Int32 → Int32 → Int32 → Int32 → Int32 → Int32 → dH → Option (dH)} (hDr : 3 ≤ Dr) (hrc_X7_troubleOn : ∀ (x1 : Int32) (x2 : Int32) (x3 : Int32) (x4 : Int32) (x5 : Int32) (x6 : Int32) (h : dH), T XC Dr yX7_troubleOn cX7_troubleOn 10 none fiV [.ref 83, .int x1, .int x2, .int x3, .int x4, .int x5, .int x6] h (rc_X7_troubleOn x1 x2 x3 x4 x5 x6 h)) (hkL31 : ∀ (y1 : Int32) (y2 : Int32) (y3 : Int32) (y4 : Int32) (y5 : Int32) (y6 : Int32) (y7 : Int32) (h : dH), B XC (Dr + 1) RX7 cX7_troubleOn 10 none fiV 31 [.ref 83, .int y1, .int y2, .int y3, .int y4, .int y5, .int y6, .int y7, .null, .null] [] h (kL31 y1 y2 y3 y4 y5 y6 y7 h)) (y1 : Int32) (y2 : Int32) (y3 : Int32) (y4 : Int32) (y5 : Int32) (y6 : Int32) (y7 : Int32) (h : dH) : B XC (Dr + 1) RX7 cX7_troubleOn 10 none fiV 138 [.ref 83, .int y1, .int y2, .int y3, .int y4, .int y5, .int y6, .int y7, .null, .null] [] h (f_X7_troubleOn_J138 rc_X7_troubleOn kL31 y1 y2 y3 y4 y5 y6 y7 h) := by
  unfold f_X7_troubleOn_J138
  refine B_iinc (w := (y7 + 1)) (ls' := [.ref 83, .int y1, .int y2, .int y3, .int y4, .int y5, .int y6, .int (y7 + 1), .null, .null]) dX7_troubleOn_138 rfl (congrArg (fun z => y7 + z) ic_1) (Nat.le_of_ble_eq_true rfl) rfl rfl ?_
  refine B_goto (tgt := 31) dX7_troubleOn_141 (by decide) ?_
  exact hkL31 y1 y2 y3 y4 y5 y6 (y7 + 1)  h
def f_X7_troubleOn_L31 (rc_X7_troubleOn : Int32 → Int32 → Int32 → Int32 → Int32 → Int32 → dH → Option (dH)) : Nat → Int32 → Int32 → Int32 → Int32 → Int32 → Int32 → Int32 → dH → Option (dH)
  | 0, _, _, _, _, _, _, _, _ => none
  | n + 1, y1, y2, y3, y4, y5, y6, y7, h =>
    if y7 < (h.1 3 2) then
    if (f_X11_isIn y4 y7 h) then
    (f_X8_couldWalk 66 y1 y2 y3 y7 h).bind fun v4 =>
    if v4 then
    (f_X1_apart 3 y1 y7 h).bind fun v5 =>
    (f_X8_troubleThen 66 y7 (y2 + v5) (y3 + v5) 0 h).bind fun rv6 =>
    (rc_X7_troubleOn y7 ((y2 + v5) + 1) (y3 + v5) (y4 &&& ((1 <<< (y7 &&& 31)) ^^^ (-1))) ((y5 * 10) + y7) (y6 + rv6.1) rv6.2).bind fun h9 =>
    f_X7_troubleOn_J138 rc_X7_troubleOn (f_X7_troubleOn_L31 rc_X7_troubleOn n) y1 y2 y3 y4 y5 y6 y7 h9
    else
    f_X7_troubleOn_J138 rc_X7_troubleOn (f_X7_troubleOn_L31 rc_X7_troubleOn n) y1 y2 y3 y4 y5 y6 y7 h
    else
    f_X7_troubleOn_J138 rc_X7_troubleOn (f_X7_troubleOn_L31 rc_X7_troubleOn n) y1 y2 y3 y4 y5 y6 y7 h
    else
    some h
set_option maxRecDepth 20000 in
set_option maxHeartbeats 4000000 in
theorem b_X7_troubleOn_L31 {Dr : Nat} {rc_X7_troubleOn : Int32 → Int32 → Int32 → Int32 → Int32 → Int32 → dH → Option (dH)} (hDr : 3 ≤ Dr) (hrc_X7_troubleOn : ∀ (x1 : Int32) (x2 : Int32) (x3 : Int32) (x4 : Int32) (x5 : Int32) (x6 : Int32) (h : dH), T XC Dr yX7_troubleOn cX7_troubleOn 10 none fiV [.ref 83, .int x1, .int x2, .int x3, .int x4, .int x5, .int x6] h (rc_X7_troubleOn x1 x2 x3 x4 x5 x6 h)) : ∀ (n : Nat) (y1 : Int32) (y2 : Int32) (y3 : Int32) (y4 : Int32) (y5 : Int32) (y6 : Int32) (y7 : Int32) (h : dH), B XC (Dr + 1) RX7 cX7_troubleOn 10 none fiV 31 [.ref 83, .int y1, .int y2, .int y3, .int y4, .int y5, .int y6, .int y7, .null, .null] [] h (f_X7_troubleOn_L31 rc_X7_troubleOn n y1 y2 y3 y4 y5 y6 y7 h) := by
  intro n
  induction n with
  | zero =>
    intro y1 y2 y3 y4 y5 y6 y7 h
    exact B_none
  | succ n ih =>
    intro y1 y2 y3 y4 y5 y6 y7 h
    rw [f_X7_troubleOn_L31]
    refine B_iload dX7_troubleOn_31 rfl ?_
    refine B_aload_n dX7_troubleOn_33 rfl rfl ?_
    refine B_getR dX7_troubleOn_34 fl_X7_9 shC_83 rfl (rfC_83_3 _) ?_
    refine B_getI dX7_troubleOn_37 fl_X7_64 shC_3 rfl ?_
    refine C_icmp_ge (tgt := 144) dX7_troubleOn_40 (by decide) (fun q12 => ?_) (fun q12 => ?_)
    · exact B_return dX7_troubleOn_144 rfl rfl
    · refine B_iload dX7_troubleOn_43 rfl ?_
      refine B_iload dX7_troubleOn_45 rfl ?_
      refine B_NTb (st := []) dX7_troubleOn_47 cl_X7_69 (t_X11_isIn y4 y7 h) (by omega) rfl rfl (Nat.le_of_ble_eq_true rfl) ?_
      refine C_ifb_eq (tgt := 138) dX7_troubleOn_50 (by decide) (fun q11 => ?_) (fun q11 => ?_)
      · exact b_X7_troubleOn_J138 hDr hrc_X7_troubleOn (fun qy1 qy2 qy3 qy4 qy5 qy6 qy7 qh => ih qy1 qy2 qy3 qy4 qy5 qy6 qy7 qh) y1 y2 y3 y4 y5 y6 y7 h
      · refine B_aload_n dX7_troubleOn_53 rfl rfl ?_
        refine B_getR dX7_troubleOn_54 fl_X7_15 shC_83 rfl (rfC_83_4 _) ?_
        refine B_iload_n dX7_troubleOn_57 rfl rfl ?_
        refine B_iload_n dX7_troubleOn_58 rfl rfl ?_
        refine B_iload_n dX7_troubleOn_59 rfl rfl ?_
        refine B_iload dX7_troubleOn_60 rfl ?_
        refine B_Vpb (st := []) dX7_troubleOn_62 cl_X7_72 (t_X8_couldWalk 66 shC_66 y1 y2 y3 y7 h) (by omega) shC_66 rfl rfl (Nat.le_of_ble_eq_true rfl) (fun v4 _ => ?_)
        refine C_ifb_eq (tgt := 138) dX7_troubleOn_65 (by decide) (fun q10 => ?_) (fun q10 => ?_)
        · exact b_X7_troubleOn_J138 hDr hrc_X7_troubleOn (fun qy1 qy2 qy3 qy4 qy5 qy6 qy7 qh => ih qy1 qy2 qy3 qy4 qy5 qy6 qy7 qh) y1 y2 y3 y4 y5 y6 y7 h
        · refine B_aload_n dX7_troubleOn_68 rfl rfl ?_
          refine B_getR dX7_troubleOn_69 fl_X7_9 shC_83 rfl (rfC_83_3 _) ?_
          refine B_iload_n dX7_troubleOn_72 rfl rfl ?_
          refine B_iload dX7_troubleOn_73 rfl ?_
          refine B_Vp (st := []) dX7_troubleOn_75 cl_X7_76 (t_X1_apart 3 shC_3 y1 y7 h) (by omega) shC_3 rfl rfl (Nat.le_of_ble_eq_true rfl) (fun v5 _ => ?_)
          refine B_istore (ls' := [.ref 83, .int y1, .int y2, .int y3, .int y4, .int y5, .int y6, .int y7, .int v5, .null]) dX7_troubleOn_78 (Nat.le_of_ble_eq_true rfl) rfl rfl ?_
          refine B_aload_n dX7_troubleOn_80 rfl rfl ?_
          refine B_getR dX7_troubleOn_81 fl_X7_15 shC_83 rfl (rfC_83_4 _) ?_
          refine B_iload dX7_troubleOn_84 rfl ?_
          refine B_iload_n dX7_troubleOn_86 rfl rfl ?_
          refine B_iload dX7_troubleOn_87 rfl ?_
          refine B_iadd dX7_troubleOn_89 ?_
          refine B_iload_n dX7_troubleOn_90 rfl rfl ?_
          refine B_iload dX7_troubleOn_91 rfl ?_
          refine B_iadd dX7_troubleOn_93 ?_
          refine B_iconst dX7_troubleOn_94 ic_0 ?_
          refine B_VI (st := []) dX7_troubleOn_95 cl_X7_80 (t_X8_troubleThen 66 shC_66 y7 (y2 + v5) (y3 + v5) 0 h) (by omega) shC_66 rfl rfl (Nat.le_of_ble_eq_true rfl) (fun v6 h7 _ => ?_)
          refine B_istore (ls' := [.ref 83, .int y1, .int y2, .int y3, .int y4, .int y5, .int y6, .int y7, .int v5, .int v6]) dX7_troubleOn_98 (Nat.le_of_ble_eq_true rfl) rfl rfl ?_
          refine B_aload_n dX7_troubleOn_100 rfl rfl ?_
          refine B_iload dX7_troubleOn_101 rfl ?_
          refine B_iload_n dX7_troubleOn_103 rfl rfl ?_
          refine B_iload dX7_troubleOn_104 rfl ?_
          refine B_iadd dX7_troubleOn_106 ?_
          refine B_iconst dX7_troubleOn_107 ic_1 ?_
          refine B_iadd dX7_troubleOn_108 ?_
          refine B_iload_n dX7_troubleOn_109 rfl rfl ?_
          refine B_iload dX7_troubleOn_110 rfl ?_
          refine B_iadd dX7_troubleOn_112 ?_
          refine B_iload dX7_troubleOn_113 rfl ?_
          refine B_iconst dX7_troubleOn_115 ic_1 ?_
          refine B_iload dX7_troubleOn_116 rfl ?_
          refine B_ishl dX7_troubleOn_118 ?_
          refine B_iconst dX7_troubleOn_119 ic_m1 ?_
          refine B_ixor dX7_troubleOn_120 ?_
          refine B_iand dX7_troubleOn_121 ?_
          refine B_iload dX7_troubleOn_122 rfl ?_
          refine B_bipush dX7_troubleOn_124 bp_10 ?_
          refine B_imul dX7_troubleOn_126 ?_
          refine B_iload dX7_troubleOn_127 rfl ?_
          refine B_iadd dX7_troubleOn_129 ?_
          refine B_iload dX7_troubleOn_130 rfl ?_
          refine B_iload dX7_troubleOn_132 rfl ?_
          refine B_iadd dX7_troubleOn_134 ?_
          refine B_VV (st := []) dX7_troubleOn_135 cl_X7_99 (hrc_X7_troubleOn y7 ((y2 + v5) + 1) (y3 + v5) (y4 &&& ((1 <<< (y7 &&& 31)) ^^^ (-1))) ((y5 * 10) + y7) (y6 + v6) h7) (by omega) shC_83 rfl rfl (Nat.le_of_ble_eq_true rfl) (fun h9 _ => ?_)
          refine B_drop 8 (ls' := [.ref 83, .int y1, .int y2, .int y3, .int y4, .int y5, .int y6, .int y7, .null, .int v6]) rfl ?_
          refine B_drop 9 (ls' := [.ref 83, .int y1, .int y2, .int y3, .int y4, .int y5, .int y6, .int y7, .null, .null]) rfl ?_
          exact b_X7_troubleOn_J138 hDr hrc_X7_troubleOn (fun qy1 qy2 qy3 qy4 qy5 qy6 qy7 qh => ih qy1 qy2 qy3 qy4 qy5 qy6 qy7 qh) y1 y2 y3 y4 y5 y6 y7 h9
def f_X7_troubleOn (rc_X7_troubleOn : Int32 → Int32 → Int32 → Int32 → Int32 → Int32 → dH → Option (dH)) (x1 : Int32) (x2 : Int32) (x3 : Int32) (x4 : Int32) (x5 : Int32) (x6 : Int32) (h : dH) : Option (dH) :=
  if x6 < (h.1 83 1) then
  if x4 = 0 then
  (some (dPut h 83 0 x5)).bind fun h1 =>
  some (dPut h1 83 1 x6)
  else
  f_X7_troubleOn_L31 rc_X7_troubleOn dFu x1 x2 x3 x4 x5 x6 0 h
  else
  some h
set_option maxRecDepth 20000 in
set_option maxHeartbeats 4000000 in
theorem t_X7_troubleOn {Dr : Nat} {rc_X7_troubleOn : Int32 → Int32 → Int32 → Int32 → Int32 → Int32 → dH → Option (dH)} (hDr : 3 ≤ Dr) (hrc_X7_troubleOn : ∀ (x1 : Int32) (x2 : Int32) (x3 : Int32) (x4 : Int32) (x5 : Int32) (x6 : Int32) (h : dH), T XC Dr yX7_troubleOn cX7_troubleOn 10 none fiV [.ref 83, .int x1, .int x2, .int x3, .int x4, .int x5, .int x6] h (rc_X7_troubleOn x1 x2 x3 x4 x5 x6 h)) (x1 : Int32) (x2 : Int32) (x3 : Int32) (x4 : Int32) (x5 : Int32) (x6 : Int32) (h : dH) : T XC (Dr + 1) yX7_troubleOn cX7_troubleOn 10 none fiV [.ref 83, .int x1, .int x2, .int x3, .int x4, .int x5, .int x6] h (f_X7_troubleOn rc_X7_troubleOn x1 x2 x3 x4 x5 x6 h) := by
  refine T_of [.ref 83, .int x1, .int x2, .int x3, .int x4, .int x5, .int x6, .null, .null, .null] (by decide) (fun _ => rfl) (fun _ => Nat.le_of_ble_eq_true rfl) ?_
  show B XC (Dr + 1) RX7 cX7_troubleOn 10 none fiV 0 [.ref 83, .int x1, .int x2, .int x3, .int x4, .int x5, .int x6, .null, .null, .null] [] h (f_X7_troubleOn rc_X7_troubleOn x1 x2 x3 x4 x5 x6 h)
  unfold f_X7_troubleOn
  refine B_iload dX7_troubleOn_0 rfl ?_
  refine B_aload_n dX7_troubleOn_2 rfl rfl ?_
  refine B_getI dX7_troubleOn_3 fl_X7_26 shC_83 rfl ?_
  refine C_icmp_lt (tgt := 10) dX7_troubleOn_6 (by decide) (fun q3 => ?_) (fun q3 => ?_)
  · refine B_iload dX7_troubleOn_10 rfl ?_
    refine C_if_ne (tgt := 28) dX7_troubleOn_12 (by decide) (fun q2 => ?_) (fun q2 => ?_)
    · refine B_iconst dX7_troubleOn_28 ic_0 ?_
      refine B_istore (ls' := [.ref 83, .int x1, .int x2, .int x3, .int x4, .int x5, .int x6, .int 0, .null, .null]) dX7_troubleOn_29 (Nat.le_of_ble_eq_true rfl) rfl rfl ?_
      exact b_X7_troubleOn_L31 hDr hrc_X7_troubleOn dFu x1 x2 x3 x4 x5 x6 0 h
    · refine B_aload_n dX7_troubleOn_15 rfl rfl ?_
      refine B_iload dX7_troubleOn_16 rfl ?_
      refine B_putI dX7_troubleOn_18 fl_X7_19 fw_X7_0 shC_83 rfl ?_
      refine B_lh (fun h1 => ?_)
      refine B_aload_n dX7_troubleOn_21 rfl rfl ?_
      refine B_iload dX7_troubleOn_22 rfl ?_
      refine B_putI dX7_troubleOn_24 fl_X7_26 fw_X7_1 shC_83 rfl ?_
      exact B_return dX7_troubleOn_27 rfl rfl
  · exact B_return dX7_troubleOn_9 rfl rfl
def g_X7_troubleOn : Nat → (Int32 → Int32 → Int32 → Int32 → Int32 → Int32 → dH → Option (dH))
  | 0 => (fun _ _ _ _ _ _ _ => none)
  | n + 1 => (f_X7_troubleOn (g_X7_troubleOn n))
def r_X7_troubleOn (n : Nat) : Int32 → Int32 → Int32 → Int32 → Int32 → Int32 → dH → Option (dH) := (g_X7_troubleOn n)
set_option maxRecDepth 20000 in
set_option maxHeartbeats 4000000 in
theorem t_g_X7_troubleOn : ∀ n : Nat, (∀ (x1 : Int32) (x2 : Int32) (x3 : Int32) (x4 : Int32) (x5 : Int32) (x6 : Int32) (h : dH), T XC (3 + n) yX7_troubleOn cX7_troubleOn 10 none fiV [.ref 83, .int x1, .int x2, .int x3, .int x4, .int x5, .int x6] h (r_X7_troubleOn n x1 x2 x3 x4 x5 x6 h)) := by
  intro n
  induction n with
  | zero =>
    exact fun _ _ _ _ _ _ _ => T_none
  | succ n ih =>
    exact fun x1 x2 x3 x4 x5 x6 h => (t_X7_troubleOn (Nat.le_add_right 3 n) ih x1 x2 x3 x4 x5 x6 h : T _ (3 + n + 1) _ _ _ _ _ _ _ _)
theorem t_X7_troubleOn_r : ∀ (x1 : Int32) (x2 : Int32) (x3 : Int32) (x4 : Int32) (x5 : Int32) (x6 : Int32) (h : dH), T XC 12 yX7_troubleOn cX7_troubleOn 10 none fiV [.ref 83, .int x1, .int x2, .int x3, .int x4, .int x5, .int x6] h (r_X7_troubleOn 9 x1 x2 x3 x4 x5 x6 h) := (t_g_X7_troubleOn 9)
def f_X7_troubleLeast (x1 : Int32) (h : dH) : Option (dH) :=
  (some (dPut h 83 0 (-1))).bind fun h1 =>
  (some (dPut h1 83 1 1000)).bind fun h2 =>
  ((r_X7_troubleOn 9) (f_X8_place h2) (f_X8_hour h2) (f_X8_tired h2) x1 0 0 h2).bind fun h4 =>
  some h4
set_option maxRecDepth 20000 in
set_option maxHeartbeats 4000000 in
theorem t_X7_troubleLeast (x1 : Int32) (h : dH) : T XC 13 yX7_troubleLeast cX7_troubleLeast 2 none fiV [.ref 83, .int x1] h (f_X7_troubleLeast x1 h) := by
  refine T_of [.ref 83, .int x1] (by decide) (fun _ => rfl) (fun _ => Nat.le_of_ble_eq_true rfl) ?_
  show B XC 13 RX7 cX7_troubleLeast 2 none fiV 0 [.ref 83, .int x1] [] h (f_X7_troubleLeast x1 h)
  unfold f_X7_troubleLeast
  refine B_aload_n dX7_troubleLeast_0 rfl rfl ?_
  refine B_iconst dX7_troubleLeast_1 ic_m1 ?_
  refine B_putI dX7_troubleLeast_2 fl_X7_19 fw_X7_0 shC_83 rfl ?_
  refine B_lh (fun h1 => ?_)
  refine B_aload_n dX7_troubleLeast_5 rfl rfl ?_
  refine B_sipush dX7_troubleLeast_6 sp_1000 ?_
  refine B_putI dX7_troubleLeast_9 fl_X7_26 fw_X7_1 shC_83 rfl ?_
  refine B_lh (fun h2 => ?_)
  refine B_aload_n dX7_troubleLeast_12 rfl rfl ?_
  refine B_aload_n dX7_troubleLeast_13 rfl rfl ?_
  refine B_getR dX7_troubleLeast_14 fl_X7_15 shC_83 rfl (rfC_83_4 _) ?_
  refine B_Vt (st := [.ref 83]) dX7_troubleLeast_17 cl_X7_38 (t_X8_place h2) (Nat.le_of_ble_eq_true rfl) shC_66 rfl rfl (Nat.le_of_ble_eq_true rfl) ?_
  refine B_aload_n dX7_troubleLeast_20 rfl rfl ?_
  refine B_getR dX7_troubleLeast_21 fl_X7_15 shC_83 rfl (rfC_83_4 _) ?_
  refine B_Vt (st := [.int (f_X8_place h2), .ref 83]) dX7_troubleLeast_24 cl_X7_29 (t_X8_hour h2) (Nat.le_of_ble_eq_true rfl) shC_66 rfl rfl (Nat.le_of_ble_eq_true rfl) ?_
  refine B_aload_n dX7_troubleLeast_27 rfl rfl ?_
  refine B_getR dX7_troubleLeast_28 fl_X7_15 shC_83 rfl (rfC_83_4 _) ?_
  refine B_Vt (st := [.int (f_X8_hour h2), .int (f_X8_place h2), .ref 83]) dX7_troubleLeast_31 cl_X7_41 (t_X8_tired h2) (Nat.le_of_ble_eq_true rfl) shC_66 rfl rfl (Nat.le_of_ble_eq_true rfl) ?_
  refine B_iload_n dX7_troubleLeast_34 rfl rfl ?_
  refine B_iconst dX7_troubleLeast_35 ic_0 ?_
  refine B_iconst dX7_troubleLeast_36 ic_0 ?_
  refine B_VV (st := []) dX7_troubleLeast_37 cl_X7_99 (t_X7_troubleOn_r (f_X8_place h2) (f_X8_hour h2) (f_X8_tired h2) x1 0 0 h2) (Nat.le_of_ble_eq_true rfl) shC_83 rfl rfl (Nat.le_of_ble_eq_true rfl) (fun h4 _ => ?_)
  exact B_return dX7_troubleLeast_40 rfl rfl
def f_X7_isBorne_J116 (kL29 : Int32 → Int32 → Int32 → Int32 → Int32 → Int32 → Option (Bool)) (y1 : Int32) (y2 : Int32) (y3 : Int32) (y4 : Int32) (y5 : Int32) (y6 : Int32) (y7 : Int32) (h : dH) : Option (Bool) :=
  (f_X8_isTooMuch y6 y7 h).bind fun v12 =>
  if v12 then
  some false
  else
  kL29 y1 y2 y3 y4 y5 (y6 + 1)
set_option maxRecDepth 20000 in
set_option maxHeartbeats 4000000 in
theorem b_X7_isBorne_J116 {kL29 : Int32 → Int32 → Int32 → Int32 → Int32 → Int32 → Option (Bool)} (h : dH) (hkL29 : ∀ (y1 : Int32) (y2 : Int32) (y3 : Int32) (y4 : Int32) (y5 : Int32) (y6 : Int32), B XC 3 RX7 cX7_isBorne 9 (some .boolean) (fiB h) 29 [.ref 83, .int y1, .int y2, .int y3, .int y4, .int y5, .int y6, .null, .null] [] h (kL29 y1 y2 y3 y4 y5 y6)) (y1 : Int32) (y2 : Int32) (y3 : Int32) (y4 : Int32) (y5 : Int32) (y6 : Int32) (y7 : Int32) : B XC 3 RX7 cX7_isBorne 9 (some .boolean) (fiB h) 116 [.ref 83, .int y1, .int y2, .int y3, .int y4, .int y5, .int y6, .int y7, .null] [] h (f_X7_isBorne_J116 kL29 y1 y2 y3 y4 y5 y6 y7 h) := by
  unfold f_X7_isBorne_J116
  refine B_aload_n dX7_isBorne_116 rfl rfl ?_
  refine B_getR dX7_isBorne_117 fl_X7_15 shC_83 rfl (rfC_83_4 _) ?_
  refine B_iload dX7_isBorne_120 rfl ?_
  refine B_iload dX7_isBorne_122 rfl ?_
  refine B_Vpb (st := []) dX7_isBorne_124 cl_X7_96 (t_X8_isTooMuch y6 y7 h) (Nat.le_of_ble_eq_true rfl) shC_66 rfl rfl (Nat.le_of_ble_eq_true rfl) (fun v12 _ => ?_)
  refine C_ifb_eq (tgt := 132) dX7_isBorne_127 (by decide) (fun q13 => ?_) (fun q13 => ?_)
  · refine B_iinc (w := (y6 + 1)) (ls' := [.ref 83, .int y1, .int y2, .int y3, .int y4, .int y5, .int (y6 + 1), .int y7, .null]) dX7_isBorne_132 rfl (congrArg (fun z => y6 + z) ic_1) (Nat.le_of_ble_eq_true rfl) rfl rfl ?_
    refine B_goto (tgt := 29) dX7_isBorne_135 (by decide) ?_
    refine B_drop 7 (ls' := [.ref 83, .int y1, .int y2, .int y3, .int y4, .int y5, .int (y6 + 1), .null, .null]) rfl ?_
    exact hkL29 y1 y2 y3 y4 y5 (y6 + 1)  
  · refine B_iconst dX7_isBorne_130 ic_0 ?_
    exact B_zreturn dX7_isBorne_131 rfl rfl rfl
def f_X7_isBorne_L29 (h : dH) : Nat → Int32 → Int32 → Int32 → Int32 → Int32 → Int32 → Option (Bool)
  | 0, _, _, _, _, _, _ => none
  | n + 1, y1, y2, y3, y4, y5, y6 =>
    if y6 < (h.1 3 2) then
    if (f_X11_isIn y1 y6 h) then
    (f_X8_couldWalk 66 y3 y4 y5 y6 h).bind fun v4 =>
    if v4 then
    (f_X1_apart 3 y3 y6 h).bind fun v5 =>
    (some ((y4 + (v5 + 1)))).bind fun v6 =>
    (f_X8_visitsOf 66 y6 h).bind fun v7 =>
    (some ((f_X8_troubleWithoutLaw v7 y2 h))).bind fun v8 =>
    f_X7_isBorne_J116 (f_X7_isBorne_L29 h n) y1 y2 y6 v6 (y5 + v5) y6 v8 h
    else
    f_X7_isBorne_J116 (f_X7_isBorne_L29 h n) y1 y2 y3 y4 y5 y6 0 h
    else
    f_X7_isBorne_J116 (f_X7_isBorne_L29 h n) y1 y2 y3 y4 y5 y6 0 h
    else
    some true
set_option maxRecDepth 20000 in
set_option maxHeartbeats 4000000 in
theorem b_X7_isBorne_L29 (h : dH) : ∀ (n : Nat) (y1 : Int32) (y2 : Int32) (y3 : Int32) (y4 : Int32) (y5 : Int32) (y6 : Int32), B XC 3 RX7 cX7_isBorne 9 (some .boolean) (fiB h) 29 [.ref 83, .int y1, .int y2, .int y3, .int y4, .int y5, .int y6, .null, .null] [] h (f_X7_isBorne_L29 h n y1 y2 y3 y4 y5 y6) := by
  intro n
  induction n with
  | zero =>
    intro y1 y2 y3 y4 y5 y6
    exact B_none
  | succ n ih =>
    intro y1 y2 y3 y4 y5 y6
    rw [f_X7_isBorne_L29]
    refine B_iload dX7_isBorne_29 rfl ?_
    refine B_aload_n dX7_isBorne_31 rfl rfl ?_
    refine B_getR dX7_isBorne_32 fl_X7_9 shC_83 rfl (rfC_83_3 _) ?_
    refine B_getI dX7_isBorne_35 fl_X7_64 shC_3 rfl ?_
    refine C_icmp_ge (tgt := 138) dX7_isBorne_38 (by decide) (fun q11 => ?_) (fun q11 => ?_)
    · refine B_iconst dX7_isBorne_138 ic_1 ?_
      exact B_zreturn dX7_isBorne_139 rfl rfl rfl
    · refine B_iconst dX7_isBorne_41 ic_0 ?_
      refine B_istore (ls' := [.ref 83, .int y1, .int y2, .int y3, .int y4, .int y5, .int y6, .int 0, .null]) dX7_isBorne_42 (Nat.le_of_ble_eq_true rfl) rfl rfl ?_
      refine B_iload_n dX7_isBorne_44 rfl rfl ?_
      refine B_iload dX7_isBorne_45 rfl ?_
      refine B_NTb (st := []) dX7_isBorne_47 cl_X7_69 (t_X11_isIn y1 y6 h) (Nat.le_of_ble_eq_true rfl) rfl rfl (Nat.le_of_ble_eq_true rfl) ?_
      refine C_ifb_eq (tgt := 116) dX7_isBorne_50 (by decide) (fun q10 => ?_) (fun q10 => ?_)
      · exact b_X7_isBorne_J116 h (fun qy1 qy2 qy3 qy4 qy5 qy6 => ih qy1 qy2 qy3 qy4 qy5 qy6) y1 y2 y3 y4 y5 y6 0
      · refine B_aload_n dX7_isBorne_53 rfl rfl ?_
        refine B_getR dX7_isBorne_54 fl_X7_15 shC_83 rfl (rfC_83_4 _) ?_
        refine B_iload_n dX7_isBorne_57 rfl rfl ?_
        refine B_iload dX7_isBorne_58 rfl ?_
        refine B_iload dX7_isBorne_60 rfl ?_
        refine B_iload dX7_isBorne_62 rfl ?_
        refine B_Vpb (st := []) dX7_isBorne_64 cl_X7_72 (t_X8_couldWalk 66 shC_66 y3 y4 y5 y6 h) (Nat.le_of_ble_eq_true rfl) shC_66 rfl rfl (Nat.le_of_ble_eq_true rfl) (fun v4 _ => ?_)
        refine C_ifb_eq (tgt := 116) dX7_isBorne_67 (by decide) (fun q9 => ?_) (fun q9 => ?_)
        · exact b_X7_isBorne_J116 h (fun qy1 qy2 qy3 qy4 qy5 qy6 => ih qy1 qy2 qy3 qy4 qy5 qy6) y1 y2 y3 y4 y5 y6 0
        · refine B_aload_n dX7_isBorne_70 rfl rfl ?_
          refine B_getR dX7_isBorne_71 fl_X7_9 shC_83 rfl (rfC_83_3 _) ?_
          refine B_iload_n dX7_isBorne_74 rfl rfl ?_
          refine B_iload dX7_isBorne_75 rfl ?_
          refine B_Vp (st := []) dX7_isBorne_77 cl_X7_76 (t_X1_apart 3 shC_3 y3 y6 h) (Nat.le_of_ble_eq_true rfl) shC_3 rfl rfl (Nat.le_of_ble_eq_true rfl) (fun v5 _ => ?_)
          refine B_istore (ls' := [.ref 83, .int y1, .int y2, .int y3, .int y4, .int y5, .int y6, .int 0, .int v5]) dX7_isBorne_80 (Nat.le_of_ble_eq_true rfl) rfl rfl ?_
          refine B_iload dX7_isBorne_82 rfl ?_
          refine B_iload dX7_isBorne_84 rfl ?_
          refine B_iconst dX7_isBorne_86 ic_1 ?_
          refine B_iadd dX7_isBorne_87 ?_
          refine B_iadd dX7_isBorne_88 ?_
          refine B_lv (fun v6 => ?_)
          refine B_istore (ls' := [.ref 83, .int y1, .int y2, .int y3, .int v6, .int y5, .int y6, .int 0, .int v5]) dX7_isBorne_89 (Nat.le_of_ble_eq_true rfl) rfl rfl ?_
          refine B_iload dX7_isBorne_91 rfl ?_
          refine B_iload dX7_isBorne_93 rfl ?_
          refine B_iadd dX7_isBorne_95 ?_
          refine B_istore (ls' := [.ref 83, .int y1, .int y2, .int y3, .int v6, .int (y5 + v5), .int y6, .int 0, .int v5]) dX7_isBorne_96 (Nat.le_of_ble_eq_true rfl) rfl rfl ?_
          refine B_iload dX7_isBorne_98 rfl ?_
          refine B_istore_n (ls' := [.ref 83, .int y1, .int y2, .int y6, .int v6, .int (y5 + v5), .int y6, .int 0, .int v5]) dX7_isBorne_100 rfl (Nat.le_of_ble_eq_true rfl) rfl rfl ?_
          refine B_aload_n dX7_isBorne_101 rfl rfl ?_
          refine B_getR dX7_isBorne_102 fl_X7_15 shC_83 rfl (rfC_83_4 _) ?_
          refine B_iload dX7_isBorne_105 rfl ?_
          refine B_Vp (st := []) dX7_isBorne_107 cl_X7_90 (t_X8_visitsOf 66 shC_66 y6 h) (Nat.le_of_ble_eq_true rfl) shC_66 rfl rfl (Nat.le_of_ble_eq_true rfl) (fun v7 _ => ?_)
          refine B_iload_n dX7_isBorne_110 rfl rfl ?_
          refine B_St (st := []) dX7_isBorne_111 cl_X7_102 (t_X8_troubleWithoutLaw v7 y2 h) (Nat.le_of_ble_eq_true rfl) rfl rfl (Nat.le_of_ble_eq_true rfl) ?_
          refine B_lv (fun v8 => ?_)
          refine B_istore (ls' := [.ref 83, .int y1, .int y2, .int y6, .int v6, .int (y5 + v5), .int y6, .int v8, .int v5]) dX7_isBorne_114 (Nat.le_of_ble_eq_true rfl) rfl rfl ?_
          refine B_drop 8 (ls' := [.ref 83, .int y1, .int y2, .int y6, .int v6, .int (y5 + v5), .int y6, .int v8, .null]) rfl ?_
          exact b_X7_isBorne_J116 h (fun qy1 qy2 qy3 qy4 qy5 qy6 => ih qy1 qy2 qy3 qy4 qy5 qy6) y1 y2 y6 v6 (y5 + v5) y6 v8
def f_X7_isBorne (x1 : Int32) (x2 : Int32) (h : dH) : Option (Bool) :=
  (some ((f_X8_place h))).bind fun v1 =>
  (some ((f_X8_hour h))).bind fun v2 =>
  (some ((f_X8_tired h))).bind fun v3 =>
  f_X7_isBorne_L29 h dFu x1 x2 v1 v2 v3 0
set_option maxRecDepth 20000 in
set_option maxHeartbeats 4000000 in
theorem t_X7_isBorne (x1 : Int32) (x2 : Int32) (h : dH) : T XC 3 yX7_isBorne cX7_isBorne 9 (some .boolean) (fiB h) [.ref 83, .int x1, .int x2] h (f_X7_isBorne x1 x2 h) := by
  refine T_of [.ref 83, .int x1, .int x2, .null, .null, .null, .null, .null, .null] (by decide) (fun _ => rfl) (fun _ => Nat.le_of_ble_eq_true rfl) ?_
  show B XC 3 RX7 cX7_isBorne 9 (some .boolean) (fiB h) 0 [.ref 83, .int x1, .int x2, .null, .null, .null, .null, .null, .null] [] h (f_X7_isBorne x1 x2 h)
  unfold f_X7_isBorne
  refine B_aload_n dX7_isBorne_0 rfl rfl ?_
  refine B_getR dX7_isBorne_1 fl_X7_15 shC_83 rfl (rfC_83_4 _) ?_
  refine B_Vt (st := []) dX7_isBorne_4 cl_X7_38 (t_X8_place h) (Nat.le_of_ble_eq_true rfl) shC_66 rfl rfl (Nat.le_of_ble_eq_true rfl) ?_
  refine B_lv (fun v1 => ?_)
  refine B_istore_n (ls' := [.ref 83, .int x1, .int x2, .int v1, .null, .null, .null, .null, .null]) dX7_isBorne_7 rfl (Nat.le_of_ble_eq_true rfl) rfl rfl ?_
  refine B_aload_n dX7_isBorne_8 rfl rfl ?_
  refine B_getR dX7_isBorne_9 fl_X7_15 shC_83 rfl (rfC_83_4 _) ?_
  refine B_Vt (st := []) dX7_isBorne_12 cl_X7_29 (t_X8_hour h) (Nat.le_of_ble_eq_true rfl) shC_66 rfl rfl (Nat.le_of_ble_eq_true rfl) ?_
  refine B_lv (fun v2 => ?_)
  refine B_istore (ls' := [.ref 83, .int x1, .int x2, .int v1, .int v2, .null, .null, .null, .null]) dX7_isBorne_15 (Nat.le_of_ble_eq_true rfl) rfl rfl ?_
  refine B_aload_n dX7_isBorne_17 rfl rfl ?_
  refine B_getR dX7_isBorne_18 fl_X7_15 shC_83 rfl (rfC_83_4 _) ?_
  refine B_Vt (st := []) dX7_isBorne_21 cl_X7_41 (t_X8_tired h) (Nat.le_of_ble_eq_true rfl) shC_66 rfl rfl (Nat.le_of_ble_eq_true rfl) ?_
  refine B_lv (fun v3 => ?_)
  refine B_istore (ls' := [.ref 83, .int x1, .int x2, .int v1, .int v2, .int v3, .null, .null, .null]) dX7_isBorne_24 (Nat.le_of_ble_eq_true rfl) rfl rfl ?_
  refine B_iconst dX7_isBorne_26 ic_0 ?_
  refine B_istore (ls' := [.ref 83, .int x1, .int x2, .int v1, .int v2, .int v3, .int 0, .null, .null]) dX7_isBorne_27 (Nat.le_of_ble_eq_true rfl) rfl rfl ?_
  exact b_X7_isBorne_L29 h dFu x1 x2 v1 v2 v3 0
def f_X8_beginCity_L30 : Nat → Int32 → dH → Option (dH)
  | 0, _, _ => none
  | n + 1, y1, h =>
    if y1 < 7 then
    (f_X1_toldOf 3 y1 4 h).bind fun v5 =>
    if dIn (21 + y1) 28 then
    (some (dPut h 67 (dI (21 + y1)) v5)).bind fun h7 =>
    (f_X8_beginCity_L30 n) (y1 + 1) h7
    else none
    else
    some h
set_option maxRecDepth 20000 in
set_option maxHeartbeats 4000000 in
theorem b_X8_beginCity_L30 : ∀ (n : Nat) (y1 : Int32) (h : dH), B XC 2 RX8 cX8_beginCity 2 none fiV 30 [.ref 66, .int y1] [] h (f_X8_beginCity_L30 n y1 h) := by
  intro n
  induction n with
  | zero =>
    intro y1 h
    exact B_none
  | succ n ih =>
    intro y1 h
    rw [f_X8_beginCity_L30]
    refine B_iload_n dX8_beginCity_30 rfl rfl ?_
    refine B_bipush dX8_beginCity_31 bp_7 ?_
    refine C_icmp_ge (tgt := 60) dX8_beginCity_33 (by decide) (fun q8 => ?_) (fun q8 => ?_)
    · exact B_return dX8_beginCity_60 rfl rfl
    · refine B_aload_n dX8_beginCity_36 rfl rfl ?_
      refine B_getR dX8_beginCity_37 fl_X8_11 shC_66 rfl (rfC_66_2 _) ?_
      refine B_bipush dX8_beginCity_40 bp_21 ?_
      refine B_iload_n dX8_beginCity_42 rfl rfl ?_
      refine B_iadd dX8_beginCity_43 ?_
      refine B_aload_n dX8_beginCity_44 rfl rfl ?_
      refine B_getR dX8_beginCity_45 fl_X8_15 shC_66 rfl (rfC_66_0 _) ?_
      refine B_iload_n dX8_beginCity_48 rfl rfl ?_
      refine B_iconst dX8_beginCity_49 ic_4 ?_
      refine B_Vp (st := [.int (21 + y1), .ref 67]) dX8_beginCity_50 cl_X8_23 (t_X1_toldOf 3 shC_3 y1 4 h) (Nat.le_of_ble_eq_true rfl) shC_3 rfl rfl (Nat.le_of_ble_eq_true rfl) (fun v5 _ => ?_)
      refine C_chk (fun q6 => ?_)
      refine L_iast dX8_beginCity_53 shC_67 q6 rfl ?_
      refine B_lh (fun h7 => ?_)
      refine B_iinc (w := (y1 + 1)) (ls' := [.ref 66, .int (y1 + 1)]) dX8_beginCity_54 rfl (congrArg (fun z => y1 + z) ic_1) (Nat.le_of_ble_eq_true rfl) rfl rfl ?_
      refine B_goto (tgt := 30) dX8_beginCity_57 (by decide) ?_
      exact ih (y1 + 1)  h7
def f_X8_beginCity_L2 : Nat → Int32 → dH → Option (dH)
  | 0, _, _ => none
  | n + 1, y1, h =>
    if y1 < 28 then
    if dIn y1 28 then
    (some (dPut h 67 (dI y1) 0)).bind fun h3 =>
    (f_X8_beginCity_L2 n) (y1 + 1) h3
    else none
    else
    (some (dPut h 67 0 (-1))).bind fun h1 =>
    f_X8_beginCity_L30 dFu 0 h1
set_option maxRecDepth 20000 in
set_option maxHeartbeats 4000000 in
theorem b_X8_beginCity_L2 : ∀ (n : Nat) (y1 : Int32) (h : dH), B XC 2 RX8 cX8_beginCity 2 none fiV 2 [.ref 66, .int y1] [] h (f_X8_beginCity_L2 n y1 h) := by
  intro n
  induction n with
  | zero =>
    intro y1 h
    exact B_none
  | succ n ih =>
    intro y1 h
    rw [f_X8_beginCity_L2]
    refine B_iload_n dX8_beginCity_2 rfl rfl ?_
    refine B_bipush dX8_beginCity_3 bp_28 ?_
    refine C_icmp_ge (tgt := 21) dX8_beginCity_5 (by decide) (fun q4 => ?_) (fun q4 => ?_)
    · refine B_aload_n dX8_beginCity_21 rfl rfl ?_
      refine B_getR dX8_beginCity_22 fl_X8_11 shC_66 rfl (rfC_66_2 _) ?_
      refine B_iconst dX8_beginCity_25 ic_0 ?_
      refine B_iconst dX8_beginCity_26 ic_m1 ?_
      refine L_iast dX8_beginCity_27 shC_67 (by decide) di_0 ?_
      refine B_lh (fun h1 => ?_)
      refine B_iconst dX8_beginCity_28 ic_0 ?_
      refine B_istore_n (ls' := [.ref 66, .int 0]) dX8_beginCity_29 rfl (Nat.le_of_ble_eq_true rfl) rfl rfl ?_
      exact b_X8_beginCity_L30 dFu 0 h1
    · refine B_aload_n dX8_beginCity_8 rfl rfl ?_
      refine B_getR dX8_beginCity_9 fl_X8_11 shC_66 rfl (rfC_66_2 _) ?_
      refine B_iload_n dX8_beginCity_12 rfl rfl ?_
      refine B_iconst dX8_beginCity_13 ic_0 ?_
      refine C_chk (fun q2 => ?_)
      refine L_iast dX8_beginCity_14 shC_67 q2 rfl ?_
      refine B_lh (fun h3 => ?_)
      refine B_iinc (w := (y1 + 1)) (ls' := [.ref 66, .int (y1 + 1)]) dX8_beginCity_15 rfl (congrArg (fun z => y1 + z) ic_1) (Nat.le_of_ble_eq_true rfl) rfl rfl ?_
      refine B_goto (tgt := 2) dX8_beginCity_18 (by decide) ?_
      exact ih (y1 + 1)  h3
def f_X8_beginCity (h : dH) : Option (dH) :=
  f_X8_beginCity_L2 dFu 0 h
set_option maxRecDepth 20000 in
set_option maxHeartbeats 4000000 in
theorem t_X8_beginCity (h : dH) : T XC 2 yX8_beginCity cX8_beginCity 2 none fiV [.ref 66] h (f_X8_beginCity h) := by
  refine T_of [.ref 66, .null] (by decide) (fun _ => rfl) (fun _ => Nat.le_of_ble_eq_true rfl) ?_
  show B XC 2 RX8 cX8_beginCity 2 none fiV 0 [.ref 66, .null] [] h (f_X8_beginCity h)
  unfold f_X8_beginCity
  refine B_iconst dX8_beginCity_0 ic_0 ?_
  refine B_istore_n (ls' := [.ref 66, .int 0]) dX8_beginCity_1 rfl (Nat.le_of_ble_eq_true rfl) rfl rfl ?_
  exact b_X8_beginCity_L2 dFu 0 h
def f_X8_seenInAll (t : Nat) (h : dH) : Int32 :=
  (h.1 (t + 1) 4)
set_option maxRecDepth 20000 in
set_option maxHeartbeats 4000000 in
theorem t_X8_seenInAll (t : Nat) (ht : XC.1[t]? = some (.inl 8)) (h : dH) : T XC 0 yX8_seenInAll cX8_seenInAll 1 (some .int) (fiP h) [.ref t] h (some (f_X8_seenInAll t h)) := by
  refine T_of [.ref t] (by decide) (fun _ => rfl) (fun _ => Nat.le_of_ble_eq_true rfl) ?_
  show B XC 0 RX8 cX8_seenInAll 1 (some .int) (fiP h) 0 [.ref t] [] h (some (f_X8_seenInAll t h))
  unfold f_X8_seenInAll
  refine B_aload_n dX8_seenInAll_0 rfl rfl ?_
  refine B_getR dX8_seenInAll_1 fl_X8_11 ht rfl (rfX8_2 _ ht) ?_
  refine B_iconst dX8_seenInAll_4 ic_4 ?_
  refine L_iald dX8_seenInAll_5 (shX8_2 ht) (by decide) di_4 ?_
  exact B_ireturn dX8_seenInAll_6 rfl rfl
def f_X8_secrets (h : dH) : Int32 :=
  (h.1 67 5)
set_option maxRecDepth 20000 in
set_option maxHeartbeats 4000000 in
theorem t_X8_secrets (h : dH) : T XC 0 yX8_secrets cX8_secrets 1 (some .int) (fiP h) [.ref 66] h (some (f_X8_secrets h)) := by
  refine T_of [.ref 66] (by decide) (fun _ => rfl) (fun _ => Nat.le_of_ble_eq_true rfl) ?_
  show B XC 0 RX8 cX8_secrets 1 (some .int) (fiP h) 0 [.ref 66] [] h (some (f_X8_secrets h))
  unfold f_X8_secrets
  refine B_aload_n dX8_secrets_0 rfl rfl ?_
  refine B_getR dX8_secrets_1 fl_X8_11 shC_66 rfl (rfC_66_2 _) ?_
  refine B_iconst dX8_secrets_4 ic_5 ?_
  refine L_iald dX8_secrets_5 shC_67 (by decide) di_5 ?_
  exact B_ireturn dX8_secrets_6 rfl rfl
def f_X8_setPatience (x1 : Int32) (x2 : Int32) (h : dH) : Option (dH) :=
  if (f_X1_isPlace 3 x1 h) then
  if dIn (21 + x1) 28 then
  some (dPut h 67 (dI (21 + x1)) x2)
  else none
  else
  some h
set_option maxRecDepth 20000 in
set_option maxHeartbeats 4000000 in
theorem t_X8_setPatience (x1 : Int32) (x2 : Int32) (h : dH) : T XC 1 yX8_setPatience cX8_setPatience 3 none fiV [.ref 66, .int x1, .int x2] h (f_X8_setPatience x1 x2 h) := by
  refine T_of [.ref 66, .int x1, .int x2] (by decide) (fun _ => rfl) (fun _ => Nat.le_of_ble_eq_true rfl) ?_
  show B XC 1 RX8 cX8_setPatience 3 none fiV 0 [.ref 66, .int x1, .int x2] [] h (f_X8_setPatience x1 x2 h)
  unfold f_X8_setPatience
  refine B_aload_n dX8_setPatience_0 rfl rfl ?_
  refine B_getR dX8_setPatience_1 fl_X8_15 shC_66 rfl (rfC_66_0 _) ?_
  refine B_iload_n dX8_setPatience_4 rfl rfl ?_
  refine B_VTb (st := []) dX8_setPatience_5 cl_X8_35 (t_X1_isPlace 3 shC_3 x1 h) (Nat.le_of_ble_eq_true rfl) shC_3 rfl rfl (Nat.le_of_ble_eq_true rfl) ?_
  refine C_ifb_eq (tgt := 21) dX8_setPatience_8 (by decide) (fun q2 => ?_) (fun q2 => ?_)
  · exact B_return dX8_setPatience_21 rfl rfl
  · refine B_aload_n dX8_setPatience_11 rfl rfl ?_
    refine B_getR dX8_setPatience_12 fl_X8_11 shC_66 rfl (rfC_66_2 _) ?_
    refine B_bipush dX8_setPatience_15 bp_21 ?_
    refine B_iload_n dX8_setPatience_17 rfl rfl ?_
    refine B_iadd dX8_setPatience_18 ?_
    refine B_iload_n dX8_setPatience_19 rfl rfl ?_
    refine C_chk (fun q1 => ?_)
    refine L_iast dX8_setPatience_20 shC_67 q1 rfl ?_
    exact B_return dX8_setPatience_21 rfl rfl
def f_X8_canDo (t : Nat) (x1 : Int32) (x2 : Int32) (h : dH) : Option (Bool) :=
  if x1 = 0 then
  (f_X8_couldWalk t (h.1 (t + 1) 0) (h.1 (t + 1) 1) (h.1 (t + 1) 2) x2 h).bind fun v2 =>
  some v2
  else
  if x1 = 1 then
  if 0 < (h.1 (t + 1) 2) then
  if (h.1 (t + 1) 1) < (h.1 4 1) then
  some true
  else
  some false
  else
  some false
  else
  if x1 = 2 then
  if (f_X1_isPlace 3 x2 h) then
  if (f_X11_isIn (h.1 (t + 1) 5) x2 h) then
  some true
  else
  some false
  else
  some false
  else
  if x1 = 3 then
  if (f_X1_isThere h) then
  if (h.1 (t + 1) 6) < 999 then
  some true
  else
  some false
  else
  some false
  else
  some false
set_option maxRecDepth 20000 in
set_option maxHeartbeats 4000000 in
theorem t_X8_canDo (t : Nat) (ht : XC.1[t]? = some (.inl 8)) (x1 : Int32) (x2 : Int32) (h : dH) : T XC 2 yX8_canDo cX8_canDo 3 (some .boolean) (fiB h) [.ref t, .int x1, .int x2] h (f_X8_canDo t x1 x2 h) := by
  refine T_of [.ref t, .int x1, .int x2] (by decide) (fun _ => rfl) (fun _ => Nat.le_of_ble_eq_true rfl) ?_
  show B XC 2 RX8 cX8_canDo 3 (some .boolean) (fiB h) 0 [.ref t, .int x1, .int x2] [] h (f_X8_canDo t x1 x2 h)
  unfold f_X8_canDo
  refine B_iload_n dX8_canDo_0 rfl rfl ?_
  refine C_ite (fun n1_0 => ?_) (fun n1_0 => ?_)
  · refine B_tswIn (off := 31) (tgt := 32) dX8_canDo_1 (by rw [n1_0]; decide) (by rw [n1_0]; decide) (by rw [n1_0]; decide) (by decide) ?_
    refine B_aload_n dX8_canDo_32 rfl rfl ?_
    refine B_aload_n dX8_canDo_33 rfl rfl ?_
    refine B_getR dX8_canDo_34 fl_X8_11 ht rfl (rfX8_2 _ ht) ?_
    refine B_iconst dX8_canDo_37 ic_0 ?_
    refine L_iald dX8_canDo_38 (shX8_2 ht) (by decide) di_0 ?_
    refine B_aload_n dX8_canDo_39 rfl rfl ?_
    refine B_getR dX8_canDo_40 fl_X8_11 ht rfl (rfX8_2 _ ht) ?_
    refine B_iconst dX8_canDo_43 ic_1 ?_
    refine L_iald dX8_canDo_44 (shX8_2 ht) (by decide) di_1 ?_
    refine B_aload_n dX8_canDo_45 rfl rfl ?_
    refine B_getR dX8_canDo_46 fl_X8_11 ht rfl (rfX8_2 _ ht) ?_
    refine B_iconst dX8_canDo_49 ic_2 ?_
    refine L_iald dX8_canDo_50 (shX8_2 ht) (by decide) di_2 ?_
    refine B_iload_n dX8_canDo_51 rfl rfl ?_
    refine B_Vpb (st := []) dX8_canDo_52 cl_X8_89 (t_X8_couldWalk t ht (h.1 (t + 1) 0) (h.1 (t + 1) 1) (h.1 (t + 1) 2) x2 h) (Nat.le_of_ble_eq_true rfl) ht rfl rfl (Nat.le_of_ble_eq_true rfl) (fun v2 _ => ?_)
    exact B_zreturn dX8_canDo_55 rfl (nar_bi v2) rfl
  · refine C_ite (fun n1_1 => ?_) (fun n1_1 => ?_)
    · refine B_tswIn (off := 55) (tgt := 56) dX8_canDo_1 (by rw [n1_1]; decide) (by rw [n1_1]; decide) (by rw [n1_1]; decide) (by decide) ?_
      refine B_aload_n dX8_canDo_56 rfl rfl ?_
      refine B_getR dX8_canDo_57 fl_X8_11 ht rfl (rfX8_2 _ ht) ?_
      refine B_iconst dX8_canDo_60 ic_2 ?_
      refine L_iald dX8_canDo_61 (shX8_2 ht) (by decide) di_2 ?_
      refine C_if_le (tgt := 87) dX8_canDo_62 (by decide) (fun q4 => ?_) (fun q4 => ?_)
      · refine B_iconst dX8_canDo_87 ic_0 ?_
        exact B_zreturn dX8_canDo_88 rfl rfl rfl
      · refine B_aload_n dX8_canDo_65 rfl rfl ?_
        refine B_getR dX8_canDo_66 fl_X8_11 ht rfl (rfX8_2 _ ht) ?_
        refine B_iconst dX8_canDo_69 ic_1 ?_
        refine L_iald dX8_canDo_70 (shX8_2 ht) (by decide) di_1 ?_
        refine B_aload_n dX8_canDo_71 rfl rfl ?_
        refine B_getR dX8_canDo_72 fl_X8_15 ht rfl (rfX8_0 _ ht) ?_
        refine B_getR dX8_canDo_75 fl_X8_60 shC_3 rfl (rfC_3_0 _) ?_
        refine B_iconst dX8_canDo_78 ic_1 ?_
        refine L_iald dX8_canDo_79 shC_4 (by decide) di_1 ?_
        refine C_icmp_ge (tgt := 87) dX8_canDo_80 (by decide) (fun q3 => ?_) (fun q3 => ?_)
        · refine B_iconst dX8_canDo_87 ic_0 ?_
          exact B_zreturn dX8_canDo_88 rfl rfl rfl
        · refine B_iconst dX8_canDo_83 ic_1 ?_
          refine B_goto (tgt := 88) dX8_canDo_84 (by decide) ?_
          exact B_zreturn dX8_canDo_88 rfl rfl rfl
    · refine C_ite (fun n1_2 => ?_) (fun n1_2 => ?_)
      · refine B_tswIn (off := 88) (tgt := 89) dX8_canDo_1 (by rw [n1_2]; decide) (by rw [n1_2]; decide) (by rw [n1_2]; decide) (by decide) ?_
        refine B_aload_n dX8_canDo_89 rfl rfl ?_
        refine B_getR dX8_canDo_90 fl_X8_15 ht rfl (rfX8_0 _ ht) ?_
        refine B_iload_n dX8_canDo_93 rfl rfl ?_
        refine B_VTb (st := []) dX8_canDo_94 cl_X8_35 (t_X1_isPlace 3 shC_3 x2 h) (Nat.le_of_ble_eq_true rfl) shC_3 rfl rfl (Nat.le_of_ble_eq_true rfl) ?_
        refine C_ifb_eq (tgt := 117) dX8_canDo_97 (by decide) (fun q6 => ?_) (fun q6 => ?_)
        · refine B_iconst dX8_canDo_117 ic_0 ?_
          exact B_zreturn dX8_canDo_118 rfl rfl rfl
        · refine B_aload_n dX8_canDo_100 rfl rfl ?_
          refine B_getR dX8_canDo_101 fl_X8_11 ht rfl (rfX8_2 _ ht) ?_
          refine B_iconst dX8_canDo_104 ic_5 ?_
          refine L_iald dX8_canDo_105 (shX8_2 ht) (by decide) di_5 ?_
          refine B_iload_n dX8_canDo_106 rfl rfl ?_
          refine B_NTb (st := []) dX8_canDo_107 cl_X8_93 (t_X11_isIn (h.1 (t + 1) 5) x2 h) (Nat.le_of_ble_eq_true rfl) rfl rfl (Nat.le_of_ble_eq_true rfl) ?_
          refine C_ifb_eq (tgt := 117) dX8_canDo_110 (by decide) (fun q5 => ?_) (fun q5 => ?_)
          · refine B_iconst dX8_canDo_117 ic_0 ?_
            exact B_zreturn dX8_canDo_118 rfl rfl rfl
          · refine B_iconst dX8_canDo_113 ic_1 ?_
            refine B_goto (tgt := 118) dX8_canDo_114 (by decide) ?_
            exact B_zreturn dX8_canDo_118 rfl rfl rfl
      · refine C_ite (fun n1_3 => ?_) (fun n1_3 => ?_)
        · refine B_tswIn (off := 118) (tgt := 119) dX8_canDo_1 (by rw [n1_3]; decide) (by rw [n1_3]; decide) (by rw [n1_3]; decide) (by decide) ?_
          refine B_aload_n dX8_canDo_119 rfl rfl ?_
          refine B_getR dX8_canDo_120 fl_X8_15 ht rfl (rfX8_0 _ ht) ?_
          refine B_VTb (st := []) dX8_canDo_123 cl_X8_96 (t_X1_isThere h) (Nat.le_of_ble_eq_true rfl) shC_3 rfl rfl (Nat.le_of_ble_eq_true rfl) ?_
          refine C_ifb_eq (tgt := 146) dX8_canDo_126 (by decide) (fun q8 => ?_) (fun q8 => ?_)
          · refine B_iconst dX8_canDo_146 ic_0 ?_
            exact B_zreturn dX8_canDo_147 rfl rfl rfl
          · refine B_aload_n dX8_canDo_129 rfl rfl ?_
            refine B_getR dX8_canDo_130 fl_X8_11 ht rfl (rfX8_2 _ ht) ?_
            refine B_bipush dX8_canDo_133 bp_6 ?_
            refine L_iald dX8_canDo_135 (shX8_2 ht) (by decide) di_6 ?_
            refine B_sipush dX8_canDo_136 sp_999 ?_
            refine C_icmp_ge (tgt := 146) dX8_canDo_139 (by decide) (fun q7 => ?_) (fun q7 => ?_)
            · refine B_iconst dX8_canDo_146 ic_0 ?_
              exact B_zreturn dX8_canDo_147 rfl rfl rfl
            · refine B_iconst dX8_canDo_142 ic_1 ?_
              refine B_goto (tgt := 147) dX8_canDo_143 (by decide) ?_
              exact B_zreturn dX8_canDo_147 rfl rfl rfl
        · refine B_tswOut (tgt := 148) dX8_canDo_1 (dsw (fun c h1 h2 => ?_)) (by decide) ?_
          · rcases (show c = 0 ∨ c = 1 ∨ c = 2 ∨ c = 3 by omega) with rfl | rfl | rfl | rfl
            · exact n1_0
            · exact n1_1
            · exact n1_2
            · exact n1_3
          · refine B_iconst dX8_canDo_148 ic_0 ?_
            exact B_zreturn dX8_canDo_149 rfl rfl rfl
def f_X8_reach_J30 (kL4 : Int32 → Int32 → Option (Int32)) (y1 : Int32) (y2 : Int32) (h : dH) : Option (Int32) :=
  kL4 y1 (y2 + 1)
set_option maxRecDepth 20000 in
set_option maxHeartbeats 4000000 in
theorem b_X8_reach_J30 {kL4 : Int32 → Int32 → Option (Int32)} (h : dH) (hkL4 : ∀ (y1 : Int32) (y2 : Int32), B XC 3 RX8 cX8_reach 3 (some .int) (fiP h) 4 [.ref 66, .int y1, .int y2] [] h (kL4 y1 y2)) (y1 : Int32) (y2 : Int32) : B XC 3 RX8 cX8_reach 3 (some .int) (fiP h) 30 [.ref 66, .int y1, .int y2] [] h (f_X8_reach_J30 kL4 y1 y2 h) := by
  unfold f_X8_reach_J30
  refine B_iinc (w := (y2 + 1)) (ls' := [.ref 66, .int y1, .int (y2 + 1)]) dX8_reach_30 rfl (congrArg (fun z => y2 + z) ic_1) (Nat.le_of_ble_eq_true rfl) rfl rfl ?_
  refine B_goto (tgt := 4) dX8_reach_33 (by decide) ?_
  exact hkL4 y1 (y2 + 1)  
def f_X8_reach_L4 (h : dH) : Nat → Int32 → Int32 → Option (Int32)
  | 0, _, _ => none
  | n + 1, y1, y2 =>
    if y2 < (h.1 3 2) then
    (f_X8_canDo 66 0 y2 h).bind fun v1 =>
    if v1 then
    (some ((y1 ||| (1 <<< (y2 &&& 31))))).bind fun v2 =>
    f_X8_reach_J30 (f_X8_reach_L4 h n) v2 y2 h
    else
    f_X8_reach_J30 (f_X8_reach_L4 h n) y1 y2 h
    else
    some y1
set_option maxRecDepth 20000 in
set_option maxHeartbeats 4000000 in
theorem b_X8_reach_L4 (h : dH) : ∀ (n : Nat) (y1 : Int32) (y2 : Int32), B XC 3 RX8 cX8_reach 3 (some .int) (fiP h) 4 [.ref 66, .int y1, .int y2] [] h (f_X8_reach_L4 h n y1 y2) := by
  intro n
  induction n with
  | zero =>
    intro y1 y2
    exact B_none
  | succ n ih =>
    intro y1 y2
    rw [f_X8_reach_L4]
    refine B_iload_n dX8_reach_4 rfl rfl ?_
    refine B_aload_n dX8_reach_5 rfl rfl ?_
    refine B_getR dX8_reach_6 fl_X8_15 shC_66 rfl (rfC_66_0 _) ?_
    refine B_getI dX8_reach_9 fl_X8_46 shC_3 rfl ?_
    refine C_icmp_ge (tgt := 36) dX8_reach_12 (by decide) (fun q4 => ?_) (fun q4 => ?_)
    · refine B_iload_n dX8_reach_36 rfl rfl ?_
      exact B_ireturn dX8_reach_37 rfl rfl
    · refine B_aload_n dX8_reach_15 rfl rfl ?_
      refine B_iconst dX8_reach_16 ic_0 ?_
      refine B_iload_n dX8_reach_17 rfl rfl ?_
      refine B_Vpb (st := []) dX8_reach_18 cl_X8_54 (t_X8_canDo 66 shC_66 0 y2 h) (Nat.le_of_ble_eq_true rfl) shC_66 rfl rfl (Nat.le_of_ble_eq_true rfl) (fun v1 _ => ?_)
      refine C_ifb_eq (tgt := 30) dX8_reach_21 (by decide) (fun q3 => ?_) (fun q3 => ?_)
      · exact b_X8_reach_J30 h (fun qy1 qy2 => ih qy1 qy2) y1 y2
      · refine B_iload_n dX8_reach_24 rfl rfl ?_
        refine B_iconst dX8_reach_25 ic_1 ?_
        refine B_iload_n dX8_reach_26 rfl rfl ?_
        refine B_ishl dX8_reach_27 ?_
        refine B_ior dX8_reach_28 ?_
        refine B_lv (fun v2 => ?_)
        refine B_istore_n (ls' := [.ref 66, .int v2, .int y2]) dX8_reach_29 rfl (Nat.le_of_ble_eq_true rfl) rfl rfl ?_
        exact b_X8_reach_J30 h (fun qy1 qy2 => ih qy1 qy2) v2 y2
def f_X8_reach (h : dH) : Option (Int32) :=
  f_X8_reach_L4 h dFu 0 0
set_option maxRecDepth 20000 in
set_option maxHeartbeats 4000000 in
theorem t_X8_reach (h : dH) : T XC 3 yX8_reach cX8_reach 3 (some .int) (fiP h) [.ref 66] h (f_X8_reach h) := by
  refine T_of [.ref 66, .null, .null] (by decide) (fun _ => rfl) (fun _ => Nat.le_of_ble_eq_true rfl) ?_
  show B XC 3 RX8 cX8_reach 3 (some .int) (fiP h) 0 [.ref 66, .null, .null] [] h (f_X8_reach h)
  unfold f_X8_reach
  refine B_iconst dX8_reach_0 ic_0 ?_
  refine B_istore_n (ls' := [.ref 66, .int 0, .null]) dX8_reach_1 rfl (Nat.le_of_ble_eq_true rfl) rfl rfl ?_
  refine B_iconst dX8_reach_2 ic_0 ?_
  refine B_istore_n (ls' := [.ref 66, .int 0, .int 0]) dX8_reach_3 rfl (Nat.le_of_ble_eq_true rfl) rfl rfl ?_
  exact b_X8_reach_L4 h dFu 0 0
def f_X8_troubleNow (x1 : Int32) (x2 : Int32) (h : dH) : Option (Int32 × dH) :=
  (f_X1_apart 3 (h.1 67 0) x1 h).bind fun v1 =>
  (f_X8_troubleThen 66 x1 ((h.1 67 1) + v1) ((h.1 67 2) + v1) x2 h).bind fun rv2 =>
  some (rv2.1, rv2.2)
set_option maxRecDepth 20000 in
set_option maxHeartbeats 4000000 in
theorem t_X8_troubleNow (x1 : Int32) (x2 : Int32) (h : dH) : T XC 3 yX8_troubleNow cX8_troubleNow 4 (some .int) fiI [.ref 66, .int x1, .int x2] h (f_X8_troubleNow x1 x2 h) := by
  refine T_of [.ref 66, .int x1, .int x2, .null] (by decide) (fun _ => rfl) (fun _ => Nat.le_of_ble_eq_true rfl) ?_
  show B XC 3 RX8 cX8_troubleNow 4 (some .int) fiI 0 [.ref 66, .int x1, .int x2, .null] [] h (f_X8_troubleNow x1 x2 h)
  unfold f_X8_troubleNow
  refine B_aload_n dX8_troubleNow_0 rfl rfl ?_
  refine B_getR dX8_troubleNow_1 fl_X8_15 shC_66 rfl (rfC_66_0 _) ?_
  refine B_aload_n dX8_troubleNow_4 rfl rfl ?_
  refine B_getR dX8_troubleNow_5 fl_X8_11 shC_66 rfl (rfC_66_2 _) ?_
  refine B_iconst dX8_troubleNow_8 ic_0 ?_
  refine L_iald dX8_troubleNow_9 shC_67 (by decide) di_0 ?_
  refine B_iload_n dX8_troubleNow_10 rfl rfl ?_
  refine B_Vp (st := []) dX8_troubleNow_11 cl_X8_57 (t_X1_apart 3 shC_3 (h.1 67 0) x1 h) (Nat.le_of_ble_eq_true rfl) shC_3 rfl rfl (Nat.le_of_ble_eq_true rfl) (fun v1 _ => ?_)
  refine B_istore_n (ls' := [.ref 66, .int x1, .int x2, .int v1]) dX8_troubleNow_14 rfl (Nat.le_of_ble_eq_true rfl) rfl rfl ?_
  refine B_aload_n dX8_troubleNow_15 rfl rfl ?_
  refine B_iload_n dX8_troubleNow_16 rfl rfl ?_
  refine B_aload_n dX8_troubleNow_17 rfl rfl ?_
  refine B_getR dX8_troubleNow_18 fl_X8_11 shC_66 rfl (rfC_66_2 _) ?_
  refine B_iconst dX8_troubleNow_21 ic_1 ?_
  refine L_iald dX8_troubleNow_22 shC_67 (by decide) di_1 ?_
  refine B_iload_n dX8_troubleNow_23 rfl rfl ?_
  refine B_iadd dX8_troubleNow_24 ?_
  refine B_aload_n dX8_troubleNow_25 rfl rfl ?_
  refine B_getR dX8_troubleNow_26 fl_X8_11 shC_66 rfl (rfC_66_2 _) ?_
  refine B_iconst dX8_troubleNow_29 ic_2 ?_
  refine L_iald dX8_troubleNow_30 shC_67 (by decide) di_2 ?_
  refine B_iload_n dX8_troubleNow_31 rfl rfl ?_
  refine B_iadd dX8_troubleNow_32 ?_
  refine B_iload_n dX8_troubleNow_33 rfl rfl ?_
  refine B_VI (st := []) dX8_troubleNow_34 cl_X8_85 (t_X8_troubleThen 66 shC_66 x1 ((h.1 67 1) + v1) ((h.1 67 2) + v1) x2 h) (Nat.le_of_ble_eq_true rfl) shC_66 rfl rfl (Nat.le_of_ble_eq_true rfl) (fun v2 h3 _ => ?_)
  exact B_ireturn dX8_troubleNow_37 rfl rfl
def f_X8_readOnLedge (t : Nat) (h : dH) : Option (Int32 × dH) :=
  (some (dPut h (t + 1) 1 ((h.1 (t + 1) 1) + 1))).bind fun h1 =>
  some (((dPut h1 (t + 1) 2 (jmax 0 ((h1.1 (t + 1) 2) - 3))).1 (t + 1) 2), (dPut h1 (t + 1) 2 (jmax 0 ((h1.1 (t + 1) 2) - 3))))
set_option maxRecDepth 20000 in
set_option maxHeartbeats 4000000 in
theorem t_X8_readOnLedge (t : Nat) (ht : XC.1[t]? = some (.inl 8)) (h : dH) : T XC 1 yX8_readOnLedge cX8_readOnLedge 1 (some .int) fiI [.ref t] h (f_X8_readOnLedge t h) := by
  refine T_of [.ref t] (by decide) (fun _ => rfl) (fun _ => Nat.le_of_ble_eq_true rfl) ?_
  show B XC 1 RX8 cX8_readOnLedge 1 (some .int) fiI 0 [.ref t] [] h (f_X8_readOnLedge t h)
  unfold f_X8_readOnLedge
  refine B_aload_n dX8_readOnLedge_0 rfl rfl ?_
  refine B_getR dX8_readOnLedge_1 fl_X8_11 ht rfl (rfX8_2 _ ht) ?_
  refine B_iconst dX8_readOnLedge_4 ic_1 ?_
  refine B_dup2 dX8_readOnLedge_5 rfl rfl ?_
  refine L_iald dX8_readOnLedge_6 (shX8_2 ht) (by decide) di_1 ?_
  refine B_iconst dX8_readOnLedge_7 ic_1 ?_
  refine B_iadd dX8_readOnLedge_8 ?_
  refine L_iast dX8_readOnLedge_9 (shX8_2 ht) (by decide) di_1 ?_
  refine B_lh (fun h1 => ?_)
  refine B_aload_n dX8_readOnLedge_10 rfl rfl ?_
  refine B_getR dX8_readOnLedge_11 fl_X8_11 ht rfl (rfX8_2 _ ht) ?_
  refine B_iconst dX8_readOnLedge_14 ic_2 ?_
  refine B_iconst dX8_readOnLedge_15 ic_0 ?_
  refine B_aload_n dX8_readOnLedge_16 rfl rfl ?_
  refine B_getR dX8_readOnLedge_17 fl_X8_11 ht rfl (rfX8_2 _ ht) ?_
  refine B_iconst dX8_readOnLedge_20 ic_2 ?_
  refine L_iald dX8_readOnLedge_21 (shX8_2 ht) (by decide) di_2 ?_
  refine B_iconst dX8_readOnLedge_22 ic_3 ?_
  refine B_isub dX8_readOnLedge_23 ?_
  refine B_mmax dX8_readOnLedge_24 mt_X8_112 (Nat.le_of_ble_eq_true rfl) (Nat.le_of_ble_eq_true rfl) ?_
  refine L_iast dX8_readOnLedge_27 (shX8_2 ht) (by decide) di_2 ?_
  refine B_aload_n dX8_readOnLedge_28 rfl rfl ?_
  refine B_getR dX8_readOnLedge_29 fl_X8_11 ht rfl (rfX8_2 _ ht) ?_
  refine B_iconst dX8_readOnLedge_32 ic_2 ?_
  refine L_iald dX8_readOnLedge_33 (shX8_2 ht) (by decide) di_2 ?_
  exact B_ireturn dX8_readOnLedge_34 rfl rfl
def f_X8_endDay_L41 (t : Nat) : Nat → Int32 → dH → Option (Int32 × dH)
  | 0, _, _ => none
  | n + 1, y1, h =>
    if y1 < 7 then
    if dIn (7 + y1) 28 then
    (some (dPut h (t + 1) (dI (7 + y1)) 0)).bind fun h7 =>
    if dIn (14 + y1) 28 then
    (some (((h7.1 (t + 1) (dI (14 + y1))) - (h7.1 4 2)))).bind fun v9 =>
    if dIn (14 + y1) 28 then
    (some (dPut h7 (t + 1) (dI (14 + y1)) (jmax 0 v9))).bind fun h11 =>
    (f_X8_endDay_L41 t n) (y1 + 1) h11
    else none
    else none
    else none
    else
    some ((h.1 (t + 1) 6), h)
set_option maxRecDepth 20000 in
set_option maxHeartbeats 4000000 in
theorem b_X8_endDay_L41 {t : Nat} (ht : XC.1[t]? = some (.inl 8)) : ∀ (n : Nat) (y1 : Int32) (h : dH), B XC 1 RX8 cX8_endDay 3 (some .int) fiI 41 [.ref t, .int y1, .null] [] h (f_X8_endDay_L41 t n y1 h) := by
  intro n
  induction n with
  | zero =>
    intro y1 h
    exact B_none
  | succ n ih =>
    intro y1 h
    rw [f_X8_endDay_L41]
    refine B_iload_n dX8_endDay_41 rfl rfl ?_
    refine B_bipush dX8_endDay_42 bp_7 ?_
    refine C_icmp_ge (tgt := 97) dX8_endDay_44 (by decide) (fun q12 => ?_) (fun q12 => ?_)
    · refine B_aload_n dX8_endDay_97 rfl rfl ?_
      refine B_getR dX8_endDay_98 fl_X8_11 ht rfl (rfX8_2 _ ht) ?_
      refine B_bipush dX8_endDay_101 bp_6 ?_
      refine L_iald dX8_endDay_103 (shX8_2 ht) (by decide) di_6 ?_
      exact B_ireturn dX8_endDay_104 rfl rfl
    · refine B_aload_n dX8_endDay_47 rfl rfl ?_
      refine B_getR dX8_endDay_48 fl_X8_11 ht rfl (rfX8_2 _ ht) ?_
      refine B_bipush dX8_endDay_51 bp_7 ?_
      refine B_iload_n dX8_endDay_53 rfl rfl ?_
      refine B_iadd dX8_endDay_54 ?_
      refine B_iconst dX8_endDay_55 ic_0 ?_
      refine C_chk (fun q6 => ?_)
      refine L_iast dX8_endDay_56 (shX8_2 ht) q6 rfl ?_
      refine B_lh (fun h7 => ?_)
      refine B_aload_n dX8_endDay_57 rfl rfl ?_
      refine B_getR dX8_endDay_58 fl_X8_11 ht rfl (rfX8_2 _ ht) ?_
      refine B_bipush dX8_endDay_61 bp_14 ?_
      refine B_iload_n dX8_endDay_63 rfl rfl ?_
      refine B_iadd dX8_endDay_64 ?_
      refine C_chk (fun q8 => ?_)
      refine L_iald dX8_endDay_65 (shX8_2 ht) q8 rfl ?_
      refine B_aload_n dX8_endDay_66 rfl rfl ?_
      refine B_getR dX8_endDay_67 fl_X8_15 ht rfl (rfX8_0 _ ht) ?_
      refine B_getR dX8_endDay_70 fl_X8_60 shC_3 rfl (rfC_3_0 _) ?_
      refine B_iconst dX8_endDay_73 ic_2 ?_
      refine L_iald dX8_endDay_74 shC_4 (by decide) di_2 ?_
      refine B_isub dX8_endDay_75 ?_
      refine B_lv (fun v9 => ?_)
      refine B_istore_n (ls' := [.ref t, .int y1, .int v9]) dX8_endDay_76 rfl (Nat.le_of_ble_eq_true rfl) rfl rfl ?_
      refine B_aload_n dX8_endDay_77 rfl rfl ?_
      refine B_getR dX8_endDay_78 fl_X8_11 ht rfl (rfX8_2 _ ht) ?_
      refine B_bipush dX8_endDay_81 bp_14 ?_
      refine B_iload_n dX8_endDay_83 rfl rfl ?_
      refine B_iadd dX8_endDay_84 ?_
      refine B_iconst dX8_endDay_85 ic_0 ?_
      refine B_iload_n dX8_endDay_86 rfl rfl ?_
      refine B_mmax dX8_endDay_87 mt_X8_112 (Nat.le_of_ble_eq_true rfl) (Nat.le_of_ble_eq_true rfl) ?_
      refine C_chk (fun q10 => ?_)
      refine L_iast dX8_endDay_90 (shX8_2 ht) q10 rfl ?_
      refine B_lh (fun h11 => ?_)
      refine B_iinc (w := (y1 + 1)) (ls' := [.ref t, .int (y1 + 1), .int v9]) dX8_endDay_91 rfl (congrArg (fun z => y1 + z) ic_1) (Nat.le_of_ble_eq_true rfl) rfl rfl ?_
      refine B_goto (tgt := 41) dX8_endDay_94 (by decide) ?_
      refine B_drop 2 (ls' := [.ref t, .int (y1 + 1), .null]) rfl ?_
      exact ih (y1 + 1)  h11
def f_X8_endDay (t : Nat) (h : dH) : Option (Int32 × dH) :=
  (some (dPut h (t + 1) 0 (-1))).bind fun h1 =>
  (some (dPut h1 (t + 1) 1 0)).bind fun h2 =>
  (some (dPut h2 (t + 1) 2 0)).bind fun h3 =>
  (some (dPut h3 (t + 1) 3 0)).bind fun h4 =>
  (some (dPut h4 (t + 1) 6 ((h4.1 (t + 1) 6) + 1))).bind fun h5 =>
  f_X8_endDay_L41 t dFu 0 h5
set_option maxRecDepth 20000 in
set_option maxHeartbeats 4000000 in
theorem t_X8_endDay (t : Nat) (ht : XC.1[t]? = some (.inl 8)) (h : dH) : T XC 1 yX8_endDay cX8_endDay 3 (some .int) fiI [.ref t] h (f_X8_endDay t h) := by
  refine T_of [.ref t, .null, .null] (by decide) (fun _ => rfl) (fun _ => Nat.le_of_ble_eq_true rfl) ?_
  show B XC 1 RX8 cX8_endDay 3 (some .int) fiI 0 [.ref t, .null, .null] [] h (f_X8_endDay t h)
  unfold f_X8_endDay
  refine B_aload_n dX8_endDay_0 rfl rfl ?_
  refine B_getR dX8_endDay_1 fl_X8_11 ht rfl (rfX8_2 _ ht) ?_
  refine B_iconst dX8_endDay_4 ic_0 ?_
  refine B_iconst dX8_endDay_5 ic_m1 ?_
  refine L_iast dX8_endDay_6 (shX8_2 ht) (by decide) di_0 ?_
  refine B_lh (fun h1 => ?_)
  refine B_aload_n dX8_endDay_7 rfl rfl ?_
  refine B_getR dX8_endDay_8 fl_X8_11 ht rfl (rfX8_2 _ ht) ?_
  refine B_iconst dX8_endDay_11 ic_1 ?_
  refine B_iconst dX8_endDay_12 ic_0 ?_
  refine L_iast dX8_endDay_13 (shX8_2 ht) (by decide) di_1 ?_
  refine B_lh (fun h2 => ?_)
  refine B_aload_n dX8_endDay_14 rfl rfl ?_
  refine B_getR dX8_endDay_15 fl_X8_11 ht rfl (rfX8_2 _ ht) ?_
  refine B_iconst dX8_endDay_18 ic_2 ?_
  refine B_iconst dX8_endDay_19 ic_0 ?_
  refine L_iast dX8_endDay_20 (shX8_2 ht) (by decide) di_2 ?_
  refine B_lh (fun h3 => ?_)
  refine B_aload_n dX8_endDay_21 rfl rfl ?_
  refine B_getR dX8_endDay_22 fl_X8_11 ht rfl (rfX8_2 _ ht) ?_
  refine B_iconst dX8_endDay_25 ic_3 ?_
  refine B_iconst dX8_endDay_26 ic_0 ?_
  refine L_iast dX8_endDay_27 (shX8_2 ht) (by decide) di_3 ?_
  refine B_lh (fun h4 => ?_)
  refine B_aload_n dX8_endDay_28 rfl rfl ?_
  refine B_getR dX8_endDay_29 fl_X8_11 ht rfl (rfX8_2 _ ht) ?_
  refine B_bipush dX8_endDay_32 bp_6 ?_
  refine B_dup2 dX8_endDay_34 rfl rfl ?_
  refine L_iald dX8_endDay_35 (shX8_2 ht) (by decide) di_6 ?_
  refine B_iconst dX8_endDay_36 ic_1 ?_
  refine B_iadd dX8_endDay_37 ?_
  refine L_iast dX8_endDay_38 (shX8_2 ht) (by decide) di_6 ?_
  refine B_lh (fun h5 => ?_)
  refine B_iconst dX8_endDay_39 ic_0 ?_
  refine B_istore_n (ls' := [.ref t, .int 0, .null]) dX8_endDay_40 rfl (Nat.le_of_ble_eq_true rfl) rfl rfl ?_
  exact b_X8_endDay_L41 ht dFu 0 h5
def f_X8_putBack (t : Nat) (x1 : Int32) (h : dH) : Option (Int32 × dH) :=
  if (f_X1_isPlace 3 x1 h) then
  (some (dPut h (t + 1) 5 ((h.1 (t + 1) 5) &&& ((1 <<< (x1 &&& 31)) ^^^ (-1))))).bind fun h1 =>
  if dIn (14 + x1) 28 then
  if dIn (14 + x1) 28 then
  (some (dPut h1 (t + 1) (dI (14 + x1)) ((h1.1 (t + 1) (dI (14 + x1))) / 2))).bind fun h4 =>
  if dIn (14 + x1) 28 then
  some ((h4.1 (t + 1) (dI (14 + x1))), h4)
  else none
  else none
  else none
  else
  some ((-1), h)
set_option maxRecDepth 20000 in
set_option maxHeartbeats 4000000 in
theorem t_X8_putBack (t : Nat) (ht : XC.1[t]? = some (.inl 8)) (x1 : Int32) (h : dH) : T XC 1 yX8_putBack cX8_putBack 2 (some .int) fiI [.ref t, .int x1] h (f_X8_putBack t x1 h) := by
  refine T_of [.ref t, .int x1] (by decide) (fun _ => rfl) (fun _ => Nat.le_of_ble_eq_true rfl) ?_
  show B XC 1 RX8 cX8_putBack 2 (some .int) fiI 0 [.ref t, .int x1] [] h (f_X8_putBack t x1 h)
  unfold f_X8_putBack
  refine B_aload_n dX8_putBack_0 rfl rfl ?_
  refine B_getR dX8_putBack_1 fl_X8_15 ht rfl (rfX8_0 _ ht) ?_
  refine B_iload_n dX8_putBack_4 rfl rfl ?_
  refine B_VTb (st := []) dX8_putBack_5 cl_X8_35 (t_X1_isPlace 3 shC_3 x1 h) (Nat.le_of_ble_eq_true rfl) shC_3 rfl rfl (Nat.le_of_ble_eq_true rfl) ?_
  refine C_ifb_ne (tgt := 13) dX8_putBack_8 (by decide) (fun q6 => ?_) (fun q6 => ?_)
  · refine B_aload_n dX8_putBack_13 rfl rfl ?_
    refine B_getR dX8_putBack_14 fl_X8_11 ht rfl (rfX8_2 _ ht) ?_
    refine B_iconst dX8_putBack_17 ic_5 ?_
    refine B_dup2 dX8_putBack_18 rfl rfl ?_
    refine L_iald dX8_putBack_19 (shX8_2 ht) (by decide) di_5 ?_
    refine B_iconst dX8_putBack_20 ic_1 ?_
    refine B_iload_n dX8_putBack_21 rfl rfl ?_
    refine B_ishl dX8_putBack_22 ?_
    refine B_iconst dX8_putBack_23 ic_m1 ?_
    refine B_ixor dX8_putBack_24 ?_
    refine B_iand dX8_putBack_25 ?_
    refine L_iast dX8_putBack_26 (shX8_2 ht) (by decide) di_5 ?_
    refine B_lh (fun h1 => ?_)
    refine B_aload_n dX8_putBack_27 rfl rfl ?_
    refine B_getR dX8_putBack_28 fl_X8_11 ht rfl (rfX8_2 _ ht) ?_
    refine B_bipush dX8_putBack_31 bp_14 ?_
    refine B_iload_n dX8_putBack_33 rfl rfl ?_
    refine B_iadd dX8_putBack_34 ?_
    refine B_dup2 dX8_putBack_35 rfl rfl ?_
    refine C_chk (fun q2 => ?_)
    refine L_iald dX8_putBack_36 (shX8_2 ht) q2 rfl ?_
    refine B_iconst dX8_putBack_37 ic_2 ?_
    refine B_idiv dX8_putBack_38 (by decide) ?_
    refine C_chk (fun q3 => ?_)
    refine L_iast dX8_putBack_39 (shX8_2 ht) q3 rfl ?_
    refine B_lh (fun h4 => ?_)
    refine B_aload_n dX8_putBack_40 rfl rfl ?_
    refine B_getR dX8_putBack_41 fl_X8_11 ht rfl (rfX8_2 _ ht) ?_
    refine B_bipush dX8_putBack_44 bp_14 ?_
    refine B_iload_n dX8_putBack_46 rfl rfl ?_
    refine B_iadd dX8_putBack_47 ?_
    refine C_chk (fun q5 => ?_)
    refine L_iald dX8_putBack_48 (shX8_2 ht) q5 rfl ?_
    exact B_ireturn dX8_putBack_49 rfl rfl
  · refine B_iconst dX8_putBack_11 ic_m1 ?_
    exact B_ireturn dX8_putBack_12 rfl rfl
def f_X8_comeTo_J128 (t : Nat) (y1 : Int32) (y3 : Int32) (h : dH) : Option (Int32 × dH) :=
  if dIn (7 + y1) 28 then
  if dIn (7 + y1) 28 then
  (some (dPut h (t + 1) (dI (7 + y1)) ((h.1 (t + 1) (dI (7 + y1))) + 1))).bind fun h16 =>
  if dIn (14 + y1) 28 then
  if dIn (14 + y1) 28 then
  (some (dPut h16 (t + 1) (dI (14 + y1)) ((h16.1 (t + 1) (dI (14 + y1))) + y3))).bind fun h19 =>
  some (y3, (dPut h19 (t + 1) 5 ((h19.1 (t + 1) 5) ||| (1 <<< (y1 &&& 31)))))
  else none
  else none
  else none
  else none
set_option maxRecDepth 20000 in
set_option maxHeartbeats 4000000 in
theorem b_X8_comeTo_J128 {t : Nat} (ht : XC.1[t]? = some (.inl 8)) (y1 : Int32) (y3 : Int32) (h : dH) : B XC 3 RX8 cX8_comeTo 4 (some .int) fiI 128 [.ref t, .int y1, .null, .int y3] [] h (f_X8_comeTo_J128 t y1 y3 h) := by
  unfold f_X8_comeTo_J128
  refine B_aload_n dX8_comeTo_128 rfl rfl ?_
  refine B_getR dX8_comeTo_129 fl_X8_11 ht rfl (rfX8_2 _ ht) ?_
  refine B_bipush dX8_comeTo_132 bp_7 ?_
  refine B_iload_n dX8_comeTo_134 rfl rfl ?_
  refine B_iadd dX8_comeTo_135 ?_
  refine B_dup2 dX8_comeTo_136 rfl rfl ?_
  refine C_chk (fun q14 => ?_)
  refine L_iald dX8_comeTo_137 (shX8_2 ht) q14 rfl ?_
  refine B_iconst dX8_comeTo_138 ic_1 ?_
  refine B_iadd dX8_comeTo_139 ?_
  refine C_chk (fun q15 => ?_)
  refine L_iast dX8_comeTo_140 (shX8_2 ht) q15 rfl ?_
  refine B_lh (fun h16 => ?_)
  refine B_aload_n dX8_comeTo_141 rfl rfl ?_
  refine B_getR dX8_comeTo_142 fl_X8_11 ht rfl (rfX8_2 _ ht) ?_
  refine B_bipush dX8_comeTo_145 bp_14 ?_
  refine B_iload_n dX8_comeTo_147 rfl rfl ?_
  refine B_iadd dX8_comeTo_148 ?_
  refine B_dup2 dX8_comeTo_149 rfl rfl ?_
  refine C_chk (fun q17 => ?_)
  refine L_iald dX8_comeTo_150 (shX8_2 ht) q17 rfl ?_
  refine B_iload_n dX8_comeTo_151 rfl rfl ?_
  refine B_iadd dX8_comeTo_152 ?_
  refine C_chk (fun q18 => ?_)
  refine L_iast dX8_comeTo_153 (shX8_2 ht) q18 rfl ?_
  refine B_lh (fun h19 => ?_)
  refine B_aload_n dX8_comeTo_154 rfl rfl ?_
  refine B_getR dX8_comeTo_155 fl_X8_11 ht rfl (rfX8_2 _ ht) ?_
  refine B_iconst dX8_comeTo_158 ic_5 ?_
  refine B_dup2 dX8_comeTo_159 rfl rfl ?_
  refine L_iald dX8_comeTo_160 (shX8_2 ht) (by decide) di_5 ?_
  refine B_iconst dX8_comeTo_161 ic_1 ?_
  refine B_iload_n dX8_comeTo_162 rfl rfl ?_
  refine B_ishl dX8_comeTo_163 ?_
  refine B_ior dX8_comeTo_164 ?_
  refine L_iast dX8_comeTo_165 (shX8_2 ht) (by decide) di_5 ?_
  refine B_iload_n dX8_comeTo_166 rfl rfl ?_
  exact B_ireturn dX8_comeTo_167 rfl rfl
def f_X8_comeTo (t : Nat) (x1 : Int32) (h : dH) : Option (Int32 × dH) :=
  if (f_X1_isPlace 3 x1 h) then
  (f_X1_apart 3 (h.1 (t + 1) 0) x1 h).bind fun v1 =>
  (f_X8_troubleThen t x1 ((h.1 (t + 1) 1) + v1) ((h.1 (t + 1) 2) + v1) 0 h).bind fun rv2 =>
  (some (dPut rv2.2 (t + 1) 0 x1)).bind fun h4 =>
  (some (dPut h4 (t + 1) 1 ((h4.1 (t + 1) 1) + (v1 + 1)))).bind fun h5 =>
  (some (dPut h5 (t + 1) 2 ((h5.1 (t + 1) 2) + v1))).bind fun h6 =>
  if dIn (7 + x1) 28 then
  if (h6.1 (t + 1) (dI (7 + x1))) = 0 then
  (f_X1_toldOf 3 x1 3 h6).bind fun v8 =>
  (some (dPut h6 (t + 1) 3 ((h6.1 (t + 1) 3) + v8))).bind fun h9 =>
  (f_X1_toldOf 3 x1 3 h9).bind fun v10 =>
  (some (dPut h9 (t + 1) 4 ((h9.1 (t + 1) 4) + v10))).bind fun h11 =>
  f_X8_comeTo_J128 t x1 rv2.1 h11
  else
  f_X8_comeTo_J128 t x1 rv2.1 h6
  else none
  else
  some ((-1), h)
set_option maxRecDepth 20000 in
set_option maxHeartbeats 4000000 in
theorem t_X8_comeTo (t : Nat) (ht : XC.1[t]? = some (.inl 8)) (x1 : Int32) (h : dH) : T XC 3 yX8_comeTo cX8_comeTo 4 (some .int) fiI [.ref t, .int x1] h (f_X8_comeTo t x1 h) := by
  refine T_of [.ref t, .int x1, .null, .null] (by decide) (fun _ => rfl) (fun _ => Nat.le_of_ble_eq_true rfl) ?_
  show B XC 3 RX8 cX8_comeTo 4 (some .int) fiI 0 [.ref t, .int x1, .null, .null] [] h (f_X8_comeTo t x1 h)
  unfold f_X8_comeTo
  refine B_aload_n dX8_comeTo_0 rfl rfl ?_
  refine B_getR dX8_comeTo_1 fl_X8_15 ht rfl (rfX8_0 _ ht) ?_
  refine B_iload_n dX8_comeTo_4 rfl rfl ?_
  refine B_VTb (st := []) dX8_comeTo_5 cl_X8_35 (t_X1_isPlace 3 shC_3 x1 h) (Nat.le_of_ble_eq_true rfl) shC_3 rfl rfl (Nat.le_of_ble_eq_true rfl) ?_
  refine C_ifb_ne (tgt := 13) dX8_comeTo_8 (by decide) (fun q13 => ?_) (fun q13 => ?_)
  · refine B_aload_n dX8_comeTo_13 rfl rfl ?_
    refine B_getR dX8_comeTo_14 fl_X8_15 ht rfl (rfX8_0 _ ht) ?_
    refine B_aload_n dX8_comeTo_17 rfl rfl ?_
    refine B_getR dX8_comeTo_18 fl_X8_11 ht rfl (rfX8_2 _ ht) ?_
    refine B_iconst dX8_comeTo_21 ic_0 ?_
    refine L_iald dX8_comeTo_22 (shX8_2 ht) (by decide) di_0 ?_
    refine B_iload_n dX8_comeTo_23 rfl rfl ?_
    refine B_Vp (st := []) dX8_comeTo_24 cl_X8_57 (t_X1_apart 3 shC_3 (h.1 (t + 1) 0) x1 h) (Nat.le_of_ble_eq_true rfl) shC_3 rfl rfl (Nat.le_of_ble_eq_true rfl) (fun v1 _ => ?_)
    refine B_istore_n (ls' := [.ref t, .int x1, .int v1, .null]) dX8_comeTo_27 rfl (Nat.le_of_ble_eq_true rfl) rfl rfl ?_
    refine B_aload_n dX8_comeTo_28 rfl rfl ?_
    refine B_iload_n dX8_comeTo_29 rfl rfl ?_
    refine B_aload_n dX8_comeTo_30 rfl rfl ?_
    refine B_getR dX8_comeTo_31 fl_X8_11 ht rfl (rfX8_2 _ ht) ?_
    refine B_iconst dX8_comeTo_34 ic_1 ?_
    refine L_iald dX8_comeTo_35 (shX8_2 ht) (by decide) di_1 ?_
    refine B_iload_n dX8_comeTo_36 rfl rfl ?_
    refine B_iadd dX8_comeTo_37 ?_
    refine B_aload_n dX8_comeTo_38 rfl rfl ?_
    refine B_getR dX8_comeTo_39 fl_X8_11 ht rfl (rfX8_2 _ ht) ?_
    refine B_iconst dX8_comeTo_42 ic_2 ?_
    refine L_iald dX8_comeTo_43 (shX8_2 ht) (by decide) di_2 ?_
    refine B_iload_n dX8_comeTo_44 rfl rfl ?_
    refine B_iadd dX8_comeTo_45 ?_
    refine B_iconst dX8_comeTo_46 ic_0 ?_
    refine B_VI (st := []) dX8_comeTo_47 cl_X8_85 (t_X8_troubleThen t ht x1 ((h.1 (t + 1) 1) + v1) ((h.1 (t + 1) 2) + v1) 0 h) (Nat.le_of_ble_eq_true rfl) ht rfl rfl (Nat.le_of_ble_eq_true rfl) (fun v2 h3 _ => ?_)
    refine B_istore_n (ls' := [.ref t, .int x1, .int v1, .int v2]) dX8_comeTo_50 rfl (Nat.le_of_ble_eq_true rfl) rfl rfl ?_
    refine B_aload_n dX8_comeTo_51 rfl rfl ?_
    refine B_getR dX8_comeTo_52 fl_X8_11 ht rfl (rfX8_2 _ ht) ?_
    refine B_iconst dX8_comeTo_55 ic_0 ?_
    refine B_iload_n dX8_comeTo_56 rfl rfl ?_
    refine L_iast dX8_comeTo_57 (shX8_2 ht) (by decide) di_0 ?_
    refine B_lh (fun h4 => ?_)
    refine B_aload_n dX8_comeTo_58 rfl rfl ?_
    refine B_getR dX8_comeTo_59 fl_X8_11 ht rfl (rfX8_2 _ ht) ?_
    refine B_iconst dX8_comeTo_62 ic_1 ?_
    refine B_dup2 dX8_comeTo_63 rfl rfl ?_
    refine L_iald dX8_comeTo_64 (shX8_2 ht) (by decide) di_1 ?_
    refine B_iload_n dX8_comeTo_65 rfl rfl ?_
    refine B_iconst dX8_comeTo_66 ic_1 ?_
    refine B_iadd dX8_comeTo_67 ?_
    refine B_iadd dX8_comeTo_68 ?_
    refine L_iast dX8_comeTo_69 (shX8_2 ht) (by decide) di_1 ?_
    refine B_lh (fun h5 => ?_)
    refine B_aload_n dX8_comeTo_70 rfl rfl ?_
    refine B_getR dX8_comeTo_71 fl_X8_11 ht rfl (rfX8_2 _ ht) ?_
    refine B_iconst dX8_comeTo_74 ic_2 ?_
    refine B_dup2 dX8_comeTo_75 rfl rfl ?_
    refine L_iald dX8_comeTo_76 (shX8_2 ht) (by decide) di_2 ?_
    refine B_iload_n dX8_comeTo_77 rfl rfl ?_
    refine B_iadd dX8_comeTo_78 ?_
    refine L_iast dX8_comeTo_79 (shX8_2 ht) (by decide) di_2 ?_
    refine B_lh (fun h6 => ?_)
    refine B_aload_n dX8_comeTo_80 rfl rfl ?_
    refine B_getR dX8_comeTo_81 fl_X8_11 ht rfl (rfX8_2 _ ht) ?_
    refine B_bipush dX8_comeTo_84 bp_7 ?_
    refine B_iload_n dX8_comeTo_86 rfl rfl ?_
    refine B_iadd dX8_comeTo_87 ?_
    refine C_chk (fun q7 => ?_)
    refine L_iald dX8_comeTo_88 (shX8_2 ht) q7 rfl ?_
    refine C_if_ne (tgt := 128) dX8_comeTo_89 (by decide) (fun q12 => ?_) (fun q12 => ?_)
    · refine B_drop 2 (ls' := [.ref t, .int x1, .null, .int v2]) rfl ?_
      exact b_X8_comeTo_J128 ht x1 v2 h6
    · refine B_aload_n dX8_comeTo_92 rfl rfl ?_
      refine B_getR dX8_comeTo_93 fl_X8_11 ht rfl (rfX8_2 _ ht) ?_
      refine B_iconst dX8_comeTo_96 ic_3 ?_
      refine B_dup2 dX8_comeTo_97 rfl rfl ?_
      refine L_iald dX8_comeTo_98 (shX8_2 ht) (by decide) di_3 ?_
      refine B_aload_n dX8_comeTo_99 rfl rfl ?_
      refine B_getR dX8_comeTo_100 fl_X8_15 ht rfl (rfX8_0 _ ht) ?_
      refine B_iload_n dX8_comeTo_103 rfl rfl ?_
      refine B_iconst dX8_comeTo_104 ic_3 ?_
      refine B_Vp (st := [.int (h6.1 (t + 1) 3), .int 3, .ref (t + 1)]) dX8_comeTo_105 cl_X8_23 (t_X1_toldOf 3 shC_3 x1 3 h6) (Nat.le_of_ble_eq_true rfl) shC_3 rfl rfl (Nat.le_of_ble_eq_true rfl) (fun v8 _ => ?_)
      refine B_iadd dX8_comeTo_108 ?_
      refine L_iast dX8_comeTo_109 (shX8_2 ht) (by decide) di_3 ?_
      refine B_lh (fun h9 => ?_)
      refine B_aload_n dX8_comeTo_110 rfl rfl ?_
      refine B_getR dX8_comeTo_111 fl_X8_11 ht rfl (rfX8_2 _ ht) ?_
      refine B_iconst dX8_comeTo_114 ic_4 ?_
      refine B_dup2 dX8_comeTo_115 rfl rfl ?_
      refine L_iald dX8_comeTo_116 (shX8_2 ht) (by decide) di_4 ?_
      refine B_aload_n dX8_comeTo_117 rfl rfl ?_
      refine B_getR dX8_comeTo_118 fl_X8_15 ht rfl (rfX8_0 _ ht) ?_
      refine B_iload_n dX8_comeTo_121 rfl rfl ?_
      refine B_iconst dX8_comeTo_122 ic_3 ?_
      refine B_Vp (st := [.int (h9.1 (t + 1) 4), .int 4, .ref (t + 1)]) dX8_comeTo_123 cl_X8_23 (t_X1_toldOf 3 shC_3 x1 3 h9) (Nat.le_of_ble_eq_true rfl) shC_3 rfl rfl (Nat.le_of_ble_eq_true rfl) (fun v10 _ => ?_)
      refine B_iadd dX8_comeTo_126 ?_
      refine L_iast dX8_comeTo_127 (shX8_2 ht) (by decide) di_4 ?_
      refine B_lh (fun h11 => ?_)
      refine B_drop 2 (ls' := [.ref t, .int x1, .null, .int v2]) rfl ?_
      exact b_X8_comeTo_J128 ht x1 v2 h11
  · refine B_iconst dX8_comeTo_11 ic_m1 ?_
    exact B_ireturn dX8_comeTo_12 rfl rfl
def f_X8_carryOut (t : Nat) (x1 : Int32) (x2 : Int32) (h : dH) : Option (Int32 × dH) :=
  if x1 = 0 then
  (f_X8_comeTo t x2 h).bind fun rv2 =>
  some (rv2.1, rv2.2)
  else
  if x1 = 1 then
  (f_X8_readOnLedge t h).bind fun rv4 =>
  some (rv4.1, rv4.2)
  else
  if x1 = 2 then
  (f_X8_putBack t x2 h).bind fun rv6 =>
  some (rv6.1, rv6.2)
  else
  (f_X8_endDay t h).bind fun rv8 =>
  some (rv8.1, rv8.2)
set_option maxRecDepth 20000 in
set_option maxHeartbeats 4000000 in
theorem t_X8_carryOut (t : Nat) (ht : XC.1[t]? = some (.inl 8)) (x1 : Int32) (x2 : Int32) (h : dH) : T XC 4 yX8_carryOut cX8_carryOut 3 (some .int) fiI [.ref t, .int x1, .int x2] h (f_X8_carryOut t x1 x2 h) := by
  refine T_of [.ref t, .int x1, .int x2] (by decide) (fun _ => rfl) (fun _ => Nat.le_of_ble_eq_true rfl) ?_
  show B XC 4 RX8 cX8_carryOut 3 (some .int) fiI 0 [.ref t, .int x1, .int x2] [] h (f_X8_carryOut t x1 x2 h)
  unfold f_X8_carryOut
  refine B_iload_n dX8_carryOut_0 rfl rfl ?_
  refine C_ite (fun n1_0 => ?_) (fun n1_0 => ?_)
  · refine B_tswIn (off := 27) (tgt := 28) dX8_carryOut_1 (by rw [n1_0]; decide) (by rw [n1_0]; decide) (by rw [n1_0]; decide) (by decide) ?_
    refine B_aload_n dX8_carryOut_28 rfl rfl ?_
    refine B_iload_n dX8_carryOut_29 rfl rfl ?_
    refine B_VI (st := []) dX8_carryOut_30 cl_X8_100 (t_X8_comeTo t ht x2 h) (Nat.le_of_ble_eq_true rfl) ht rfl rfl (Nat.le_of_ble_eq_true rfl) (fun v2 h3 _ => ?_)
    exact B_ireturn dX8_carryOut_33 rfl rfl
  · refine C_ite (fun n1_1 => ?_) (fun n1_1 => ?_)
    · refine B_tswIn (off := 33) (tgt := 34) dX8_carryOut_1 (by rw [n1_1]; decide) (by rw [n1_1]; decide) (by rw [n1_1]; decide) (by decide) ?_
      refine B_aload_n dX8_carryOut_34 rfl rfl ?_
      refine B_VI (st := []) dX8_carryOut_35 cl_X8_103 (t_X8_readOnLedge t ht h) (Nat.le_of_ble_eq_true rfl) ht rfl rfl (Nat.le_of_ble_eq_true rfl) (fun v4 h5 _ => ?_)
      exact B_ireturn dX8_carryOut_38 rfl rfl
    · refine C_ite (fun n1_2 => ?_) (fun n1_2 => ?_)
      · refine B_tswIn (off := 38) (tgt := 39) dX8_carryOut_1 (by rw [n1_2]; decide) (by rw [n1_2]; decide) (by rw [n1_2]; decide) (by decide) ?_
        refine B_aload_n dX8_carryOut_39 rfl rfl ?_
        refine B_iload_n dX8_carryOut_40 rfl rfl ?_
        refine B_VI (st := []) dX8_carryOut_41 cl_X8_106 (t_X8_putBack t ht x2 h) (Nat.le_of_ble_eq_true rfl) ht rfl rfl (Nat.le_of_ble_eq_true rfl) (fun v6 h7 _ => ?_)
        exact B_ireturn dX8_carryOut_44 rfl rfl
      · refine B_tswOut (tgt := 45) dX8_carryOut_1 (dsw (fun c h1 h2 => ?_)) (by decide) ?_
        · rcases (show c = 0 ∨ c = 1 ∨ c = 2 by omega) with rfl | rfl | rfl
          · exact n1_0
          · exact n1_1
          · exact n1_2
        · refine B_aload_n dX8_carryOut_45 rfl rfl ?_
          refine B_VI (st := []) dX8_carryOut_46 cl_X8_109 (t_X8_endDay t ht h) (Nat.le_of_ble_eq_true rfl) ht rfl rfl (Nat.le_of_ble_eq_true rfl) (fun v8 h9 _ => ?_)
          exact B_ireturn dX8_carryOut_49 rfl rfl
def f_X9_bytesIn_J22 (kL5 : Int32 → Int32 → Int32 → Option (Int32)) (y0 : Int32) (y1 : Int32) (y2 : Int32) (h : dH) : Option (Int32) :=
  kL5 y0 y1 (y2 + (-8))
set_option maxRecDepth 20000 in
set_option maxHeartbeats 4000000 in
theorem b_X9_bytesIn_J22 {kL5 : Int32 → Int32 → Int32 → Option (Int32)} (h : dH) (hkL5 : ∀ (y0 : Int32) (y1 : Int32) (y2 : Int32), B XC 0 RX9 cX9_bytesIn 3 (some .int) (fiP h) 5 [.int y0, .int y1, .int y2] [] h (kL5 y0 y1 y2)) (y0 : Int32) (y1 : Int32) (y2 : Int32) : B XC 0 RX9 cX9_bytesIn 3 (some .int) (fiP h) 22 [.int y0, .int y1, .int y2] [] h (f_X9_bytesIn_J22 kL5 y0 y1 y2 h) := by
  unfold f_X9_bytesIn_J22
  refine B_iinc (w := (y2 + (-8))) (ls' := [.int y0, .int y1, .int (y2 + (-8))]) dX9_bytesIn_22 rfl (congrArg (fun z => y2 + z) ic_m8) (Nat.le_of_ble_eq_true rfl) rfl rfl ?_
  refine B_goto (tgt := 5) dX9_bytesIn_25 (by decide) ?_
  exact hkL5 y0 y1 (y2 + (-8))  
def f_X9_bytesIn_L5 (h : dH) : Nat → Int32 → Int32 → Int32 → Option (Int32)
  | 0, _, _, _ => none
  | n + 1, y0, y1, y2 =>
    if y2 < 0 then
    some y1
    else
    if (((y0).toUInt32 >>> ((y2 : Int32).toUInt32 &&& Int32.toUInt32 31)).toInt32 &&& 255) = 0 then
    f_X9_bytesIn_J22 (f_X9_bytesIn_L5 h n) y0 y1 y2 h
    else
    f_X9_bytesIn_J22 (f_X9_bytesIn_L5 h n) y0 (y1 + 1) y2 h
set_option maxRecDepth 20000 in
set_option maxHeartbeats 4000000 in
theorem b_X9_bytesIn_L5 (h : dH) : ∀ (n : Nat) (y0 : Int32) (y1 : Int32) (y2 : Int32), B XC 0 RX9 cX9_bytesIn 3 (some .int) (fiP h) 5 [.int y0, .int y1, .int y2] [] h (f_X9_bytesIn_L5 h n y0 y1 y2) := by
  intro n
  induction n with
  | zero =>
    intro y0 y1 y2
    exact B_none
  | succ n ih =>
    intro y0 y1 y2
    rw [f_X9_bytesIn_L5]
    refine B_iload_n dX9_bytesIn_5 rfl rfl ?_
    refine C_if_lt (tgt := 28) dX9_bytesIn_6 (by decide) (fun q2 => ?_) (fun q2 => ?_)
    · refine B_iload_n dX9_bytesIn_28 rfl rfl ?_
      exact B_ireturn dX9_bytesIn_29 rfl rfl
    · refine B_iload_n dX9_bytesIn_9 rfl rfl ?_
      refine B_iload_n dX9_bytesIn_10 rfl rfl ?_
      refine B_iushr dX9_bytesIn_11 ?_
      refine B_sipush dX9_bytesIn_12 sp_255 ?_
      refine B_iand dX9_bytesIn_15 ?_
      refine C_if_eq (tgt := 22) dX9_bytesIn_16 (by decide) (fun q1 => ?_) (fun q1 => ?_)
      · exact b_X9_bytesIn_J22 h (fun qy0 qy1 qy2 => ih qy0 qy1 qy2) y0 y1 y2
      · refine B_iinc (w := (y1 + 1)) (ls' := [.int y0, .int (y1 + 1), .int y2]) dX9_bytesIn_19 rfl (congrArg (fun z => y1 + z) ic_1) (Nat.le_of_ble_eq_true rfl) rfl rfl ?_
        exact b_X9_bytesIn_J22 h (fun qy0 qy1 qy2 => ih qy0 qy1 qy2) y0 (y1 + 1) y2
def f_X9_bytesIn (x0 : Int32) (h : dH) : Option (Int32) :=
  f_X9_bytesIn_L5 h dFu x0 0 24
set_option maxRecDepth 20000 in
set_option maxHeartbeats 4000000 in
theorem t_X9_bytesIn (x0 : Int32) (h : dH) : T XC 0 yX9_bytesIn cX9_bytesIn 3 (some .int) (fiP h) [.int x0] h (f_X9_bytesIn x0 h) := by
  refine T_of [.int x0, .null, .null] (by decide) (fun _ => rfl) (fun _ => Nat.le_of_ble_eq_true rfl) ?_
  show B XC 0 RX9 cX9_bytesIn 3 (some .int) (fiP h) 0 [.int x0, .null, .null] [] h (f_X9_bytesIn x0 h)
  unfold f_X9_bytesIn
  refine B_iconst dX9_bytesIn_0 ic_0 ?_
  refine B_istore_n (ls' := [.int x0, .int 0, .null]) dX9_bytesIn_1 rfl (Nat.le_of_ble_eq_true rfl) rfl rfl ?_
  refine B_bipush dX9_bytesIn_2 bp_24 ?_
  refine B_istore_n (ls' := [.int x0, .int 0, .int 24]) dX9_bytesIn_4 rfl (Nat.le_of_ble_eq_true rfl) rfl rfl ?_
  exact b_X9_bytesIn_L5 h dFu x0 0 24
def f_X9_addBytesOf_J49 (kL3 : Int32 → Int32 → dH → Option (dH)) (y1 : Int32) (y2 : Int32) (h : dH) : Option (dH) :=
  kL3 y1 (y2 + (-8)) h
set_option maxRecDepth 20000 in
set_option maxHeartbeats 4000000 in
theorem b_X9_addBytesOf_J49 {kL3 : Int32 → Int32 → dH → Option (dH)} (hkL3 : ∀ (y1 : Int32) (y2 : Int32) (h : dH), B XC 0 RX9 cX9_addBytesOf 4 none fiV 3 [.ref 1, .int y1, .int y2, .null] [] h (kL3 y1 y2 h)) (y1 : Int32) (y2 : Int32) (h : dH) : B XC 0 RX9 cX9_addBytesOf 4 none fiV 49 [.ref 1, .int y1, .int y2, .null] [] h (f_X9_addBytesOf_J49 kL3 y1 y2 h) := by
  unfold f_X9_addBytesOf_J49
  refine B_iinc (w := (y2 + (-8))) (ls' := [.ref 1, .int y1, .int (y2 + (-8)), .null]) dX9_addBytesOf_49 rfl (congrArg (fun z => y2 + z) ic_m8) (Nat.le_of_ble_eq_true rfl) rfl rfl ?_
  refine B_goto (tgt := 3) dX9_addBytesOf_52 (by decide) ?_
  exact hkL3 y1 (y2 + (-8))  h
def f_X9_addBytesOf_L3 : Nat → Int32 → Int32 → dH → Option (dH)
  | 0, _, _, _ => none
  | n + 1, y1, y2, h =>
    if y2 < 0 then
    some h
    else
    (some ((((y1).toUInt32 >>> ((y2 : Int32).toUInt32 &&& Int32.toUInt32 31)).toInt32 &&& 255))).bind fun v1 =>
    if v1 = 0 then
    f_X9_addBytesOf_J49 (f_X9_addBytesOf_L3 n) y1 y2 h
    else
    if (h.1 1 1) < 240 then
    if dIn (h.1 1 1) 240 then
    (some (dPut h 2 (dI (h.1 1 1)) v1)).bind fun h3 =>
    (some (dPut h3 1 1 ((h3.1 1 1) + 1))).bind fun h4 =>
    f_X9_addBytesOf_J49 (f_X9_addBytesOf_L3 n) y1 y2 h4
    else none
    else
    f_X9_addBytesOf_J49 (f_X9_addBytesOf_L3 n) y1 y2 h
set_option maxRecDepth 20000 in
set_option maxHeartbeats 4000000 in
theorem b_X9_addBytesOf_L3 : ∀ (n : Nat) (y1 : Int32) (y2 : Int32) (h : dH), B XC 0 RX9 cX9_addBytesOf 4 none fiV 3 [.ref 1, .int y1, .int y2, .null] [] h (f_X9_addBytesOf_L3 n y1 y2 h) := by
  intro n
  induction n with
  | zero =>
    intro y1 y2 h
    exact B_none
  | succ n ih =>
    intro y1 y2 h
    rw [f_X9_addBytesOf_L3]
    refine B_iload_n dX9_addBytesOf_3 rfl rfl ?_
    refine C_if_lt (tgt := 55) dX9_addBytesOf_4 (by decide) (fun q7 => ?_) (fun q7 => ?_)
    · exact B_return dX9_addBytesOf_55 rfl rfl
    · refine B_iload_n dX9_addBytesOf_7 rfl rfl ?_
      refine B_iload_n dX9_addBytesOf_8 rfl rfl ?_
      refine B_iushr dX9_addBytesOf_9 ?_
      refine B_sipush dX9_addBytesOf_10 sp_255 ?_
      refine B_iand dX9_addBytesOf_13 ?_
      refine B_lv (fun v1 => ?_)
      refine B_istore_n (ls' := [.ref 1, .int y1, .int y2, .int v1]) dX9_addBytesOf_14 rfl (Nat.le_of_ble_eq_true rfl) rfl rfl ?_
      refine B_iload_n dX9_addBytesOf_15 rfl rfl ?_
      refine C_if_eq (tgt := 49) dX9_addBytesOf_16 (by decide) (fun q6 => ?_) (fun q6 => ?_)
      · refine B_drop 3 (ls' := [.ref 1, .int y1, .int y2, .null]) rfl ?_
        exact b_X9_addBytesOf_J49 (fun qy1 qy2 qh => ih qy1 qy2 qh) y1 y2 h
      · refine B_aload_n dX9_addBytesOf_19 rfl rfl ?_
        refine B_getI dX9_addBytesOf_20 fl_X9_15 shC_1 rfl ?_
        refine B_sipush dX9_addBytesOf_23 sp_240 ?_
        refine C_icmp_ge (tgt := 49) dX9_addBytesOf_26 (by decide) (fun q5 => ?_) (fun q5 => ?_)
        · refine B_drop 3 (ls' := [.ref 1, .int y1, .int y2, .null]) rfl ?_
          exact b_X9_addBytesOf_J49 (fun qy1 qy2 qh => ih qy1 qy2 qh) y1 y2 h
        · refine B_aload_n dX9_addBytesOf_29 rfl rfl ?_
          refine B_getR dX9_addBytesOf_30 fl_X9_9 shC_1 rfl (rfC_1_0 _) ?_
          refine B_aload_n dX9_addBytesOf_33 rfl rfl ?_
          refine B_getI dX9_addBytesOf_34 fl_X9_15 shC_1 rfl ?_
          refine B_iload_n dX9_addBytesOf_37 rfl rfl ?_
          refine C_chk (fun q2 => ?_)
          refine L_iast dX9_addBytesOf_38 shC_2 q2 rfl ?_
          refine B_lh (fun h3 => ?_)
          refine B_aload_n dX9_addBytesOf_39 rfl rfl ?_
          refine B_dup dX9_addBytesOf_40 rfl ?_
          refine B_getI dX9_addBytesOf_41 fl_X9_15 shC_1 rfl ?_
          refine B_iconst dX9_addBytesOf_44 ic_1 ?_
          refine B_iadd dX9_addBytesOf_45 ?_
          refine B_putI dX9_addBytesOf_46 fl_X9_15 fw_X9_1 shC_1 rfl ?_
          refine B_lh (fun h4 => ?_)
          refine B_drop 3 (ls' := [.ref 1, .int y1, .int y2, .null]) rfl ?_
          exact b_X9_addBytesOf_J49 (fun qy1 qy2 qh => ih qy1 qy2 qh) y1 y2 h4
def f_X9_addBytesOf (x1 : Int32) (h : dH) : Option (dH) :=
  f_X9_addBytesOf_L3 dFu x1 24 h
set_option maxRecDepth 20000 in
set_option maxHeartbeats 4000000 in
theorem t_X9_addBytesOf (x1 : Int32) (h : dH) : T XC 0 yX9_addBytesOf cX9_addBytesOf 4 none fiV [.ref 1, .int x1] h (f_X9_addBytesOf x1 h) := by
  refine T_of [.ref 1, .int x1, .null, .null] (by decide) (fun _ => rfl) (fun _ => Nat.le_of_ble_eq_true rfl) ?_
  show B XC 0 RX9 cX9_addBytesOf 4 none fiV 0 [.ref 1, .int x1, .null, .null] [] h (f_X9_addBytesOf x1 h)
  unfold f_X9_addBytesOf
  refine B_bipush dX9_addBytesOf_0 bp_24 ?_
  refine B_istore_n (ls' := [.ref 1, .int x1, .int 24, .null]) dX9_addBytesOf_2 rfl (Nat.le_of_ble_eq_true rfl) rfl rfl ?_
  exact b_X9_addBytesOf_L3 dFu x1 24 h
def f_X10_forget (h : dH) : Option (dH) :=
  some (dPut h 77 0 0)
set_option maxRecDepth 20000 in
set_option maxHeartbeats 4000000 in
theorem t_X10_forget (h : dH) : T XC 0 yX10_forget cX10_forget 1 none fiV [.ref 77] h (f_X10_forget h) := by
  refine T_of [.ref 77] (by decide) (fun _ => rfl) (fun _ => Nat.le_of_ble_eq_true rfl) ?_
  show B XC 0 RX10 cX10_forget 1 none fiV 0 [.ref 77] [] h (f_X10_forget h)
  unfold f_X10_forget
  refine B_aload_n dX10_forget_0 rfl rfl ?_
  refine B_iconst dX10_forget_1 ic_0 ?_
  refine B_putI dX10_forget_2 fl_X10_32 fw_X10_0 shC_77 rfl ?_
  exact B_return dX10_forget_5 rfl rfl
def f_X10_put (x1 : Int32) (x2 : Int32) (x3 : Bool) (h : dH) : Option (Int32 × dH) :=
  if (h.1 77 0) < 10 then
  if dIn (h.1 77 0) 10 then
  (some (dPut h 78 (dI (h.1 77 0)) x1)).bind fun h2 =>
  if dIn (h2.1 77 0) 10 then
  (some (dPut h2 79 (dI (h2.1 77 0)) x2)).bind fun h4 =>
  if dIn (h4.1 77 0) 10 then
  (some (dPut h4 80 (dI (h4.1 77 0)) (vp_nar .boolean (bi x3)))).bind fun h6 =>
  some (((dPut h6 77 0 ((h6.1 77 0) + 1)).1 77 0), (dPut h6 77 0 ((h6.1 77 0) + 1)))
  else none
  else none
  else none
  else
  some ((-1), h)
set_option maxRecDepth 20000 in
set_option maxHeartbeats 4000000 in
theorem t_X10_put (x1 : Int32) (x2 : Int32) (x3 : Bool) (h : dH) : T XC 0 yX10_put cX10_put 4 (some .int) fiI [.ref 77, .int x1, .int x2, .int (bi x3)] h (f_X10_put x1 x2 x3 h) := by
  refine T_of [.ref 77, .int x1, .int x2, .int (bi x3)] (by decide) (fun _ => rfl) (fun _ => Nat.le_of_ble_eq_true rfl) ?_
  show B XC 0 RX10 cX10_put 4 (some .int) fiI 0 [.ref 77, .int x1, .int x2, .int (bi x3)] [] h (f_X10_put x1 x2 x3 h)
  unfold f_X10_put
  refine B_aload_n dX10_put_0 rfl rfl ?_
  refine B_getI dX10_put_1 fl_X10_32 shC_77 rfl ?_
  refine B_bipush dX10_put_4 bp_10 ?_
  refine C_icmp_lt (tgt := 11) dX10_put_6 (by decide) (fun q7 => ?_) (fun q7 => ?_)
  · refine B_aload_n dX10_put_11 rfl rfl ?_
    refine B_getR dX10_put_12 fl_X10_11 shC_77 rfl (rfC_77_5 _) ?_
    refine B_aload_n dX10_put_15 rfl rfl ?_
    refine B_getI dX10_put_16 fl_X10_32 shC_77 rfl ?_
    refine B_iload_n dX10_put_19 rfl rfl ?_
    refine C_chk (fun q1 => ?_)
    refine L_iast dX10_put_20 shC_78 q1 rfl ?_
    refine B_lh (fun h2 => ?_)
    refine B_aload_n dX10_put_21 rfl rfl ?_
    refine B_getR dX10_put_22 fl_X10_15 shC_77 rfl (rfC_77_6 _) ?_
    refine B_aload_n dX10_put_25 rfl rfl ?_
    refine B_getI dX10_put_26 fl_X10_32 shC_77 rfl ?_
    refine B_iload_n dX10_put_29 rfl rfl ?_
    refine C_chk (fun q3 => ?_)
    refine L_iast dX10_put_30 shC_79 q3 rfl ?_
    refine B_lh (fun h4 => ?_)
    refine B_aload_n dX10_put_31 rfl rfl ?_
    refine B_getR dX10_put_32 fl_X10_18 shC_77 rfl (rfC_77_7 _) ?_
    refine B_aload_n dX10_put_35 rfl rfl ?_
    refine B_getI dX10_put_36 fl_X10_32 shC_77 rfl ?_
    refine B_iload_n dX10_put_39 rfl rfl ?_
    refine C_chk (fun q5 => ?_)
    refine L_zast dX10_put_40 shC_80 q5 rfl ?_
    refine B_lh (fun h6 => ?_)
    refine B_aload_n dX10_put_41 rfl rfl ?_
    refine B_dup dX10_put_42 rfl ?_
    refine B_getI dX10_put_43 fl_X10_32 shC_77 rfl ?_
    refine B_iconst dX10_put_46 ic_1 ?_
    refine B_iadd dX10_put_47 ?_
    refine B_putI dX10_put_48 fl_X10_32 fw_X10_0 shC_77 rfl ?_
    refine B_aload_n dX10_put_51 rfl rfl ?_
    refine B_getI dX10_put_52 fl_X10_32 shC_77 rfl ?_
    exact B_ireturn dX10_put_55 rfl rfl
  · refine B_iconst dX10_put_9 ic_m1 ?_
    exact B_ireturn dX10_put_10 rfl rfl
def f_X10_hasBeen (x1 : Int32) (x2 : Int32) (h : dH) : Option (Bool) :=
  if (f_X1_isPlace 3 x1 h) then
  if dIn x1 7 then
  if x2 < (h.1 81 (dI x1)) then
  some false
  else
  some true
  else none
  else
  some false
set_option maxRecDepth 20000 in
set_option maxHeartbeats 4000000 in
theorem t_X10_hasBeen (x1 : Int32) (x2 : Int32) (h : dH) : T XC 1 yX10_hasBeen cX10_hasBeen 3 (some .boolean) (fiB h) [.ref 77, .int x1, .int x2] h (f_X10_hasBeen x1 x2 h) := by
  refine T_of [.ref 77, .int x1, .int x2] (by decide) (fun _ => rfl) (fun _ => Nat.le_of_ble_eq_true rfl) ?_
  show B XC 1 RX10 cX10_hasBeen 3 (some .boolean) (fiB h) 0 [.ref 77, .int x1, .int x2] [] h (f_X10_hasBeen x1 x2 h)
  unfold f_X10_hasBeen
  refine B_aload_n dX10_hasBeen_0 rfl rfl ?_
  refine B_getR dX10_hasBeen_1 fl_X10_28 shC_77 rfl (rfC_77_4 _) ?_
  refine B_iload_n dX10_hasBeen_4 rfl rfl ?_
  refine B_VTb (st := []) dX10_hasBeen_5 cl_X10_79 (t_X1_isPlace 3 shC_3 x1 h) (Nat.le_of_ble_eq_true rfl) shC_3 rfl rfl (Nat.le_of_ble_eq_true rfl) ?_
  refine C_ifb_eq (tgt := 25) dX10_hasBeen_8 (by decide) (fun q3 => ?_) (fun q3 => ?_)
  · refine B_iconst dX10_hasBeen_25 ic_0 ?_
    exact B_zreturn dX10_hasBeen_26 rfl rfl rfl
  · refine B_aload_n dX10_hasBeen_11 rfl rfl ?_
    refine B_getR dX10_hasBeen_12 fl_X10_22 shC_77 rfl (rfC_77_8 _) ?_
    refine B_iload_n dX10_hasBeen_15 rfl rfl ?_
    refine C_chk (fun q1 => ?_)
    refine L_iald dX10_hasBeen_16 shC_81 q1 rfl ?_
    refine B_iload_n dX10_hasBeen_17 rfl rfl ?_
    refine C_icmp_gt (tgt := 25) dX10_hasBeen_18 (by decide) (fun q2 => ?_) (fun q2 => ?_)
    · refine B_iconst dX10_hasBeen_25 ic_0 ?_
      exact B_zreturn dX10_hasBeen_26 rfl rfl rfl
    · refine B_iconst dX10_hasBeen_21 ic_1 ?_
      refine B_goto (tgt := 26) dX10_hasBeen_22 (by decide) ?_
      exact B_zreturn dX10_hasBeen_26 rfl rfl rfl
def f_X10_tally_J71 (kL38 : Int32 → dH → Option (dH)) (y3 : Int32) (h : dH) : Option (dH) :=
  kL38 (y3 + 1) h
set_option maxRecDepth 20000 in
set_option maxHeartbeats 4000000 in
theorem b_X10_tally_J71 {kL38 : Int32 → dH → Option (dH)} (hkL38 : ∀ (y3 : Int32) (h : dH), B XC 2 RX10 cX10_tally 4 none fiV 38 [.ref 77, .null, .null, .int y3] [] h (kL38 y3 h)) (y3 : Int32) (h : dH) : B XC 2 RX10 cX10_tally 4 none fiV 71 [.ref 77, .null, .null, .int y3] [] h (f_X10_tally_J71 kL38 y3 h) := by
  unfold f_X10_tally_J71
  refine B_iinc (w := (y3 + 1)) (ls' := [.ref 77, .null, .null, .int (y3 + 1)]) dX10_tally_71 rfl (congrArg (fun z => y3 + z) ic_1) (Nat.le_of_ble_eq_true rfl) rfl rfl ?_
  refine B_goto (tgt := 38) dX10_tally_74 (by decide) ?_
  exact hkL38 (y3 + 1)  h
def f_X10_tally_L38 : Nat → Int32 → dH → Option (dH)
  | 0, _, _ => none
  | n + 1, y3, h =>
    if y3 < (h.1 3 2) then
    (f_X10_hasBeen y3 (h.1 77 11) h).bind fun v5 =>
    if v5 then
    if dIn y3 7 then
    if dIn y3 7 then
    (some (dPut h 82 (dI y3) ((h.1 82 (dI y3)) + 1))).bind fun h8 =>
    f_X10_tally_J71 (f_X10_tally_L38 n) y3 h8
    else none
    else none
    else
    f_X10_tally_J71 (f_X10_tally_L38 n) y3 h
    else
    some h
set_option maxRecDepth 20000 in
set_option maxHeartbeats 4000000 in
theorem b_X10_tally_L38 : ∀ (n : Nat) (y3 : Int32) (h : dH), B XC 2 RX10 cX10_tally 4 none fiV 38 [.ref 77, .null, .null, .int y3] [] h (f_X10_tally_L38 n y3 h) := by
  intro n
  induction n with
  | zero =>
    intro y3 h
    exact B_none
  | succ n ih =>
    intro y3 h
    rw [f_X10_tally_L38]
    refine B_iload_n dX10_tally_38 rfl rfl ?_
    refine B_aload_n dX10_tally_39 rfl rfl ?_
    refine B_getR dX10_tally_40 fl_X10_28 shC_77 rfl (rfC_77_4 _) ?_
    refine B_getI dX10_tally_43 fl_X10_48 shC_3 rfl ?_
    refine C_icmp_ge (tgt := 77) dX10_tally_46 (by decide) (fun q10 => ?_) (fun q10 => ?_)
    · exact B_return dX10_tally_77 rfl rfl
    · refine B_aload_n dX10_tally_49 rfl rfl ?_
      refine B_iload_n dX10_tally_50 rfl rfl ?_
      refine B_aload_n dX10_tally_51 rfl rfl ?_
      refine B_getI dX10_tally_52 fl_X10_39 shC_77 rfl ?_
      refine B_Vpb (st := []) dX10_tally_55 cl_X10_76 (t_X10_hasBeen y3 (h.1 77 11) h) (Nat.le_of_ble_eq_true rfl) shC_77 rfl rfl (Nat.le_of_ble_eq_true rfl) (fun v5 _ => ?_)
      refine C_ifb_eq (tgt := 71) dX10_tally_58 (by decide) (fun q9 => ?_) (fun q9 => ?_)
      · exact b_X10_tally_J71 (fun qy3 qh => ih qy3 qh) y3 h
      · refine B_aload_n dX10_tally_61 rfl rfl ?_
        refine B_getR dX10_tally_62 fl_X10_25 shC_77 rfl (rfC_77_9 _) ?_
        refine B_iload_n dX10_tally_65 rfl rfl ?_
        refine B_dup2 dX10_tally_66 rfl rfl ?_
        refine C_chk (fun q6 => ?_)
        refine L_iald dX10_tally_67 shC_82 q6 rfl ?_
        refine B_iconst dX10_tally_68 ic_1 ?_
        refine B_iadd dX10_tally_69 ?_
        refine C_chk (fun q7 => ?_)
        refine L_iast dX10_tally_70 shC_82 q7 rfl ?_
        refine B_lh (fun h8 => ?_)
        exact b_X10_tally_J71 (fun qy3 qh => ih qy3 qh) y3 h8
def f_X10_tally_J16 (y1 : Int32) (h : dH) : Option (dH) :=
  (some (dPut h 77 1 ((h.1 77 1) + 1))).bind fun h3 =>
  (some (dPut h3 77 3 ((h3.1 77 3) &&& y1))).bind fun h4 =>
  f_X10_tally_L38 dFu 0 h4
set_option maxRecDepth 20000 in
set_option maxHeartbeats 4000000 in
theorem b_X10_tally_J16 (y1 : Int32) (h : dH) : B XC 2 RX10 cX10_tally 4 none fiV 16 [.ref 77, .int y1, .null, .null] [] h (f_X10_tally_J16 y1 h) := by
  unfold f_X10_tally_J16
  refine B_aload_n dX10_tally_16 rfl rfl ?_
  refine B_dup dX10_tally_17 rfl ?_
  refine B_getI dX10_tally_18 fl_X10_42 shC_77 rfl ?_
  refine B_iconst dX10_tally_21 ic_1 ?_
  refine B_iadd dX10_tally_22 ?_
  refine B_putI dX10_tally_23 fl_X10_42 fw_X10_1 shC_77 rfl ?_
  refine B_lh (fun h3 => ?_)
  refine B_aload_n dX10_tally_26 rfl rfl ?_
  refine B_dup dX10_tally_27 rfl ?_
  refine B_getI dX10_tally_28 fl_X10_53 shC_77 rfl ?_
  refine B_iload_n dX10_tally_31 rfl rfl ?_
  refine B_iand dX10_tally_32 ?_
  refine B_putI dX10_tally_33 fl_X10_53 fw_X10_3 shC_77 rfl ?_
  refine B_lh (fun h4 => ?_)
  refine B_iconst dX10_tally_36 ic_0 ?_
  refine B_istore_n (ls' := [.ref 77, .int y1, .null, .int 0]) dX10_tally_37 rfl (Nat.le_of_ble_eq_true rfl) rfl rfl ?_
  refine B_drop 1 (ls' := [.ref 77, .null, .null, .int 0]) rfl ?_
  exact b_X10_tally_L38 dFu 0 h4
def f_X10_tally (x1 : Int32) (x2 : Int32) (h : dH) : Option (dH) :=
  if (h.1 77 1) = (h.1 77 10) then
  (some (dPut h 77 2 x2)).bind fun h1 =>
  f_X10_tally_J16 x1 h1
  else
  f_X10_tally_J16 x1 h
set_option maxRecDepth 20000 in
set_option maxHeartbeats 4000000 in
theorem t_X10_tally (x1 : Int32) (x2 : Int32) (h : dH) : T XC 2 yX10_tally cX10_tally 4 none fiV [.ref 77, .int x1, .int x2] h (f_X10_tally x1 x2 h) := by
  refine T_of [.ref 77, .int x1, .int x2, .null] (by decide) (fun _ => rfl) (fun _ => Nat.le_of_ble_eq_true rfl) ?_
  show B XC 2 RX10 cX10_tally 4 none fiV 0 [.ref 77, .int x1, .int x2, .null] [] h (f_X10_tally x1 x2 h)
  unfold f_X10_tally
  refine B_aload_n dX10_tally_0 rfl rfl ?_
  refine B_getI dX10_tally_1 fl_X10_42 shC_77 rfl ?_
  refine B_aload_n dX10_tally_4 rfl rfl ?_
  refine B_getI dX10_tally_5 fl_X10_36 shC_77 rfl ?_
  refine C_icmp_ne (tgt := 16) dX10_tally_8 (by decide) (fun q2 => ?_) (fun q2 => ?_)
  · refine B_drop 2 (ls' := [.ref 77, .int x1, .null, .null]) rfl ?_
    exact b_X10_tally_J16 x1 h
  · refine B_aload_n dX10_tally_11 rfl rfl ?_
    refine B_iload_n dX10_tally_12 rfl rfl ?_
    refine B_putI dX10_tally_13 fl_X10_45 fw_X10_2 shC_77 rfl ?_
    refine B_lh (fun h1 => ?_)
    refine B_drop 2 (ls' := [.ref 77, .int x1, .null, .null]) rfl ?_
    exact b_X10_tally_J16 x1 h1
def f_X10_fits_L2 (h : dH) : Nat → Int32 → Option (Bool)
  | 0, _ => none
  | n + 1, y1 =>
    if y1 < (h.1 77 0) then
    if dIn y1 10 then
    if dIn y1 10 then
    (f_X10_hasBeen (h.1 78 (dI y1)) (h.1 79 (dI y1)) h).bind fun v3 =>
    if dIn y1 10 then
    if (bi v3) = (h.1 80 (dI y1)) then
    (f_X10_fits_L2 h n) (y1 + 1)
    else
    some false
    else none
    else none
    else none
    else
    some true
set_option maxRecDepth 20000 in
set_option maxHeartbeats 4000000 in
theorem b_X10_fits_L2 (h : dH) : ∀ (n : Nat) (y1 : Int32), B XC 2 RX10 cX10_fits 2 (some .boolean) (fiB h) 2 [.ref 77, .int y1] [] h (f_X10_fits_L2 h n y1) := by
  intro n
  induction n with
  | zero =>
    intro y1
    exact B_none
  | succ n ih =>
    intro y1
    rw [f_X10_fits_L2]
    refine B_iload_n dX10_fits_2 rfl rfl ?_
    refine B_aload_n dX10_fits_3 rfl rfl ?_
    refine B_getI dX10_fits_4 fl_X10_32 shC_77 rfl ?_
    refine C_icmp_ge (tgt := 43) dX10_fits_7 (by decide) (fun q6 => ?_) (fun q6 => ?_)
    · refine B_iconst dX10_fits_43 ic_1 ?_
      exact B_zreturn dX10_fits_44 rfl rfl rfl
    · refine B_aload_n dX10_fits_10 rfl rfl ?_
      refine B_aload_n dX10_fits_11 rfl rfl ?_
      refine B_getR dX10_fits_12 fl_X10_11 shC_77 rfl (rfC_77_5 _) ?_
      refine B_iload_n dX10_fits_15 rfl rfl ?_
      refine C_chk (fun q1 => ?_)
      refine L_iald dX10_fits_16 shC_78 q1 rfl ?_
      refine B_aload_n dX10_fits_17 rfl rfl ?_
      refine B_getR dX10_fits_18 fl_X10_15 shC_77 rfl (rfC_77_6 _) ?_
      refine B_iload_n dX10_fits_21 rfl rfl ?_
      refine C_chk (fun q2 => ?_)
      refine L_iald dX10_fits_22 shC_79 q2 rfl ?_
      refine B_Vpb (st := []) dX10_fits_23 cl_X10_76 (t_X10_hasBeen (h.1 78 (dI y1)) (h.1 79 (dI y1)) h) (Nat.le_of_ble_eq_true rfl) shC_77 rfl rfl (Nat.le_of_ble_eq_true rfl) (fun v3 _ => ?_)
      refine B_aload_n dX10_fits_26 rfl rfl ?_
      refine B_getR dX10_fits_27 fl_X10_18 shC_77 rfl (rfC_77_7 _) ?_
      refine B_iload_n dX10_fits_30 rfl rfl ?_
      refine C_chk (fun q4 => ?_)
      refine L_zald dX10_fits_31 shC_80 q4 rfl ?_
      refine C_icmp_eq (tgt := 37) dX10_fits_32 (by decide) (fun q5 => ?_) (fun q5 => ?_)
      · refine B_iinc (w := (y1 + 1)) (ls' := [.ref 77, .int (y1 + 1)]) dX10_fits_37 rfl (congrArg (fun z => y1 + z) ic_1) (Nat.le_of_ble_eq_true rfl) rfl rfl ?_
        refine B_goto (tgt := 2) dX10_fits_40 (by decide) ?_
        exact ih (y1 + 1)  
      · refine B_iconst dX10_fits_35 ic_0 ?_
        exact B_zreturn dX10_fits_36 rfl rfl rfl
def f_X10_fits (h : dH) : Option (Bool) :=
  f_X10_fits_L2 h dFu 0
set_option maxRecDepth 20000 in
set_option maxHeartbeats 4000000 in
theorem t_X10_fits (h : dH) : T XC 2 yX10_fits cX10_fits 2 (some .boolean) (fiB h) [.ref 77] h (f_X10_fits h) := by
  refine T_of [.ref 77, .null] (by decide) (fun _ => rfl) (fun _ => Nat.le_of_ble_eq_true rfl) ?_
  show B XC 2 RX10 cX10_fits 2 (some .boolean) (fiB h) 0 [.ref 77, .null] [] h (f_X10_fits h)
  unfold f_X10_fits
  refine B_iconst dX10_fits_0 ic_0 ?_
  refine B_istore_n (ls' := [.ref 77, .int 0]) dX10_fits_1 rfl (Nat.le_of_ble_eq_true rfl) rfl rfl ?_
  exact b_X10_fits_L2 h dFu 0
def f_X10_goOn_J106 (rc_X10_goOn : Int32 → Int32 → Int32 → Int32 → Int32 → dH → Option (dH)) (kL23 : Int32 → Int32 → Int32 → Int32 → Int32 → Int32 → dH → Option (dH)) (y1 : Int32) (y2 : Int32) (y3 : Int32) (y4 : Int32) (y5 : Int32) (y6 : Int32) (h : dH) : Option (dH) :=
  kL23 y1 y2 y3 y4 y5 (y6 + 1) h
set_option maxRecDepth 20000 in
set_option maxHeartbeats 4000000 in
theorem b_X10_goOn_J106 {Dr : Nat} {rc_X10_goOn : Int32 → Int32 → Int32 → Int32 → Int32 → dH → Option (dH)} {kL23 : Int32 → Int32 → Int32 → Int32 → Int32 → Int32 → dH → Option (dH)} (hDr : 3 ≤ Dr) (hrc_X10_goOn : ∀ (x1 : Int32) (x2 : Int32) (x3 : Int32) (x4 : Int32) (x5 : Int32) (h : dH), T XC Dr yX10_goOn cX10_goOn 8 none fiV [.ref 77, .int x1, .int x2, .int x3, .int x4, .int x5] h (rc_X10_goOn x1 x2 x3 x4 x5 h)) (hkL23 : ∀ (y1 : Int32) (y2 : Int32) (y3 : Int32) (y4 : Int32) (y5 : Int32) (y6 : Int32) (h : dH), B XC (Dr + 1) RX10 cX10_goOn 8 none fiV 23 [.ref 77, .int y1, .int y2, .int y3, .int y4, .int y5, .int y6, .null] [] h (kL23 y1 y2 y3 y4 y5 y6 h)) (y1 : Int32) (y2 : Int32) (y3 : Int32) (y4 : Int32) (y5 : Int32) (y6 : Int32) (h : dH) : B XC (Dr + 1) RX10 cX10_goOn 8 none fiV 106 [.ref 77, .int y1, .int y2, .int y3, .int y4, .int y5, .int y6, .null] [] h (f_X10_goOn_J106 rc_X10_goOn kL23 y1 y2 y3 y4 y5 y6 h) := by
  unfold f_X10_goOn_J106
  refine B_iinc (w := (y6 + 1)) (ls' := [.ref 77, .int y1, .int y2, .int y3, .int y4, .int y5, .int (y6 + 1), .null]) dX10_goOn_106 rfl (congrArg (fun z => y6 + z) ic_1) (Nat.le_of_ble_eq_true rfl) rfl rfl ?_
  refine B_goto (tgt := 23) dX10_goOn_109 (by decide) ?_
  exact hkL23 y1 y2 y3 y4 y5 (y6 + 1)  h
def f_X10_goOn_L23 (rc_X10_goOn : Int32 → Int32 → Int32 → Int32 → Int32 → dH → Option (dH)) : Nat → Int32 → Int32 → Int32 → Int32 → Int32 → Int32 → dH → Option (dH)
  | 0, _, _, _, _, _, _, _ => none
  | n + 1, y1, y2, y3, y4, y5, y6, h =>
    if y6 < (h.1 3 2) then
    if (f_X11_isIn y4 y6 h) then
    f_X10_goOn_J106 rc_X10_goOn (f_X10_goOn_L23 rc_X10_goOn n) y1 y2 y3 y4 y5 y6 h
    else
    (f_X1_apart 3 y2 y6 h).bind fun v6 =>
    if dIn y6 7 then
    (some (dPut h 81 (dI y6) (y3 + v6))).bind fun h8 =>
    (rc_X10_goOn (y1 - 1) y6 ((y3 + v6) + 1) (y4 ||| (1 <<< (y6 &&& 31))) ((y5 * 10) + y6) h8).bind fun h10 =>
    if dIn y6 7 then
    (some (dPut h10 81 (dI y6) 1000)).bind fun h12 =>
    f_X10_goOn_J106 rc_X10_goOn (f_X10_goOn_L23 rc_X10_goOn n) y1 y2 y3 y4 y5 y6 h12
    else none
    else none
    else
    some h
set_option maxRecDepth 20000 in
set_option maxHeartbeats 4000000 in
theorem b_X10_goOn_L23 {Dr : Nat} {rc_X10_goOn : Int32 → Int32 → Int32 → Int32 → Int32 → dH → Option (dH)} (hDr : 3 ≤ Dr) (hrc_X10_goOn : ∀ (x1 : Int32) (x2 : Int32) (x3 : Int32) (x4 : Int32) (x5 : Int32) (h : dH), T XC Dr yX10_goOn cX10_goOn 8 none fiV [.ref 77, .int x1, .int x2, .int x3, .int x4, .int x5] h (rc_X10_goOn x1 x2 x3 x4 x5 h)) : ∀ (n : Nat) (y1 : Int32) (y2 : Int32) (y3 : Int32) (y4 : Int32) (y5 : Int32) (y6 : Int32) (h : dH), B XC (Dr + 1) RX10 cX10_goOn 8 none fiV 23 [.ref 77, .int y1, .int y2, .int y3, .int y4, .int y5, .int y6, .null] [] h (f_X10_goOn_L23 rc_X10_goOn n y1 y2 y3 y4 y5 y6 h) := by
  intro n
  induction n with
  | zero =>
    intro y1 y2 y3 y4 y5 y6 h
    exact B_none
  | succ n ih =>
    intro y1 y2 y3 y4 y5 y6 h
    rw [f_X10_goOn_L23]
    refine B_iload dX10_goOn_23 rfl ?_
    refine B_aload_n dX10_goOn_25 rfl rfl ?_
    refine B_getR dX10_goOn_26 fl_X10_28 shC_77 rfl (rfC_77_4 _) ?_
    refine B_getI dX10_goOn_29 fl_X10_48 shC_3 rfl ?_
    refine C_icmp_ge (tgt := 112) dX10_goOn_32 (by decide) (fun q14 => ?_) (fun q14 => ?_)
    · exact B_return dX10_goOn_112 rfl rfl
    · refine B_iload dX10_goOn_35 rfl ?_
      refine B_iload dX10_goOn_37 rfl ?_
      refine B_NTb (st := []) dX10_goOn_39 cl_X10_68 (t_X11_isIn y4 y6 h) (by omega) rfl rfl (Nat.le_of_ble_eq_true rfl) ?_
      refine C_ifb_ne (tgt := 106) dX10_goOn_42 (by decide) (fun q13 => ?_) (fun q13 => ?_)
      · exact b_X10_goOn_J106 hDr hrc_X10_goOn (fun qy1 qy2 qy3 qy4 qy5 qy6 qh => ih qy1 qy2 qy3 qy4 qy5 qy6 qh) y1 y2 y3 y4 y5 y6 h
      · refine B_iload_n dX10_goOn_45 rfl rfl ?_
        refine B_aload_n dX10_goOn_46 rfl rfl ?_
        refine B_getR dX10_goOn_47 fl_X10_28 shC_77 rfl (rfC_77_4 _) ?_
        refine B_iload_n dX10_goOn_50 rfl rfl ?_
        refine B_iload dX10_goOn_51 rfl ?_
        refine B_Vp (st := [.int y3]) dX10_goOn_53 cl_X10_72 (t_X1_apart 3 shC_3 y2 y6 h) (by omega) shC_3 rfl rfl (Nat.le_of_ble_eq_true rfl) (fun v6 _ => ?_)
        refine B_iadd dX10_goOn_56 ?_
        refine B_istore (ls' := [.ref 77, .int y1, .int y2, .int y3, .int y4, .int y5, .int y6, .int (y3 + v6)]) dX10_goOn_57 (Nat.le_of_ble_eq_true rfl) rfl rfl ?_
        refine B_aload_n dX10_goOn_59 rfl rfl ?_
        refine B_getR dX10_goOn_60 fl_X10_22 shC_77 rfl (rfC_77_8 _) ?_
        refine B_iload dX10_goOn_63 rfl ?_
        refine B_iload dX10_goOn_65 rfl ?_
        refine C_chk (fun q7 => ?_)
        refine L_iast dX10_goOn_67 shC_81 q7 rfl ?_
        refine B_lh (fun h8 => ?_)
        refine B_aload_n dX10_goOn_68 rfl rfl ?_
        refine B_iload_n dX10_goOn_69 rfl rfl ?_
        refine B_iconst dX10_goOn_70 ic_1 ?_
        refine B_isub dX10_goOn_71 ?_
        refine B_iload dX10_goOn_72 rfl ?_
        refine B_iload dX10_goOn_74 rfl ?_
        refine B_iconst dX10_goOn_76 ic_1 ?_
        refine B_iadd dX10_goOn_77 ?_
        refine B_iload dX10_goOn_78 rfl ?_
        refine B_iconst dX10_goOn_80 ic_1 ?_
        refine B_iload dX10_goOn_81 rfl ?_
        refine B_ishl dX10_goOn_83 ?_
        refine B_ior dX10_goOn_84 ?_
        refine B_iload dX10_goOn_85 rfl ?_
        refine B_bipush dX10_goOn_87 bp_10 ?_
        refine B_imul dX10_goOn_89 ?_
        refine B_iload dX10_goOn_90 rfl ?_
        refine B_iadd dX10_goOn_92 ?_
        refine B_VV (st := []) dX10_goOn_93 cl_X10_56 (hrc_X10_goOn (y1 - 1) y6 ((y3 + v6) + 1) (y4 ||| (1 <<< (y6 &&& 31))) ((y5 * 10) + y6) h8) (by omega) shC_77 rfl rfl (Nat.le_of_ble_eq_true rfl) (fun h10 _ => ?_)
        refine B_aload_n dX10_goOn_96 rfl rfl ?_
        refine B_getR dX10_goOn_97 fl_X10_22 shC_77 rfl (rfC_77_8 _) ?_
        refine B_iload dX10_goOn_100 rfl ?_
        refine B_sipush dX10_goOn_102 sp_1000 ?_
        refine C_chk (fun q11 => ?_)
        refine L_iast dX10_goOn_105 shC_81 q11 rfl ?_
        refine B_lh (fun h12 => ?_)
        refine B_drop 7 (ls' := [.ref 77, .int y1, .int y2, .int y3, .int y4, .int y5, .int y6, .null]) rfl ?_
        exact b_X10_goOn_J106 hDr hrc_X10_goOn (fun qy1 qy2 qy3 qy4 qy5 qy6 qh => ih qy1 qy2 qy3 qy4 qy5 qy6 qh) y1 y2 y3 y4 y5 y6 h12
def f_X10_goOn (rc_X10_goOn : Int32 → Int32 → Int32 → Int32 → Int32 → dH → Option (dH)) (x1 : Int32) (x2 : Int32) (x3 : Int32) (x4 : Int32) (x5 : Int32) (h : dH) : Option (dH) :=
  if x1 = 0 then
  (f_X10_fits h).bind fun v1 =>
  if v1 then
  (f_X10_tally x4 x5 h).bind fun h3 =>
  some h3
  else
  some h
  else
  f_X10_goOn_L23 rc_X10_goOn dFu x1 x2 x3 x4 x5 0 h
set_option maxRecDepth 20000 in
set_option maxHeartbeats 4000000 in
theorem t_X10_goOn {Dr : Nat} {rc_X10_goOn : Int32 → Int32 → Int32 → Int32 → Int32 → dH → Option (dH)} (hDr : 3 ≤ Dr) (hrc_X10_goOn : ∀ (x1 : Int32) (x2 : Int32) (x3 : Int32) (x4 : Int32) (x5 : Int32) (h : dH), T XC Dr yX10_goOn cX10_goOn 8 none fiV [.ref 77, .int x1, .int x2, .int x3, .int x4, .int x5] h (rc_X10_goOn x1 x2 x3 x4 x5 h)) (x1 : Int32) (x2 : Int32) (x3 : Int32) (x4 : Int32) (x5 : Int32) (h : dH) : T XC (Dr + 1) yX10_goOn cX10_goOn 8 none fiV [.ref 77, .int x1, .int x2, .int x3, .int x4, .int x5] h (f_X10_goOn rc_X10_goOn x1 x2 x3 x4 x5 h) := by
  refine T_of [.ref 77, .int x1, .int x2, .int x3, .int x4, .int x5, .null, .null] (by decide) (fun _ => rfl) (fun _ => Nat.le_of_ble_eq_true rfl) ?_
  show B XC (Dr + 1) RX10 cX10_goOn 8 none fiV 0 [.ref 77, .int x1, .int x2, .int x3, .int x4, .int x5, .null, .null] [] h (f_X10_goOn rc_X10_goOn x1 x2 x3 x4 x5 h)
  unfold f_X10_goOn
  refine B_iload_n dX10_goOn_0 rfl rfl ?_
  refine C_if_ne (tgt := 20) dX10_goOn_1 (by decide) (fun q5 => ?_) (fun q5 => ?_)
  · refine B_iconst dX10_goOn_20 ic_0 ?_
    refine B_istore (ls' := [.ref 77, .int x1, .int x2, .int x3, .int x4, .int x5, .int 0, .null]) dX10_goOn_21 (Nat.le_of_ble_eq_true rfl) rfl rfl ?_
    exact b_X10_goOn_L23 hDr hrc_X10_goOn dFu x1 x2 x3 x4 x5 0 h
  · refine B_aload_n dX10_goOn_4 rfl rfl ?_
    refine B_Vpb (st := []) dX10_goOn_5 cl_X10_60 (t_X10_fits h) (by omega) shC_77 rfl rfl (Nat.le_of_ble_eq_true rfl) (fun v1 _ => ?_)
    refine C_ifb_eq (tgt := 19) dX10_goOn_8 (by decide) (fun q4 => ?_) (fun q4 => ?_)
    · exact B_return dX10_goOn_19 rfl rfl
    · refine B_aload_n dX10_goOn_11 rfl rfl ?_
      refine B_iload dX10_goOn_12 rfl ?_
      refine B_iload dX10_goOn_14 rfl ?_
      refine B_VV (st := []) dX10_goOn_16 cl_X10_64 (t_X10_tally x4 x5 h) (by omega) shC_77 rfl rfl (Nat.le_of_ble_eq_true rfl) (fun h3 _ => ?_)
      exact B_return dX10_goOn_19 rfl rfl
def g_X10_goOn : Nat → (Int32 → Int32 → Int32 → Int32 → Int32 → dH → Option (dH))
  | 0 => (fun _ _ _ _ _ _ => none)
  | n + 1 => (f_X10_goOn (g_X10_goOn n))
def r_X10_goOn (n : Nat) : Int32 → Int32 → Int32 → Int32 → Int32 → dH → Option (dH) := (g_X10_goOn n)
set_option maxRecDepth 20000 in
set_option maxHeartbeats 4000000 in
theorem t_g_X10_goOn : ∀ n : Nat, (∀ (x1 : Int32) (x2 : Int32) (x3 : Int32) (x4 : Int32) (x5 : Int32) (h : dH), T XC (3 + n) yX10_goOn cX10_goOn 8 none fiV [.ref 77, .int x1, .int x2, .int x3, .int x4, .int x5] h (r_X10_goOn n x1 x2 x3 x4 x5 h)) := by
  intro n
  induction n with
  | zero =>
    exact fun _ _ _ _ _ _ => T_none
  | succ n ih =>
    exact fun x1 x2 x3 x4 x5 h => (t_X10_goOn (Nat.le_add_right 3 n) ih x1 x2 x3 x4 x5 h : T _ (3 + n + 1) _ _ _ _ _ _ _ _)
theorem t_X10_goOn_r : ∀ (x1 : Int32) (x2 : Int32) (x3 : Int32) (x4 : Int32) (x5 : Int32) (h : dH), T XC 9 yX10_goOn cX10_goOn 8 none fiV [.ref 77, .int x1, .int x2, .int x3, .int x4, .int x5] h (r_X10_goOn 6 x1 x2 x3 x4 x5 h) := (t_g_X10_goOn 6)
def f_X10_gather_L38 : Nat → Int32 → Int32 → dH → Option (dH)
  | 0, _, _, _ => none
  | n + 1, y1, y4, h =>
    if y4 < 7 then
    if dIn y4 7 then
    (some (dPut h 81 (dI y4) 1000)).bind fun h9 =>
    if dIn y4 7 then
    (some (dPut h9 82 (dI y4) 0)).bind fun h11 =>
    (f_X10_gather_L38 n) y1 (y4 + 1) h11
    else none
    else none
    else
    ((r_X10_goOn 6) y1 (-1) 0 0 0 h).bind fun h7 =>
    some h7
set_option maxRecDepth 20000 in
set_option maxHeartbeats 4000000 in
theorem b_X10_gather_L38 : ∀ (n : Nat) (y1 : Int32) (y4 : Int32) (h : dH), B XC 10 RX10 cX10_gather 5 none fiV 38 [.ref 77, .int y1, .null, .null, .int y4] [] h (f_X10_gather_L38 n y1 y4 h) := by
  intro n
  induction n with
  | zero =>
    intro y1 y4 h
    exact B_none
  | succ n ih =>
    intro y1 y4 h
    rw [f_X10_gather_L38]
    refine B_iload dX10_gather_38 rfl ?_
    refine B_bipush dX10_gather_40 bp_7 ?_
    refine C_icmp_ge (tgt := 69) dX10_gather_42 (by decide) (fun q12 => ?_) (fun q12 => ?_)
    · refine B_aload_n dX10_gather_69 rfl rfl ?_
      refine B_iload_n dX10_gather_70 rfl rfl ?_
      refine B_iconst dX10_gather_71 ic_m1 ?_
      refine B_iconst dX10_gather_72 ic_0 ?_
      refine B_iconst dX10_gather_73 ic_0 ?_
      refine B_iconst dX10_gather_74 ic_0 ?_
      refine B_VV (st := []) dX10_gather_75 cl_X10_56 (t_X10_goOn_r y1 (-1) 0 0 0 h) (Nat.le_of_ble_eq_true rfl) shC_77 rfl rfl (Nat.le_of_ble_eq_true rfl) (fun h7 _ => ?_)
      exact B_return dX10_gather_78 rfl rfl
    · refine B_aload_n dX10_gather_45 rfl rfl ?_
      refine B_getR dX10_gather_46 fl_X10_22 shC_77 rfl (rfC_77_8 _) ?_
      refine B_iload dX10_gather_49 rfl ?_
      refine B_sipush dX10_gather_51 sp_1000 ?_
      refine C_chk (fun q8 => ?_)
      refine L_iast dX10_gather_54 shC_81 q8 rfl ?_
      refine B_lh (fun h9 => ?_)
      refine B_aload_n dX10_gather_55 rfl rfl ?_
      refine B_getR dX10_gather_56 fl_X10_25 shC_77 rfl (rfC_77_9 _) ?_
      refine B_iload dX10_gather_59 rfl ?_
      refine B_iconst dX10_gather_61 ic_0 ?_
      refine C_chk (fun q10 => ?_)
      refine L_iast dX10_gather_62 shC_82 q10 rfl ?_
      refine B_lh (fun h11 => ?_)
      refine B_iinc (w := (y4 + 1)) (ls' := [.ref 77, .int y1, .null, .null, .int (y4 + 1)]) dX10_gather_63 rfl (congrArg (fun z => y4 + z) ic_1) (Nat.le_of_ble_eq_true rfl) rfl rfl ?_
      refine B_goto (tgt := 38) dX10_gather_66 (by decide) ?_
      exact ih y1 (y4 + 1)  h11
def f_X10_gather (x1 : Int32) (x2 : Int32) (x3 : Int32) (h : dH) : Option (dH) :=
  (some (dPut h 77 10 x2)).bind fun h1 =>
  (some (dPut h1 77 11 x3)).bind fun h2 =>
  (some (dPut h2 77 1 0)).bind fun h3 =>
  (some (dPut h3 77 2 (-1))).bind fun h4 =>
  (some (dPut h4 77 3 ((1 <<< ((h4.1 3 2) &&& 31)) - 1))).bind fun h5 =>
  f_X10_gather_L38 dFu x1 0 h5
set_option maxRecDepth 20000 in
set_option maxHeartbeats 4000000 in
theorem t_X10_gather (x1 : Int32) (x2 : Int32) (x3 : Int32) (h : dH) : T XC 10 yX10_gather cX10_gather 5 none fiV [.ref 77, .int x1, .int x2, .int x3] h (f_X10_gather x1 x2 x3 h) := by
  refine T_of [.ref 77, .int x1, .int x2, .int x3, .null] (by decide) (fun _ => rfl) (fun _ => Nat.le_of_ble_eq_true rfl) ?_
  show B XC 10 RX10 cX10_gather 5 none fiV 0 [.ref 77, .int x1, .int x2, .int x3, .null] [] h (f_X10_gather x1 x2 x3 h)
  unfold f_X10_gather
  refine B_aload_n dX10_gather_0 rfl rfl ?_
  refine B_iload_n dX10_gather_1 rfl rfl ?_
  refine B_putI dX10_gather_2 fl_X10_36 fw_X10_10 shC_77 rfl ?_
  refine B_lh (fun h1 => ?_)
  refine B_aload_n dX10_gather_5 rfl rfl ?_
  refine B_iload_n dX10_gather_6 rfl rfl ?_
  refine B_putI dX10_gather_7 fl_X10_39 fw_X10_11 shC_77 rfl ?_
  refine B_lh (fun h2 => ?_)
  refine B_aload_n dX10_gather_10 rfl rfl ?_
  refine B_iconst dX10_gather_11 ic_0 ?_
  refine B_putI dX10_gather_12 fl_X10_42 fw_X10_1 shC_77 rfl ?_
  refine B_lh (fun h3 => ?_)
  refine B_aload_n dX10_gather_15 rfl rfl ?_
  refine B_iconst dX10_gather_16 ic_m1 ?_
  refine B_putI dX10_gather_17 fl_X10_45 fw_X10_2 shC_77 rfl ?_
  refine B_lh (fun h4 => ?_)
  refine B_aload_n dX10_gather_20 rfl rfl ?_
  refine B_iconst dX10_gather_21 ic_1 ?_
  refine B_aload_n dX10_gather_22 rfl rfl ?_
  refine B_getR dX10_gather_23 fl_X10_28 shC_77 rfl (rfC_77_4 _) ?_
  refine B_getI dX10_gather_26 fl_X10_48 shC_3 rfl ?_
  refine B_ishl dX10_gather_29 ?_
  refine B_iconst dX10_gather_30 ic_1 ?_
  refine B_isub dX10_gather_31 ?_
  refine B_putI dX10_gather_32 fl_X10_53 fw_X10_3 shC_77 rfl ?_
  refine B_lh (fun h5 => ?_)
  refine B_iconst dX10_gather_35 ic_0 ?_
  refine B_istore (ls' := [.ref 77, .int x1, .int x2, .int x3, .int 0]) dX10_gather_36 (Nat.le_of_ble_eq_true rfl) rfl rfl ?_
  refine B_drop 2 (ls' := [.ref 77, .int x1, .null, .int x3, .int 0]) rfl ?_
  refine B_drop 3 (ls' := [.ref 77, .int x1, .null, .null, .int 0]) rfl ?_
  exact b_X10_gather_L38 dFu x1 0 h5
def f_X10_evenest_J52 (kL4 : Int32 → Int32 → Option (Int32)) (y1 : Int32) (y2 : Int32) (h : dH) : Option (Int32) :=
  kL4 y1 (y2 + 1)
set_option maxRecDepth 20000 in
set_option maxHeartbeats 4000000 in
theorem b_X10_evenest_J52 {kL4 : Int32 → Int32 → Option (Int32)} (h : dH) (hkL4 : ∀ (y1 : Int32) (y2 : Int32), B XC 1 RX10 cX10_evenest 3 (some .int) (fiP h) 4 [.ref 77, .int y1, .int y2] [] h (kL4 y1 y2)) (y1 : Int32) (y2 : Int32) : B XC 1 RX10 cX10_evenest 3 (some .int) (fiP h) 52 [.ref 77, .int y1, .int y2] [] h (f_X10_evenest_J52 kL4 y1 y2 h) := by
  unfold f_X10_evenest_J52
  refine B_iinc (w := (y2 + 1)) (ls' := [.ref 77, .int y1, .int (y2 + 1)]) dX10_evenest_52 rfl (congrArg (fun z => y2 + z) ic_1) (Nat.le_of_ble_eq_true rfl) rfl rfl ?_
  refine B_goto (tgt := 4) dX10_evenest_55 (by decide) ?_
  exact hkL4 y1 (y2 + 1)  
def f_X10_evenest_L4 (h : dH) : Nat → Int32 → Int32 → Option (Int32)
  | 0, _, _ => none
  | n + 1, y1, y2 =>
    if y2 < (h.1 3 2) then
    if dIn y2 7 then
    if dIn y1 7 then
    if (jabs ((h.1 77 1) - (2 * (h.1 82 (dI y2))))) < (jabs ((h.1 77 1) - (2 * (h.1 82 (dI y1))))) then
    f_X10_evenest_J52 (f_X10_evenest_L4 h n) y2 y2 h
    else
    f_X10_evenest_J52 (f_X10_evenest_L4 h n) y1 y2 h
    else none
    else none
    else
    some y1
set_option maxRecDepth 20000 in
set_option maxHeartbeats 4000000 in
theorem b_X10_evenest_L4 (h : dH) : ∀ (n : Nat) (y1 : Int32) (y2 : Int32), B XC 1 RX10 cX10_evenest 3 (some .int) (fiP h) 4 [.ref 77, .int y1, .int y2] [] h (f_X10_evenest_L4 h n y1 y2) := by
  intro n
  induction n with
  | zero =>
    intro y1 y2
    exact B_none
  | succ n ih =>
    intro y1 y2
    rw [f_X10_evenest_L4]
    refine B_iload_n dX10_evenest_4 rfl rfl ?_
    refine B_aload_n dX10_evenest_5 rfl rfl ?_
    refine B_getR dX10_evenest_6 fl_X10_28 shC_77 rfl (rfC_77_4 _) ?_
    refine B_getI dX10_evenest_9 fl_X10_48 shC_3 rfl ?_
    refine C_icmp_ge (tgt := 58) dX10_evenest_12 (by decide) (fun q4 => ?_) (fun q4 => ?_)
    · refine B_iload_n dX10_evenest_58 rfl rfl ?_
      exact B_ireturn dX10_evenest_59 rfl rfl
    · refine B_aload_n dX10_evenest_15 rfl rfl ?_
      refine B_getI dX10_evenest_16 fl_X10_42 shC_77 rfl ?_
      refine B_iconst dX10_evenest_19 ic_2 ?_
      refine B_aload_n dX10_evenest_20 rfl rfl ?_
      refine B_getR dX10_evenest_21 fl_X10_25 shC_77 rfl (rfC_77_9 _) ?_
      refine B_iload_n dX10_evenest_24 rfl rfl ?_
      refine C_chk (fun q1 => ?_)
      refine L_iald dX10_evenest_25 shC_82 q1 rfl ?_
      refine B_imul dX10_evenest_26 ?_
      refine B_isub dX10_evenest_27 ?_
      refine B_mabs dX10_evenest_28 mt_X10_83 (Nat.le_of_ble_eq_true rfl) (Nat.le_of_ble_eq_true rfl) ?_
      refine B_aload_n dX10_evenest_31 rfl rfl ?_
      refine B_getI dX10_evenest_32 fl_X10_42 shC_77 rfl ?_
      refine B_iconst dX10_evenest_35 ic_2 ?_
      refine B_aload_n dX10_evenest_36 rfl rfl ?_
      refine B_getR dX10_evenest_37 fl_X10_25 shC_77 rfl (rfC_77_9 _) ?_
      refine B_iload_n dX10_evenest_40 rfl rfl ?_
      refine C_chk (fun q2 => ?_)
      refine L_iald dX10_evenest_41 shC_82 q2 rfl ?_
      refine B_imul dX10_evenest_42 ?_
      refine B_isub dX10_evenest_43 ?_
      refine B_mabs dX10_evenest_44 mt_X10_83 (Nat.le_of_ble_eq_true rfl) (Nat.le_of_ble_eq_true rfl) ?_
      refine C_icmp_ge (tgt := 52) dX10_evenest_47 (by decide) (fun q3 => ?_) (fun q3 => ?_)
      · exact b_X10_evenest_J52 h (fun qy1 qy2 => ih qy1 qy2) y1 y2
      · refine B_iload_n dX10_evenest_50 rfl rfl ?_
        refine B_istore_n (ls' := [.ref 77, .int y2, .int y2]) dX10_evenest_51 rfl (Nat.le_of_ble_eq_true rfl) rfl rfl ?_
        exact b_X10_evenest_J52 h (fun qy1 qy2 => ih qy1 qy2) y2 y2
def f_X10_evenest (h : dH) : Option (Int32) :=
  f_X10_evenest_L4 h dFu 0 1
set_option maxRecDepth 20000 in
set_option maxHeartbeats 4000000 in
theorem t_X10_evenest (h : dH) : T XC 1 yX10_evenest cX10_evenest 3 (some .int) (fiP h) [.ref 77] h (f_X10_evenest h) := by
  refine T_of [.ref 77, .null, .null] (by decide) (fun _ => rfl) (fun _ => Nat.le_of_ble_eq_true rfl) ?_
  show B XC 1 RX10 cX10_evenest 3 (some .int) (fiP h) 0 [.ref 77, .null, .null] [] h (f_X10_evenest h)
  unfold f_X10_evenest
  refine B_iconst dX10_evenest_0 ic_0 ?_
  refine B_istore_n (ls' := [.ref 77, .int 0, .null]) dX10_evenest_1 rfl (Nat.le_of_ble_eq_true rfl) rfl rfl ?_
  refine B_iconst dX10_evenest_2 ic_1 ?_
  refine B_istore_n (ls' := [.ref 77, .int 0, .int 1]) dX10_evenest_3 rfl (Nat.le_of_ble_eq_true rfl) rfl rfl ?_
  exact b_X10_evenest_L4 h dFu 0 1
def f_X11_feed (x1 : Int32) (x2 : Int32) (x3 : Int32) (x4 : Int32) (x5 : Int32) (h : dH) : Option (Int32 × dH) :=
  (f_X9_bytesIn x1 h).bind fun v1 =>
  (f_X9_bytesIn x2 h).bind fun v2 =>
  (f_X9_bytesIn x3 h).bind fun v3 =>
  (f_X9_bytesIn x4 h).bind fun v4 =>
  (f_X9_bytesIn x5 h).bind fun v5 =>
  (some (((((v1 + v2) + v3) + v4) + v5))).bind fun v6 =>
  if 240 < ((h.1 1 1) + v6) then
  some ((-1), h)
  else
  (f_X9_addBytesOf x1 h).bind fun h8 =>
  (f_X9_addBytesOf x2 h8).bind fun h10 =>
  (f_X9_addBytesOf x3 h10).bind fun h12 =>
  (f_X9_addBytesOf x4 h12).bind fun h14 =>
  (f_X9_addBytesOf x5 h14).bind fun h16 =>
  some ((h16.1 1 1), h16)
set_option maxRecDepth 20000 in
set_option maxHeartbeats 4000000 in
theorem t_X11_feed (x1 : Int32) (x2 : Int32) (x3 : Int32) (x4 : Int32) (x5 : Int32) (h : dH) : T XC 1 yX11_feed cX11_feed 7 (some .int) fiI [.ref 0, .int x1, .int x2, .int x3, .int x4, .int x5] h (f_X11_feed x1 x2 x3 x4 x5 h) := by
  refine T_of [.ref 0, .int x1, .int x2, .int x3, .int x4, .int x5, .null] (by decide) (fun _ => rfl) (fun _ => Nat.le_of_ble_eq_true rfl) ?_
  show B XC 1 RX11 cX11_feed 7 (some .int) fiI 0 [.ref 0, .int x1, .int x2, .int x3, .int x4, .int x5, .null] [] h (f_X11_feed x1 x2 x3 x4 x5 h)
  unfold f_X11_feed
  refine B_iload_n dX11_feed_0 rfl rfl ?_
  refine B_Sp (st := []) dX11_feed_1 cl_X11_113 (t_X9_bytesIn x1 h) (Nat.le_of_ble_eq_true rfl) rfl rfl (Nat.le_of_ble_eq_true rfl) (fun v1 _ => ?_)
  refine B_iload_n dX11_feed_4 rfl rfl ?_
  refine B_Sp (st := [.int v1]) dX11_feed_5 cl_X11_113 (t_X9_bytesIn x2 h) (Nat.le_of_ble_eq_true rfl) rfl rfl (Nat.le_of_ble_eq_true rfl) (fun v2 _ => ?_)
  refine B_iadd dX11_feed_8 ?_
  refine B_iload_n dX11_feed_9 rfl rfl ?_
  refine B_Sp (st := [.int (v1 + v2)]) dX11_feed_10 cl_X11_113 (t_X9_bytesIn x3 h) (Nat.le_of_ble_eq_true rfl) rfl rfl (Nat.le_of_ble_eq_true rfl) (fun v3 _ => ?_)
  refine B_iadd dX11_feed_13 ?_
  refine B_iload dX11_feed_14 rfl ?_
  refine B_Sp (st := [.int ((v1 + v2) + v3)]) dX11_feed_16 cl_X11_113 (t_X9_bytesIn x4 h) (Nat.le_of_ble_eq_true rfl) rfl rfl (Nat.le_of_ble_eq_true rfl) (fun v4 _ => ?_)
  refine B_iadd dX11_feed_19 ?_
  refine B_iload dX11_feed_20 rfl ?_
  refine B_Sp (st := [.int (((v1 + v2) + v3) + v4)]) dX11_feed_22 cl_X11_113 (t_X9_bytesIn x5 h) (Nat.le_of_ble_eq_true rfl) rfl rfl (Nat.le_of_ble_eq_true rfl) (fun v5 _ => ?_)
  refine B_iadd dX11_feed_25 ?_
  refine B_lv (fun v6 => ?_)
  refine B_istore (ls' := [.ref 0, .int x1, .int x2, .int x3, .int x4, .int x5, .int v6]) dX11_feed_26 (Nat.le_of_ble_eq_true rfl) rfl rfl ?_
  refine B_aload_n dX11_feed_28 rfl rfl ?_
  refine B_getR dX11_feed_29 fl_X11_10 shC_0 rfl (rfC_0_0 _) ?_
  refine B_getI dX11_feed_32 fl_X11_117 shC_1 rfl ?_
  refine B_iload dX11_feed_35 rfl ?_
  refine B_iadd dX11_feed_37 ?_
  refine B_sipush dX11_feed_38 sp_240 ?_
  refine C_icmp_le (tgt := 46) dX11_feed_41 (by decide) (fun q17 => ?_) (fun q17 => ?_)
  · refine B_aload_n dX11_feed_46 rfl rfl ?_
    refine B_getR dX11_feed_47 fl_X11_10 shC_0 rfl (rfC_0_0 _) ?_
    refine B_iload_n dX11_feed_50 rfl rfl ?_
    refine B_VV (st := []) dX11_feed_51 cl_X11_120 (t_X9_addBytesOf x1 h) (Nat.le_of_ble_eq_true rfl) shC_1 rfl rfl (Nat.le_of_ble_eq_true rfl) (fun h8 _ => ?_)
    refine B_aload_n dX11_feed_54 rfl rfl ?_
    refine B_getR dX11_feed_55 fl_X11_10 shC_0 rfl (rfC_0_0 _) ?_
    refine B_iload_n dX11_feed_58 rfl rfl ?_
    refine B_VV (st := []) dX11_feed_59 cl_X11_120 (t_X9_addBytesOf x2 h8) (Nat.le_of_ble_eq_true rfl) shC_1 rfl rfl (Nat.le_of_ble_eq_true rfl) (fun h10 _ => ?_)
    refine B_aload_n dX11_feed_62 rfl rfl ?_
    refine B_getR dX11_feed_63 fl_X11_10 shC_0 rfl (rfC_0_0 _) ?_
    refine B_iload_n dX11_feed_66 rfl rfl ?_
    refine B_VV (st := []) dX11_feed_67 cl_X11_120 (t_X9_addBytesOf x3 h10) (Nat.le_of_ble_eq_true rfl) shC_1 rfl rfl (Nat.le_of_ble_eq_true rfl) (fun h12 _ => ?_)
    refine B_aload_n dX11_feed_70 rfl rfl ?_
    refine B_getR dX11_feed_71 fl_X11_10 shC_0 rfl (rfC_0_0 _) ?_
    refine B_iload dX11_feed_74 rfl ?_
    refine B_VV (st := []) dX11_feed_76 cl_X11_120 (t_X9_addBytesOf x4 h12) (Nat.le_of_ble_eq_true rfl) shC_1 rfl rfl (Nat.le_of_ble_eq_true rfl) (fun h14 _ => ?_)
    refine B_aload_n dX11_feed_79 rfl rfl ?_
    refine B_getR dX11_feed_80 fl_X11_10 shC_0 rfl (rfC_0_0 _) ?_
    refine B_iload dX11_feed_83 rfl ?_
    refine B_VV (st := []) dX11_feed_85 cl_X11_120 (t_X9_addBytesOf x5 h14) (Nat.le_of_ble_eq_true rfl) shC_1 rfl rfl (Nat.le_of_ble_eq_true rfl) (fun h16 _ => ?_)
    refine B_aload_n dX11_feed_88 rfl rfl ?_
    refine B_getR dX11_feed_89 fl_X11_10 shC_0 rfl (rfC_0_0 _) ?_
    refine B_getI dX11_feed_92 fl_X11_117 shC_1 rfl ?_
    exact B_ireturn dX11_feed_95 rfl rfl
  · refine B_iconst dX11_feed_44 ic_m1 ?_
    exact B_ireturn dX11_feed_45 rfl rfl
def f_X11_end (x1 : Int32) (h : dH) : Option (Bool × dH) :=
  if x1 < 0 then
  some (false, h)
  else
  if (h.1 1 1) < x1 then
  some (false, h)
  else
  some (true, (dPut h 1 1 x1))
set_option maxRecDepth 20000 in
set_option maxHeartbeats 4000000 in
theorem t_X11_end (x1 : Int32) (h : dH) : T XC 0 yX11_end cX11_end 2 (some .boolean) fiC [.ref 0, .int x1] h (f_X11_end x1 h) := by
  refine T_of [.ref 0, .int x1] (by decide) (fun _ => rfl) (fun _ => Nat.le_of_ble_eq_true rfl) ?_
  show B XC 0 RX11 cX11_end 2 (some .boolean) fiC 0 [.ref 0, .int x1] [] h (f_X11_end x1 h)
  unfold f_X11_end
  refine B_iload_n dX11_end_0 rfl rfl ?_
  refine C_if_lt (tgt := 15) dX11_end_1 (by decide) (fun q2 => ?_) (fun q2 => ?_)
  · refine B_iconst dX11_end_15 ic_0 ?_
    exact B_zreturn dX11_end_16 rfl rfl rfl
  · refine B_iload_n dX11_end_4 rfl rfl ?_
    refine B_aload_n dX11_end_5 rfl rfl ?_
    refine B_getR dX11_end_6 fl_X11_10 shC_0 rfl (rfC_0_0 _) ?_
    refine B_getI dX11_end_9 fl_X11_117 shC_1 rfl ?_
    refine C_icmp_le (tgt := 17) dX11_end_12 (by decide) (fun q1 => ?_) (fun q1 => ?_)
    · refine B_aload_n dX11_end_17 rfl rfl ?_
      refine B_getR dX11_end_18 fl_X11_10 shC_0 rfl (rfC_0_0 _) ?_
      refine B_iload_n dX11_end_21 rfl rfl ?_
      refine B_putI dX11_end_22 fl_X11_117 fw_X9_1 shC_1 rfl ?_
      refine B_iconst dX11_end_25 ic_1 ?_
      exact B_zreturn dX11_end_26 rfl rfl rfl
    · refine B_iconst dX11_end_15 ic_0 ?_
      exact B_zreturn dX11_end_16 rfl rfl rfl
def f_X11_fault (x1 : Int32) (h : dH) : Option (Int32 × dH) :=
  if x1 = 0 then
  (f_X2_findFault h).bind fun rv2 =>
  some (rv2.1, rv2.2)
  else
  if x1 = 1 then
  (f_X5_findFault h).bind fun rv4 =>
  some (rv4.1, rv4.2)
  else
  if x1 = 2 then
  (f_X3_findFault h).bind fun rv6 =>
  some (rv6.1, rv6.2)
  else
  some ((-2), h)
set_option maxRecDepth 20000 in
set_option maxHeartbeats 4000000 in
theorem t_X11_fault (x1 : Int32) (h : dH) : T XC 82 yX11_fault cX11_fault 2 (some .int) fiI [.ref 0, .int x1] h (f_X11_fault x1 h) := by
  refine T_of [.ref 0, .int x1] (by decide) (fun _ => rfl) (fun _ => Nat.le_of_ble_eq_true rfl) ?_
  show B XC 82 RX11 cX11_fault 2 (some .int) fiI 0 [.ref 0, .int x1] [] h (f_X11_fault x1 h)
  unfold f_X11_fault
  refine B_iload_n dX11_fault_0 rfl rfl ?_
  refine C_ite (fun n1_0 => ?_) (fun n1_0 => ?_)
  · refine B_tswIn (off := 27) (tgt := 28) dX11_fault_1 (by rw [n1_0]; decide) (by rw [n1_0]; decide) (by rw [n1_0]; decide) (by decide) ?_
    refine B_aload_n dX11_fault_28 rfl rfl ?_
    refine B_getR dX11_fault_29 fl_X11_31 shC_0 rfl (rfC_0_3 _) ?_
    refine B_VI (st := []) dX11_fault_32 cl_X11_124 (t_X2_findFault h) (Nat.le_of_ble_eq_true rfl) shC_41 rfl rfl (Nat.le_of_ble_eq_true rfl) (fun v2 h3 _ => ?_)
    exact B_ireturn dX11_fault_35 rfl rfl
  · refine C_ite (fun n1_1 => ?_) (fun n1_1 => ?_)
    · refine B_tswIn (off := 35) (tgt := 36) dX11_fault_1 (by rw [n1_1]; decide) (by rw [n1_1]; decide) (by rw [n1_1]; decide) (by decide) ?_
      refine B_aload_n dX11_fault_36 rfl rfl ?_
      refine B_getR dX11_fault_37 fl_X11_40 shC_0 rfl (rfC_0_4 _) ?_
      refine B_VI (st := []) dX11_fault_40 cl_X11_128 (t_X5_findFault h) (Nat.le_of_ble_eq_true rfl) shC_42 rfl rfl (Nat.le_of_ble_eq_true rfl) (fun v4 h5 _ => ?_)
      exact B_ireturn dX11_fault_43 rfl rfl
    · refine C_ite (fun n1_2 => ?_) (fun n1_2 => ?_)
      · refine B_tswIn (off := 43) (tgt := 44) dX11_fault_1 (by rw [n1_2]; decide) (by rw [n1_2]; decide) (by rw [n1_2]; decide) (by decide) ?_
        refine B_aload_n dX11_fault_44 rfl rfl ?_
        refine B_getR dX11_fault_45 fl_X11_47 shC_0 rfl (rfC_0_5 _) ?_
        refine B_VI (st := []) dX11_fault_48 cl_X11_129 (t_X3_findFault h) (Nat.le_of_ble_eq_true rfl) shC_52 rfl rfl (Nat.le_of_ble_eq_true rfl) (fun v6 h7 _ => ?_)
        exact B_ireturn dX11_fault_51 rfl rfl
      · refine B_tswOut (tgt := 52) dX11_fault_1 (dsw (fun c h1 h2 => ?_)) (by decide) ?_
        · rcases (show c = 0 ∨ c = 1 ∨ c = 2 by omega) with rfl | rfl | rfl
          · exact n1_0
          · exact n1_1
          · exact n1_2
        · refine B_bipush dX11_fault_52 bp_m2 ?_
          exact B_ireturn dX11_fault_54 rfl rfl
def f_X11_settle (h : dH) : Option (Int32 × dH) :=
  (f_X1_copyFrom h).bind fun h2 =>
  (f_X8_beginCity h2).bind fun h4 =>
  (f_X0_forget h4).bind fun h6 =>
  (f_X10_forget h6).bind fun h8 =>
  some (((dPut h8 0 15 0).1 3 2), (dPut h8 0 15 0))
set_option maxRecDepth 20000 in
set_option maxHeartbeats 4000000 in
theorem t_X11_settle (h : dH) : T XC 4 yX11_settle cX11_settle 1 (some .int) fiI [.ref 0] h (f_X11_settle h) := by
  refine T_of [.ref 0] (by decide) (fun _ => rfl) (fun _ => Nat.le_of_ble_eq_true rfl) ?_
  show B XC 4 RX11 cX11_settle 1 (some .int) fiI 0 [.ref 0] [] h (f_X11_settle h)
  unfold f_X11_settle
  refine B_aload_n dX11_settle_0 rfl rfl ?_
  refine B_getR dX11_settle_1 fl_X11_19 shC_0 rfl (rfC_0_1 _) ?_
  refine B_aload_n dX11_settle_4 rfl rfl ?_
  refine B_getR dX11_settle_5 fl_X11_23 shC_0 rfl (rfC_0_2 _) ?_
  refine B_VV (st := []) dX11_settle_8 cl_X11_140 (t_X1_copyFrom h) (Nat.le_of_ble_eq_true rfl) shC_3 rfl rfl (Nat.le_of_ble_eq_true rfl) (fun h2 _ => ?_)
  refine B_aload_n dX11_settle_11 rfl rfl ?_
  refine B_getR dX11_settle_12 fl_X11_56 shC_0 rfl (rfC_0_6 _) ?_
  refine B_VV (st := []) dX11_settle_15 cl_X11_143 (t_X8_beginCity h2) (Nat.le_of_ble_eq_true rfl) shC_66 rfl rfl (Nat.le_of_ble_eq_true rfl) (fun h4 _ => ?_)
  refine B_aload_n dX11_settle_18 rfl rfl ?_
  refine B_getR dX11_settle_19 fl_X11_66 shC_0 rfl (rfC_0_8 _) ?_
  refine B_VV (st := []) dX11_settle_22 cl_X11_146 (t_X0_forget h4) (Nat.le_of_ble_eq_true rfl) shC_70 rfl rfl (Nat.le_of_ble_eq_true rfl) (fun h6 _ => ?_)
  refine B_aload_n dX11_settle_25 rfl rfl ?_
  refine B_getR dX11_settle_26 fl_X11_89 shC_0 rfl (rfC_0_12 _) ?_
  refine B_VV (st := []) dX11_settle_29 cl_X11_149 (t_X10_forget h6) (Nat.le_of_ble_eq_true rfl) shC_77 rfl rfl (Nat.le_of_ble_eq_true rfl) (fun h8 _ => ?_)
  refine B_aload_n dX11_settle_32 rfl rfl ?_
  refine B_iconst dX11_settle_33 ic_0 ?_
  refine B_putZ dX11_settle_34 fl_X11_150 fw_X11_15 shC_0 rfl (Or.inl rfl) ?_
  refine B_aload_n dX11_settle_37 rfl rfl ?_
  refine B_getR dX11_settle_38 fl_X11_19 shC_0 rfl (rfC_0_1 _) ?_
  refine B_getI dX11_settle_41 fl_X11_154 shC_3 rfl ?_
  exact B_ireturn dX11_settle_44 rfl rfl
def f_X11_text_J44 (z0 : Int32) (h : dH) : Option (Int32 × dH) :=
  if z0 = (-1) then
  some (z0, h)
  else
  some (z0, (dPut h 1 1 0))
set_option maxRecDepth 20000 in
set_option maxHeartbeats 4000000 in
theorem b_X11_text_J44 (z0 : Int32) (h : dH) : B XC 83 RX11 cX11_text 3 (some .int) fiI 44 [.ref 0, .null, .null] [.int z0] h (f_X11_text_J44 z0 h) := by
  unfold f_X11_text_J44
  refine B_istore_n (ls' := [.ref 0, .null, .int z0]) dX11_text_44 rfl (Nat.le_of_ble_eq_true rfl) rfl rfl ?_
  refine B_iload_n dX11_text_45 rfl rfl ?_
  refine B_iconst dX11_text_46 ic_m1 ?_
  refine C_icmp_eq (tgt := 58) dX11_text_47 (by decide) (fun q12 => ?_) (fun q12 => ?_)
  · refine B_iload_n dX11_text_58 rfl rfl ?_
    exact B_ireturn dX11_text_59 rfl rfl
  · refine B_aload_n dX11_text_50 rfl rfl ?_
    refine B_getR dX11_text_51 fl_X11_10 shC_0 rfl (rfC_0_0 _) ?_
    refine B_iconst dX11_text_54 ic_0 ?_
    refine B_putI dX11_text_55 fl_X11_117 fw_X9_1 shC_1 rfl ?_
    refine B_iload_n dX11_text_58 rfl rfl ?_
    exact B_ireturn dX11_text_59 rfl rfl
def f_X11_text (x1 : Int32) (h : dH) : Option (Int32 × dH) :=
  (f_X11_fault x1 h).bind fun rv1 =>
  if rv1.1 = (-1) then
  if x1 = 0 then
  (f_X11_settle rv1.2).bind fun rv8 =>
  f_X11_text_J44 rv8.1 rv8.2
  else
  if x1 = 1 then
  (f_X5_keepDraft rv1.2).bind fun rv5 =>
  f_X11_text_J44 rv5.1 rv5.2
  else
  (f_X3_keepDraft rv1.2).bind fun rv3 =>
  f_X11_text_J44 rv3.1 rv3.2
  else
  some ((-1), rv1.2)
set_option maxRecDepth 20000 in
set_option maxHeartbeats 4000000 in
theorem t_X11_text (x1 : Int32) (h : dH) : T XC 83 yX11_text cX11_text 3 (some .int) fiI [.ref 0, .int x1] h (f_X11_text x1 h) := by
  refine T_of [.ref 0, .int x1, .null] (by decide) (fun _ => rfl) (fun _ => Nat.le_of_ble_eq_true rfl) ?_
  show B XC 83 RX11 cX11_text 3 (some .int) fiI 0 [.ref 0, .int x1, .null] [] h (f_X11_text x1 h)
  unfold f_X11_text
  refine B_aload_n dX11_text_0 rfl rfl ?_
  refine B_iload_n dX11_text_1 rfl rfl ?_
  refine B_VI (st := []) dX11_text_2 cl_X11_130 (t_X11_fault x1 h) (Nat.le_of_ble_eq_true rfl) shC_0 rfl rfl (Nat.le_of_ble_eq_true rfl) (fun v1 h2 _ => ?_)
  refine B_iconst dX11_text_5 ic_m1 ?_
  refine C_icmp_eq (tgt := 11) dX11_text_6 (by decide) (fun q11 => ?_) (fun q11 => ?_)
  · refine B_iload_n dX11_text_11 rfl rfl ?_
    refine C_if_ne (tgt := 22) dX11_text_12 (by decide) (fun q10 => ?_) (fun q10 => ?_)
    · refine B_iload_n dX11_text_22 rfl rfl ?_
      refine B_iconst dX11_text_23 ic_1 ?_
      refine C_icmp_ne (tgt := 37) dX11_text_24 (by decide) (fun q7 => ?_) (fun q7 => ?_)
      · refine B_aload_n dX11_text_37 rfl rfl ?_
        refine B_getR dX11_text_38 fl_X11_47 shC_0 rfl (rfC_0_5 _) ?_
        refine B_VI (st := []) dX11_text_41 cl_X11_139 (t_X3_keepDraft h2) (Nat.le_of_ble_eq_true rfl) shC_52 rfl rfl (Nat.le_of_ble_eq_true rfl) (fun v3 h4 _ => ?_)
        refine B_drop 1 (ls' := [.ref 0, .null, .null]) rfl ?_
        exact b_X11_text_J44 v3 h4
      · refine B_aload_n dX11_text_27 rfl rfl ?_
        refine B_getR dX11_text_28 fl_X11_40 shC_0 rfl (rfC_0_4 _) ?_
        refine B_VI (st := []) dX11_text_31 cl_X11_136 (t_X5_keepDraft h2) (Nat.le_of_ble_eq_true rfl) shC_42 rfl rfl (Nat.le_of_ble_eq_true rfl) (fun v5 h6 _ => ?_)
        refine B_goto (tgt := 44) dX11_text_34 (by decide) ?_
        refine B_drop 1 (ls' := [.ref 0, .null, .null]) rfl ?_
        exact b_X11_text_J44 v5 h6
    · refine B_aload_n dX11_text_15 rfl rfl ?_
      refine B_VI (st := []) dX11_text_16 cl_X11_133 (t_X11_settle h2) (Nat.le_of_ble_eq_true rfl) shC_0 rfl rfl (Nat.le_of_ble_eq_true rfl) (fun v8 h9 _ => ?_)
      refine B_goto (tgt := 44) dX11_text_19 (by decide) ?_
      refine B_drop 1 (ls' := [.ref 0, .null, .null]) rfl ?_
      exact b_X11_text_J44 v8 h9
  · refine B_iconst dX11_text_9 ic_m1 ?_
    exact B_ireturn dX11_text_10 rfl rfl
def f_X11_rule (x1 : Int32) (h : dH) : Option (Int32) :=
  if (f_X1_isThere h) then
  if x1 < 0 then
  some (-1)
  else
  if 2 < x1 then
  some (-1)
  else
  if dIn x1 3 then
  some (h.1 4 (dI x1))
  else none
  else
  some (-1)
set_option maxRecDepth 20000 in
set_option maxHeartbeats 4000000 in
theorem t_X11_rule (x1 : Int32) (h : dH) : T XC 1 yX11_rule cX11_rule 2 (some .int) (fiP h) [.ref 0, .int x1] h (f_X11_rule x1 h) := by
  refine T_of [.ref 0, .int x1] (by decide) (fun _ => rfl) (fun _ => Nat.le_of_ble_eq_true rfl) ?_
  show B XC 1 RX11 cX11_rule 2 (some .int) (fiP h) 0 [.ref 0, .int x1] [] h (f_X11_rule x1 h)
  unfold f_X11_rule
  refine B_aload_n dX11_rule_0 rfl rfl ?_
  refine B_getR dX11_rule_1 fl_X11_19 shC_0 rfl (rfC_0_1 _) ?_
  refine B_VTb (st := []) dX11_rule_4 cl_X11_157 (t_X1_isThere h) (Nat.le_of_ble_eq_true rfl) shC_3 rfl rfl (Nat.le_of_ble_eq_true rfl) ?_
  refine C_ifb_eq (tgt := 31) dX11_rule_7 (by decide) (fun q4 => ?_) (fun q4 => ?_)
  · refine B_iconst dX11_rule_31 ic_m1 ?_
    exact B_ireturn dX11_rule_32 rfl rfl
  · refine B_iload_n dX11_rule_10 rfl rfl ?_
    refine C_if_lt (tgt := 31) dX11_rule_11 (by decide) (fun q3 => ?_) (fun q3 => ?_)
    · refine B_iconst dX11_rule_31 ic_m1 ?_
      exact B_ireturn dX11_rule_32 rfl rfl
    · refine B_iload_n dX11_rule_14 rfl rfl ?_
      refine B_iconst dX11_rule_15 ic_2 ?_
      refine C_icmp_gt (tgt := 31) dX11_rule_16 (by decide) (fun q2 => ?_) (fun q2 => ?_)
      · refine B_iconst dX11_rule_31 ic_m1 ?_
        exact B_ireturn dX11_rule_32 rfl rfl
      · refine B_aload_n dX11_rule_19 rfl rfl ?_
        refine B_getR dX11_rule_20 fl_X11_19 shC_0 rfl (rfC_0_1 _) ?_
        refine B_getR dX11_rule_23 fl_X11_161 shC_3 rfl (rfC_3_0 _) ?_
        refine B_iload_n dX11_rule_26 rfl rfl ?_
        refine C_chk (fun q1 => ?_)
        refine L_iald dX11_rule_27 shC_4 q1 rfl ?_
        refine B_goto (tgt := 32) dX11_rule_28 (by decide) ?_
        exact B_ireturn dX11_rule_32 rfl rfl
def f_X11_spot_J21 (h : dH) : Option (Int32) :=
  none
set_option maxRecDepth 20000 in
set_option maxHeartbeats 4000000 in
theorem b_X11_spot_J21 (h : dH) : B XC 2 RX11 cX11_spot 3 (some .int) (fiP h) 21 [.null, .null, .null] [] h (f_X11_spot_J21 h) := by
  unfold f_X11_spot_J21
  exact B_none
def f_X11_spot (x1 : Int32) (x2 : Int32) (h : dH) : Option (Int32) :=
  if (f_X1_isPlace 3 x1 h) then
  if x2 < 0 then
  f_X11_spot_J21 h
  else
  if 6 < x2 then
  f_X11_spot_J21 h
  else
  if x2 = 4 then
  (f_X8_patienceOf 66 x1 h).bind fun v2 =>
  some v2
  else
  if x2 = 5 then
  (f_X8_troublesOf 66 x1 h).bind fun v3 =>
  some v3
  else
  if x2 = 6 then
  (f_X8_visitsOf 66 x1 h).bind fun v4 =>
  some v4
  else
  (f_X1_toldOf 3 x1 x2 h).bind fun v5 =>
  some v5
  else
  f_X11_spot_J21 h
set_option maxRecDepth 20000 in
set_option maxHeartbeats 4000000 in
theorem t_X11_spot (x1 : Int32) (x2 : Int32) (h : dH) : T XC 2 yX11_spot cX11_spot 3 (some .int) (fiP h) [.ref 0, .int x1, .int x2] h (f_X11_spot x1 x2 h) := by
  refine T_of [.ref 0, .int x1, .int x2] (by decide) (fun _ => rfl) (fun _ => Nat.le_of_ble_eq_true rfl) ?_
  show B XC 2 RX11 cX11_spot 3 (some .int) (fiP h) 0 [.ref 0, .int x1, .int x2] [] h (f_X11_spot x1 x2 h)
  unfold f_X11_spot
  refine B_aload_n dX11_spot_0 rfl rfl ?_
  refine B_getR dX11_spot_1 fl_X11_19 shC_0 rfl (rfC_0_1 _) ?_
  refine B_iload_n dX11_spot_4 rfl rfl ?_
  refine B_VTb (st := []) dX11_spot_5 cl_X11_164 (t_X1_isPlace 3 shC_3 x1 h) (Nat.le_of_ble_eq_true rfl) shC_3 rfl rfl (Nat.le_of_ble_eq_true rfl) ?_
  refine C_ifb_eq (tgt := 21) dX11_spot_8 (by decide) (fun q8 => ?_) (fun q8 => ?_)
  · refine B_drop 0 (ls' := [.null, .int x1, .int x2]) rfl ?_
    refine B_drop 1 (ls' := [.null, .null, .int x2]) rfl ?_
    refine B_drop 2 (ls' := [.null, .null, .null]) rfl ?_
    exact b_X11_spot_J21 h
  · refine B_iload_n dX11_spot_11 rfl rfl ?_
    refine C_if_lt (tgt := 21) dX11_spot_12 (by decide) (fun q7 => ?_) (fun q7 => ?_)
    · refine B_drop 0 (ls' := [.null, .int x1, .int x2]) rfl ?_
      refine B_drop 1 (ls' := [.null, .null, .int x2]) rfl ?_
      refine B_drop 2 (ls' := [.null, .null, .null]) rfl ?_
      exact b_X11_spot_J21 h
    · refine B_iload_n dX11_spot_15 rfl rfl ?_
      refine B_bipush dX11_spot_16 bp_6 ?_
      refine C_icmp_le (tgt := 29) dX11_spot_18 (by decide) (fun q6 => ?_) (fun q6 => ?_)
      · refine B_iload_n dX11_spot_29 rfl rfl ?_
        refine C_ite (fun n1_4 => ?_) (fun n1_4 => ?_)
        · refine B_tswIn (off := 26) (tgt := 56) dX11_spot_30 (by rw [n1_4]; decide) (by rw [n1_4]; decide) (by rw [n1_4]; decide) (by decide) ?_
          refine B_aload_n dX11_spot_56 rfl rfl ?_
          refine B_getR dX11_spot_57 fl_X11_56 shC_0 rfl (rfC_0_6 _) ?_
          refine B_iload_n dX11_spot_60 rfl rfl ?_
          refine B_Vp (st := []) dX11_spot_61 cl_X11_171 (t_X8_patienceOf 66 shC_66 x1 h) (Nat.le_of_ble_eq_true rfl) shC_66 rfl rfl (Nat.le_of_ble_eq_true rfl) (fun v2 _ => ?_)
          exact B_ireturn dX11_spot_64 rfl rfl
        · refine C_ite (fun n1_5 => ?_) (fun n1_5 => ?_)
          · refine B_tswIn (off := 35) (tgt := 65) dX11_spot_30 (by rw [n1_5]; decide) (by rw [n1_5]; decide) (by rw [n1_5]; decide) (by decide) ?_
            refine B_aload_n dX11_spot_65 rfl rfl ?_
            refine B_getR dX11_spot_66 fl_X11_56 shC_0 rfl (rfC_0_6 _) ?_
            refine B_iload_n dX11_spot_69 rfl rfl ?_
            refine B_Vp (st := []) dX11_spot_70 cl_X11_174 (t_X8_troublesOf 66 shC_66 x1 h) (Nat.le_of_ble_eq_true rfl) shC_66 rfl rfl (Nat.le_of_ble_eq_true rfl) (fun v3 _ => ?_)
            exact B_ireturn dX11_spot_73 rfl rfl
          · refine C_ite (fun n1_6 => ?_) (fun n1_6 => ?_)
            · refine B_tswIn (off := 44) (tgt := 74) dX11_spot_30 (by rw [n1_6]; decide) (by rw [n1_6]; decide) (by rw [n1_6]; decide) (by decide) ?_
              refine B_aload_n dX11_spot_74 rfl rfl ?_
              refine B_getR dX11_spot_75 fl_X11_56 shC_0 rfl (rfC_0_6 _) ?_
              refine B_iload_n dX11_spot_78 rfl rfl ?_
              refine B_Vp (st := []) dX11_spot_79 cl_X11_177 (t_X8_visitsOf 66 shC_66 x1 h) (Nat.le_of_ble_eq_true rfl) shC_66 rfl rfl (Nat.le_of_ble_eq_true rfl) (fun v4 _ => ?_)
              exact B_ireturn dX11_spot_82 rfl rfl
            · refine B_tswOut (tgt := 83) dX11_spot_30 (dsw (fun c h1 h2 => ?_)) (by decide) ?_
              · rcases (show c = 4 ∨ c = 5 ∨ c = 6 by omega) with rfl | rfl | rfl
                · exact n1_4
                · exact n1_5
                · exact n1_6
              · refine B_aload_n dX11_spot_83 rfl rfl ?_
                refine B_getR dX11_spot_84 fl_X11_19 shC_0 rfl (rfC_0_1 _) ?_
                refine B_iload_n dX11_spot_87 rfl rfl ?_
                refine B_iload_n dX11_spot_88 rfl rfl ?_
                refine B_Vp (st := []) dX11_spot_89 cl_X11_180 (t_X1_toldOf 3 shC_3 x1 x2 h) (Nat.le_of_ble_eq_true rfl) shC_3 rfl rfl (Nat.le_of_ble_eq_true rfl) (fun v5 _ => ?_)
                exact B_ireturn dX11_spot_92 rfl rfl
      · refine B_drop 0 (ls' := [.null, .int x1, .int x2]) rfl ?_
        refine B_drop 1 (ls' := [.null, .null, .int x2]) rfl ?_
        refine B_drop 2 (ls' := [.null, .null, .null]) rfl ?_
        exact b_X11_spot_J21 h
def f_X11_law_J22 (y1 : Int32) (h : dH) : Option (Bool × dH) :=
  some (true, (dPut h 42 2 y1))
set_option maxRecDepth 20000 in
set_option maxHeartbeats 4000000 in
theorem b_X11_law_J22 (y1 : Int32) (h : dH) : B XC 0 RX11 cX11_law 2 (some .boolean) fiC 22 [.ref 0, .int y1] [] h (f_X11_law_J22 y1 h) := by
  unfold f_X11_law_J22
  refine B_aload_n dX11_law_22 rfl rfl ?_
  refine B_getR dX11_law_23 fl_X11_40 shC_0 rfl (rfC_0_4 _) ?_
  refine B_iload_n dX11_law_26 rfl rfl ?_
  refine B_putI dX11_law_27 fl_X11_187 fw_X5_2 shC_42 rfl ?_
  refine B_iconst dX11_law_30 ic_1 ?_
  exact B_zreturn dX11_law_31 rfl rfl rfl
def f_X11_law (x1 : Int32) (h : dH) : Option (Bool × dH) :=
  if x1 = (-1) then
  f_X11_law_J22 x1 h
  else
  if x1 < 0 then
  some (false, h)
  else
  if x1 < (h.1 42 1) then
  f_X11_law_J22 x1 h
  else
  some (false, h)
set_option maxRecDepth 20000 in
set_option maxHeartbeats 4000000 in
theorem t_X11_law (x1 : Int32) (h : dH) : T XC 0 yX11_law cX11_law 2 (some .boolean) fiC [.ref 0, .int x1] h (f_X11_law x1 h) := by
  refine T_of [.ref 0, .int x1] (by decide) (fun _ => rfl) (fun _ => Nat.le_of_ble_eq_true rfl) ?_
  show B XC 0 RX11 cX11_law 2 (some .boolean) fiC 0 [.ref 0, .int x1] [] h (f_X11_law x1 h)
  unfold f_X11_law
  refine B_iload_n dX11_law_0 rfl rfl ?_
  refine B_iconst dX11_law_1 ic_m1 ?_
  refine C_icmp_eq (tgt := 22) dX11_law_2 (by decide) (fun q3 => ?_) (fun q3 => ?_)
  · exact b_X11_law_J22 x1 h
  · refine B_iload_n dX11_law_5 rfl rfl ?_
    refine C_if_lt (tgt := 20) dX11_law_6 (by decide) (fun q2 => ?_) (fun q2 => ?_)
    · refine B_iconst dX11_law_20 ic_0 ?_
      exact B_zreturn dX11_law_21 rfl rfl rfl
    · refine B_iload_n dX11_law_9 rfl rfl ?_
      refine B_aload_n dX11_law_10 rfl rfl ?_
      refine B_getR dX11_law_11 fl_X11_40 shC_0 rfl (rfC_0_4 _) ?_
      refine B_getI dX11_law_14 fl_X11_184 shC_42 rfl ?_
      refine C_icmp_lt (tgt := 22) dX11_law_17 (by decide) (fun q1 => ?_) (fun q1 => ?_)
      · exact b_X11_law_J22 x1 h
      · refine B_iconst dX11_law_20 ic_0 ?_
        exact B_zreturn dX11_law_21 rfl rfl rfl
def f_X11_gout (x1 : Int32) (h : dH) : Option (Bool × dH) :=
  if x1 < 0 then
  some (false, h)
  else
  if 9 < x1 then
  some (false, h)
  else
  if x1 = (h.1 0 16) then
  some (false, h)
  else
  some (true, (dPut h 0 16 x1))
set_option maxRecDepth 20000 in
set_option maxHeartbeats 4000000 in
theorem t_X11_gout (x1 : Int32) (h : dH) : T XC 0 yX11_gout cX11_gout 2 (some .boolean) fiC [.ref 0, .int x1] h (f_X11_gout x1 h) := by
  refine T_of [.ref 0, .int x1] (by decide) (fun _ => rfl) (fun _ => Nat.le_of_ble_eq_true rfl) ?_
  show B XC 0 RX11 cX11_gout 2 (some .boolean) fiC 0 [.ref 0, .int x1] [] h (f_X11_gout x1 h)
  unfold f_X11_gout
  refine B_iload_n dX11_gout_0 rfl rfl ?_
  refine C_if_lt (tgt := 18) dX11_gout_1 (by decide) (fun q3 => ?_) (fun q3 => ?_)
  · refine B_iconst dX11_gout_18 ic_0 ?_
    exact B_zreturn dX11_gout_19 rfl rfl rfl
  · refine B_iload_n dX11_gout_4 rfl rfl ?_
    refine B_bipush dX11_gout_5 bp_9 ?_
    refine C_icmp_gt (tgt := 18) dX11_gout_7 (by decide) (fun q2 => ?_) (fun q2 => ?_)
    · refine B_iconst dX11_gout_18 ic_0 ?_
      exact B_zreturn dX11_gout_19 rfl rfl rfl
    · refine B_iload_n dX11_gout_10 rfl rfl ?_
      refine B_aload_n dX11_gout_11 rfl rfl ?_
      refine B_getI dX11_gout_12 fl_X11_109 shC_0 rfl ?_
      refine C_icmp_ne (tgt := 20) dX11_gout_15 (by decide) (fun q1 => ?_) (fun q1 => ?_)
      · refine B_aload_n dX11_gout_20 rfl rfl ?_
        refine B_iload_n dX11_gout_21 rfl rfl ?_
        refine B_putI dX11_gout_22 fl_X11_109 fw_X11_16 shC_0 rfl ?_
        refine B_iconst dX11_gout_25 ic_1 ?_
        exact B_zreturn dX11_gout_26 rfl rfl rfl
      · refine B_iconst dX11_gout_18 ic_0 ?_
        exact B_zreturn dX11_gout_19 rfl rfl rfl
def f_X11_steps_J49 (y2 : Int32) (z1 : Int32) (h : dH) : Option (Int32) :=
  (f_X1_apart 3 z1 y2 h).bind fun v5 =>
  some v5
set_option maxRecDepth 20000 in
set_option maxHeartbeats 4000000 in
theorem b_X11_steps_J49 (h : dH) (y2 : Int32) (z1 : Int32) : B XC 1 RX11 cX11_steps 3 (some .int) (fiP h) 49 [.null, .null, .int y2] [.int z1, .ref 3] h (f_X11_steps_J49 y2 z1 h) := by
  unfold f_X11_steps_J49
  refine B_iload_n dX11_steps_49 rfl rfl ?_
  refine B_Vp (st := []) dX11_steps_50 cl_X11_193 (t_X1_apart 3 shC_3 z1 y2 h) (Nat.le_of_ble_eq_true rfl) shC_3 rfl rfl (Nat.le_of_ble_eq_true rfl) (fun v5 _ => ?_)
  exact B_ireturn dX11_steps_53 rfl rfl
def f_X11_steps_J29 (y1 : Int32) (y2 : Int32) (h : dH) : Option (Int32) :=
  if y1 = (-1) then
  f_X11_steps_J49 y2 (f_X8_place h) h
  else
  f_X11_steps_J49 y2 y1 h
set_option maxRecDepth 20000 in
set_option maxHeartbeats 4000000 in
theorem b_X11_steps_J29 (h : dH) (y1 : Int32) (y2 : Int32) : B XC 1 RX11 cX11_steps 3 (some .int) (fiP h) 29 [.ref 0, .int y1, .int y2] [] h (f_X11_steps_J29 y1 y2 h) := by
  unfold f_X11_steps_J29
  refine B_aload_n dX11_steps_29 rfl rfl ?_
  refine B_getR dX11_steps_30 fl_X11_19 shC_0 rfl (rfC_0_1 _) ?_
  refine B_iload_n dX11_steps_33 rfl rfl ?_
  refine B_iconst dX11_steps_34 ic_m1 ?_
  refine C_icmp_ne (tgt := 48) dX11_steps_35 (by decide) (fun q4 => ?_) (fun q4 => ?_)
  · refine B_iload_n dX11_steps_48 rfl rfl ?_
    refine B_drop 0 (ls' := [.null, .int y1, .int y2]) rfl ?_
    refine B_drop 1 (ls' := [.null, .null, .int y2]) rfl ?_
    exact b_X11_steps_J49 h y2 y1
  · refine B_aload_n dX11_steps_38 rfl rfl ?_
    refine B_getR dX11_steps_39 fl_X11_56 shC_0 rfl (rfC_0_6 _) ?_
    refine B_Vt (st := [.ref 3]) dX11_steps_42 cl_X11_190 (t_X8_place h) (Nat.le_of_ble_eq_true rfl) shC_66 rfl rfl (Nat.le_of_ble_eq_true rfl) ?_
    refine B_goto (tgt := 49) dX11_steps_45 (by decide) ?_
    refine B_drop 0 (ls' := [.null, .int y1, .int y2]) rfl ?_
    refine B_drop 1 (ls' := [.null, .null, .int y2]) rfl ?_
    exact b_X11_steps_J49 h y2 (f_X8_place h)
def f_X11_steps (x1 : Int32) (x2 : Int32) (h : dH) : Option (Int32) :=
  if (f_X1_isPlace 3 x2 h) then
  if x1 = (-1) then
  f_X11_steps_J29 x1 x2 h
  else
  if (f_X1_isPlace 3 x1 h) then
  f_X11_steps_J29 x1 x2 h
  else
  some (-1)
  else
  some (-1)
set_option maxRecDepth 20000 in
set_option maxHeartbeats 4000000 in
theorem t_X11_steps (x1 : Int32) (x2 : Int32) (h : dH) : T XC 1 yX11_steps cX11_steps 3 (some .int) (fiP h) [.ref 0, .int x1, .int x2] h (f_X11_steps x1 x2 h) := by
  refine T_of [.ref 0, .int x1, .int x2] (by decide) (fun _ => rfl) (fun _ => Nat.le_of_ble_eq_true rfl) ?_
  show B XC 1 RX11 cX11_steps 3 (some .int) (fiP h) 0 [.ref 0, .int x1, .int x2] [] h (f_X11_steps x1 x2 h)
  unfold f_X11_steps
  refine B_aload_n dX11_steps_0 rfl rfl ?_
  refine B_getR dX11_steps_1 fl_X11_19 shC_0 rfl (rfC_0_1 _) ?_
  refine B_iload_n dX11_steps_4 rfl rfl ?_
  refine B_VTb (st := []) dX11_steps_5 cl_X11_164 (t_X1_isPlace 3 shC_3 x2 h) (Nat.le_of_ble_eq_true rfl) shC_3 rfl rfl (Nat.le_of_ble_eq_true rfl) ?_
  refine C_ifb_eq (tgt := 27) dX11_steps_8 (by decide) (fun q3 => ?_) (fun q3 => ?_)
  · refine B_iconst dX11_steps_27 ic_m1 ?_
    exact B_ireturn dX11_steps_28 rfl rfl
  · refine B_iload_n dX11_steps_11 rfl rfl ?_
    refine B_iconst dX11_steps_12 ic_m1 ?_
    refine C_icmp_eq (tgt := 29) dX11_steps_13 (by decide) (fun q2 => ?_) (fun q2 => ?_)
    · exact b_X11_steps_J29 h x1 x2
    · refine B_aload_n dX11_steps_16 rfl rfl ?_
      refine B_getR dX11_steps_17 fl_X11_19 shC_0 rfl (rfC_0_1 _) ?_
      refine B_iload_n dX11_steps_20 rfl rfl ?_
      refine B_VTb (st := []) dX11_steps_21 cl_X11_164 (t_X1_isPlace 3 shC_3 x1 h) (Nat.le_of_ble_eq_true rfl) shC_3 rfl rfl (Nat.le_of_ble_eq_true rfl) ?_
      refine C_ifb_ne (tgt := 29) dX11_steps_24 (by decide) (fun q1 => ?_) (fun q1 => ?_)
      · exact b_X11_steps_J29 h x1 x2
      · refine B_iconst dX11_steps_27 ic_m1 ?_
        exact B_ireturn dX11_steps_28 rfl rfl
def f_X11_doAsAct_J41 (y1 : Int32) (y2 : Int32) (h : dH) : Option (Int32 × dH) :=
  (f_X8_carryOut 66 y1 y2 h).bind fun rv8 =>
  some (rv8.1, rv8.2)
set_option maxRecDepth 20000 in
set_option maxHeartbeats 4000000 in
theorem b_X11_doAsAct_J41 (y1 : Int32) (y2 : Int32) (h : dH) : B XC 5 RX11 cX11_doAsAct 3 (some .int) fiI 41 [.ref 0, .int y1, .int y2] [] h (f_X11_doAsAct_J41 y1 y2 h) := by
  unfold f_X11_doAsAct_J41
  refine B_aload_n dX11_doAsAct_41 rfl rfl ?_
  refine B_getR dX11_doAsAct_42 fl_X11_56 shC_0 rfl (rfC_0_6 _) ?_
  refine B_iload_n dX11_doAsAct_45 rfl rfl ?_
  refine B_iload_n dX11_doAsAct_46 rfl rfl ?_
  refine B_VI (st := []) dX11_doAsAct_47 cl_X11_214 (t_X8_carryOut 66 shC_66 y1 y2 h) (Nat.le_of_ble_eq_true rfl) shC_66 rfl rfl (Nat.le_of_ble_eq_true rfl) (fun v8 h9 _ => ?_)
  exact B_ireturn dX11_doAsAct_50 rfl rfl
def f_X11_doAsAct (x1 : Int32) (x2 : Int32) (h : dH) : Option (Int32 × dH) :=
  (f_X8_canDo 66 x1 x2 h).bind fun v1 =>
  if v1 then
  (f_X0_keep h).bind fun h3 =>
  if x1 = 3 then
  (f_X4_write h3).bind fun h5 =>
  f_X11_doAsAct_J41 x1 x2 h5
  else
  f_X11_doAsAct_J41 x1 x2 h3
  else
  some ((-1), h)
set_option maxRecDepth 20000 in
set_option maxHeartbeats 4000000 in
theorem t_X11_doAsAct (x1 : Int32) (x2 : Int32) (h : dH) : T XC 5 yX11_doAsAct cX11_doAsAct 3 (some .int) fiI [.ref 0, .int x1, .int x2] h (f_X11_doAsAct x1 x2 h) := by
  refine T_of [.ref 0, .int x1, .int x2] (by decide) (fun _ => rfl) (fun _ => Nat.le_of_ble_eq_true rfl) ?_
  show B XC 5 RX11 cX11_doAsAct 3 (some .int) fiI 0 [.ref 0, .int x1, .int x2] [] h (f_X11_doAsAct x1 x2 h)
  unfold f_X11_doAsAct
  refine B_aload_n dX11_doAsAct_0 rfl rfl ?_
  refine B_getR dX11_doAsAct_1 fl_X11_56 shC_0 rfl (rfC_0_6 _) ?_
  refine B_iload_n dX11_doAsAct_4 rfl rfl ?_
  refine B_iload_n dX11_doAsAct_5 rfl rfl ?_
  refine B_Vpb (st := []) dX11_doAsAct_6 cl_X11_207 (t_X8_canDo 66 shC_66 x1 x2 h) (Nat.le_of_ble_eq_true rfl) shC_66 rfl rfl (Nat.le_of_ble_eq_true rfl) (fun v1 _ => ?_)
  refine C_ifb_ne (tgt := 14) dX11_doAsAct_9 (by decide) (fun q7 => ?_) (fun q7 => ?_)
  · refine B_aload_n dX11_doAsAct_14 rfl rfl ?_
    refine B_getR dX11_doAsAct_15 fl_X11_66 shC_0 rfl (rfC_0_8 _) ?_
    refine B_aload_n dX11_doAsAct_18 rfl rfl ?_
    refine B_getR dX11_doAsAct_19 fl_X11_56 shC_0 rfl (rfC_0_6 _) ?_
    refine B_VV (st := []) dX11_doAsAct_22 cl_X11_199 (t_X0_keep h) (Nat.le_of_ble_eq_true rfl) shC_70 rfl rfl (Nat.le_of_ble_eq_true rfl) (fun h3 _ => ?_)
    refine B_iload_n dX11_doAsAct_25 rfl rfl ?_
    refine B_iconst dX11_doAsAct_26 ic_3 ?_
    refine C_icmp_ne (tgt := 41) dX11_doAsAct_27 (by decide) (fun q6 => ?_) (fun q6 => ?_)
    · exact b_X11_doAsAct_J41 x1 x2 h3
    · refine B_aload_n dX11_doAsAct_30 rfl rfl ?_
      refine B_getR dX11_doAsAct_31 fl_X11_73 shC_0 rfl (rfC_0_9 _) ?_
      refine B_aload_n dX11_doAsAct_34 rfl rfl ?_
      refine B_getR dX11_doAsAct_35 fl_X11_56 shC_0 rfl (rfC_0_6 _) ?_
      refine B_VV (st := []) dX11_doAsAct_38 cl_X11_211 (t_X4_write h3) (Nat.le_of_ble_eq_true rfl) shC_72 rfl rfl (Nat.le_of_ble_eq_true rfl) (fun h5 _ => ?_)
      exact b_X11_doAsAct_J41 x1 x2 h5
  · refine B_iconst dX11_doAsAct_12 ic_m1 ?_
    exact B_ireturn dX11_doAsAct_13 rfl rfl
def f_X11_walk (x1 : Int32) (h : dH) : Option (Int32 × dH) :=
  (f_X11_doAsAct 0 x1 h).bind fun rv1 =>
  some (rv1.1, rv1.2)
set_option maxRecDepth 20000 in
set_option maxHeartbeats 4000000 in
theorem t_X11_walk (x1 : Int32) (h : dH) : T XC 6 yX11_walk cX11_walk 2 (some .int) fiI [.ref 0, .int x1] h (f_X11_walk x1 h) := by
  refine T_of [.ref 0, .int x1] (by decide) (fun _ => rfl) (fun _ => Nat.le_of_ble_eq_true rfl) ?_
  show B XC 6 RX11 cX11_walk 2 (some .int) fiI 0 [.ref 0, .int x1] [] h (f_X11_walk x1 h)
  unfold f_X11_walk
  refine B_aload_n dX11_walk_0 rfl rfl ?_
  refine B_iconst dX11_walk_1 ic_0 ?_
  refine B_iload_n dX11_walk_2 rfl rfl ?_
  refine B_VI (st := []) dX11_walk_3 cl_X11_196 (t_X11_doAsAct 0 x1 h) (Nat.le_of_ble_eq_true rfl) shC_0 rfl rfl (Nat.le_of_ble_eq_true rfl) (fun v1 h2 _ => ?_)
  exact B_ireturn dX11_walk_6 rfl rfl
def f_X11_ledge (h : dH) : Option (Int32 × dH) :=
  (f_X11_doAsAct 1 (-1) h).bind fun rv1 =>
  some (rv1.1, rv1.2)
set_option maxRecDepth 20000 in
set_option maxHeartbeats 4000000 in
theorem t_X11_ledge (h : dH) : T XC 6 yX11_ledge cX11_ledge 1 (some .int) fiI [.ref 0] h (f_X11_ledge h) := by
  refine T_of [.ref 0] (by decide) (fun _ => rfl) (fun _ => Nat.le_of_ble_eq_true rfl) ?_
  show B XC 6 RX11 cX11_ledge 1 (some .int) fiI 0 [.ref 0] [] h (f_X11_ledge h)
  unfold f_X11_ledge
  refine B_aload_n dX11_ledge_0 rfl rfl ?_
  refine B_iconst dX11_ledge_1 ic_1 ?_
  refine B_iconst dX11_ledge_2 ic_m1 ?_
  refine B_VI (st := []) dX11_ledge_3 cl_X11_196 (t_X11_doAsAct 1 (-1) h) (Nat.le_of_ble_eq_true rfl) shC_0 rfl rfl (Nat.le_of_ble_eq_true rfl) (fun v1 h2 _ => ?_)
  exact B_ireturn dX11_ledge_6 rfl rfl
def f_X11_restore (x1 : Int32) (h : dH) : Option (Int32 × dH) :=
  (f_X11_doAsAct 2 x1 h).bind fun rv1 =>
  some (rv1.1, rv1.2)
set_option maxRecDepth 20000 in
set_option maxHeartbeats 4000000 in
theorem t_X11_restore (x1 : Int32) (h : dH) : T XC 6 yX11_restore cX11_restore 2 (some .int) fiI [.ref 0, .int x1] h (f_X11_restore x1 h) := by
  refine T_of [.ref 0, .int x1] (by decide) (fun _ => rfl) (fun _ => Nat.le_of_ble_eq_true rfl) ?_
  show B XC 6 RX11 cX11_restore 2 (some .int) fiI 0 [.ref 0, .int x1] [] h (f_X11_restore x1 h)
  unfold f_X11_restore
  refine B_aload_n dX11_restore_0 rfl rfl ?_
  refine B_iconst dX11_restore_1 ic_2 ?_
  refine B_iload_n dX11_restore_2 rfl rfl ?_
  refine B_VI (st := []) dX11_restore_3 cl_X11_196 (t_X11_doAsAct 2 x1 h) (Nat.le_of_ble_eq_true rfl) shC_0 rfl rfl (Nat.le_of_ble_eq_true rfl) (fun v1 h2 _ => ?_)
  exact B_ireturn dX11_restore_6 rfl rfl
def f_X11_patience (x1 : Int32) (x2 : Int32) (h : dH) : Option (Int32 × dH) :=
  if (f_X1_isPlace 3 x1 h) then
  if x2 < 0 then
  some ((-1), h)
  else
  if 30 < x2 then
  some ((-1), h)
  else
  (f_X8_patienceOf 66 x1 h).bind fun v1 =>
  if x2 = v1 then
  some ((-1), h)
  else
  (f_X8_patienceOf 66 x1 h).bind fun v2 =>
  (f_X0_keep h).bind fun h4 =>
  (f_X8_setPatience x1 x2 h4).bind fun h6 =>
  some (v2, h6)
  else
  some ((-1), h)
set_option maxRecDepth 20000 in
set_option maxHeartbeats 4000000 in
theorem t_X11_patience (x1 : Int32) (x2 : Int32) (h : dH) : T XC 3 yX11_patience cX11_patience 4 (some .int) fiI [.ref 0, .int x1, .int x2] h (f_X11_patience x1 x2 h) := by
  refine T_of [.ref 0, .int x1, .int x2, .null] (by decide) (fun _ => rfl) (fun _ => Nat.le_of_ble_eq_true rfl) ?_
  show B XC 3 RX11 cX11_patience 4 (some .int) fiI 0 [.ref 0, .int x1, .int x2, .null] [] h (f_X11_patience x1 x2 h)
  unfold f_X11_patience
  refine B_aload_n dX11_patience_0 rfl rfl ?_
  refine B_getR dX11_patience_1 fl_X11_19 shC_0 rfl (rfC_0_1 _) ?_
  refine B_iload_n dX11_patience_4 rfl rfl ?_
  refine B_VTb (st := []) dX11_patience_5 cl_X11_164 (t_X1_isPlace 3 shC_3 x1 h) (Nat.le_of_ble_eq_true rfl) shC_3 rfl rfl (Nat.le_of_ble_eq_true rfl) ?_
  refine C_ifb_eq (tgt := 33) dX11_patience_8 (by decide) (fun q10 => ?_) (fun q10 => ?_)
  · refine B_iconst dX11_patience_33 ic_m1 ?_
    exact B_ireturn dX11_patience_34 rfl rfl
  · refine B_iload_n dX11_patience_11 rfl rfl ?_
    refine C_if_lt (tgt := 33) dX11_patience_12 (by decide) (fun q9 => ?_) (fun q9 => ?_)
    · refine B_iconst dX11_patience_33 ic_m1 ?_
      exact B_ireturn dX11_patience_34 rfl rfl
    · refine B_iload_n dX11_patience_15 rfl rfl ?_
      refine B_bipush dX11_patience_16 bp_30 ?_
      refine C_icmp_gt (tgt := 33) dX11_patience_18 (by decide) (fun q8 => ?_) (fun q8 => ?_)
      · refine B_iconst dX11_patience_33 ic_m1 ?_
        exact B_ireturn dX11_patience_34 rfl rfl
      · refine B_iload_n dX11_patience_21 rfl rfl ?_
        refine B_aload_n dX11_patience_22 rfl rfl ?_
        refine B_getR dX11_patience_23 fl_X11_56 shC_0 rfl (rfC_0_6 _) ?_
        refine B_iload_n dX11_patience_26 rfl rfl ?_
        refine B_Vp (st := [.int x2]) dX11_patience_27 cl_X11_171 (t_X8_patienceOf 66 shC_66 x1 h) (Nat.le_of_ble_eq_true rfl) shC_66 rfl rfl (Nat.le_of_ble_eq_true rfl) (fun v1 _ => ?_)
        refine C_icmp_ne (tgt := 35) dX11_patience_30 (by decide) (fun q7 => ?_) (fun q7 => ?_)
        · refine B_aload_n dX11_patience_35 rfl rfl ?_
          refine B_getR dX11_patience_36 fl_X11_56 shC_0 rfl (rfC_0_6 _) ?_
          refine B_iload_n dX11_patience_39 rfl rfl ?_
          refine B_Vp (st := []) dX11_patience_40 cl_X11_171 (t_X8_patienceOf 66 shC_66 x1 h) (Nat.le_of_ble_eq_true rfl) shC_66 rfl rfl (Nat.le_of_ble_eq_true rfl) (fun v2 _ => ?_)
          refine B_istore_n (ls' := [.ref 0, .int x1, .int x2, .int v2]) dX11_patience_43 rfl (Nat.le_of_ble_eq_true rfl) rfl rfl ?_
          refine B_aload_n dX11_patience_44 rfl rfl ?_
          refine B_getR dX11_patience_45 fl_X11_66 shC_0 rfl (rfC_0_8 _) ?_
          refine B_aload_n dX11_patience_48 rfl rfl ?_
          refine B_getR dX11_patience_49 fl_X11_56 shC_0 rfl (rfC_0_6 _) ?_
          refine B_VV (st := []) dX11_patience_52 cl_X11_199 (t_X0_keep h) (Nat.le_of_ble_eq_true rfl) shC_70 rfl rfl (Nat.le_of_ble_eq_true rfl) (fun h4 _ => ?_)
          refine B_aload_n dX11_patience_55 rfl rfl ?_
          refine B_getR dX11_patience_56 fl_X11_56 shC_0 rfl (rfC_0_6 _) ?_
          refine B_iload_n dX11_patience_59 rfl rfl ?_
          refine B_iload_n dX11_patience_60 rfl rfl ?_
          refine B_VV (st := []) dX11_patience_61 cl_X11_203 (t_X8_setPatience x1 x2 h4) (Nat.le_of_ble_eq_true rfl) shC_66 rfl rfl (Nat.le_of_ble_eq_true rfl) (fun h6 _ => ?_)
          refine B_iload_n dX11_patience_64 rfl rfl ?_
          exact B_ireturn dX11_patience_65 rfl rfl
        · refine B_iconst dX11_patience_33 ic_m1 ?_
          exact B_ireturn dX11_patience_34 rfl rfl
def f_X11_day (h : dH) : Option (Int32 × dH) :=
  (f_X11_doAsAct 3 (-1) h).bind fun rv1 =>
  some (rv1.1, rv1.2)
set_option maxRecDepth 20000 in
set_option maxHeartbeats 4000000 in
theorem t_X11_day (h : dH) : T XC 6 yX11_day cX11_day 1 (some .int) fiI [.ref 0] h (f_X11_day h) := by
  refine T_of [.ref 0] (by decide) (fun _ => rfl) (fun _ => Nat.le_of_ble_eq_true rfl) ?_
  show B XC 6 RX11 cX11_day 1 (some .int) fiI 0 [.ref 0] [] h (f_X11_day h)
  unfold f_X11_day
  refine B_aload_n dX11_day_0 rfl rfl ?_
  refine B_iconst dX11_day_1 ic_3 ?_
  refine B_iconst dX11_day_2 ic_m1 ?_
  refine B_VI (st := []) dX11_day_3 cl_X11_196 (t_X11_doAsAct 3 (-1) h) (Nat.le_of_ble_eq_true rfl) shC_0 rfl rfl (Nat.le_of_ble_eq_true rfl) (fun v1 h2 _ => ?_)
  exact B_ireturn dX11_day_6 rfl rfl
def f_X11_drawnBehind (x0 : Int64) (h : dH) : Int64 :=
  ((x0 * 6364136223846793005) + 1442695040888963407)
set_option maxRecDepth 20000 in
set_option maxHeartbeats 4000000 in
theorem t_X11_drawnBehind (x0 : Int64) (h : dH) : T XC 0 yX11_drawnBehind cX11_drawnBehind 2 (some .long) (fiJ h) [.long x0] h (some (f_X11_drawnBehind x0 h)) := by
  refine T_of [.long x0, .null] (by decide) (fun _ => rfl) (fun _ => Nat.le_of_ble_eq_true rfl) ?_
  show B XC 0 RX11 cX11_drawnBehind 2 (some .long) (fiJ h) 0 [.long x0, .null] [] h (some (f_X11_drawnBehind x0 h))
  unfold f_X11_drawnBehind
  refine B_lload_n dX11_drawnBehind_0 rfl rfl ?_
  refine B_ldc2 dX11_drawnBehind_1 kc_X11_231 ?_
  refine B_lmul dX11_drawnBehind_4 ?_
  refine B_ldc2 dX11_drawnBehind_5 kc_X11_233 ?_
  refine B_ladd dX11_drawnBehind_8 ?_
  exact B_lreturn dX11_drawnBehind_9 rfl rfl
def f_X11_letDayGoBy (h : dH) : Option (dH) :=
  (f_X8_canDo 66 3 (-1) h).bind fun v1 =>
  if v1 then
  (f_X4_write h).bind fun h3 =>
  (f_X8_carryOut 66 3 (-1) h3).bind fun rv4 =>
  some rv4.2
  else
  some h
set_option maxRecDepth 20000 in
set_option maxHeartbeats 4000000 in
theorem t_X11_letDayGoBy (h : dH) : T XC 5 yX11_letDayGoBy cX11_letDayGoBy 1 none fiV [.ref 0] h (f_X11_letDayGoBy h) := by
  refine T_of [.ref 0] (by decide) (fun _ => rfl) (fun _ => Nat.le_of_ble_eq_true rfl) ?_
  show B XC 5 RX11 cX11_letDayGoBy 1 none fiV 0 [.ref 0] [] h (f_X11_letDayGoBy h)
  unfold f_X11_letDayGoBy
  refine B_aload_n dX11_letDayGoBy_0 rfl rfl ?_
  refine B_getR dX11_letDayGoBy_1 fl_X11_56 shC_0 rfl (rfC_0_6 _) ?_
  refine B_iconst dX11_letDayGoBy_4 ic_3 ?_
  refine B_iconst dX11_letDayGoBy_5 ic_m1 ?_
  refine B_Vpb (st := []) dX11_letDayGoBy_6 cl_X11_207 (t_X8_canDo 66 shC_66 3 (-1) h) (Nat.le_of_ble_eq_true rfl) shC_66 rfl rfl (Nat.le_of_ble_eq_true rfl) (fun v1 _ => ?_)
  refine C_ifb_eq (tgt := 33) dX11_letDayGoBy_9 (by decide) (fun q6 => ?_) (fun q6 => ?_)
  · exact B_return dX11_letDayGoBy_33 rfl rfl
  · refine B_aload_n dX11_letDayGoBy_12 rfl rfl ?_
    refine B_getR dX11_letDayGoBy_13 fl_X11_73 shC_0 rfl (rfC_0_9 _) ?_
    refine B_aload_n dX11_letDayGoBy_16 rfl rfl ?_
    refine B_getR dX11_letDayGoBy_17 fl_X11_56 shC_0 rfl (rfC_0_6 _) ?_
    refine B_VV (st := []) dX11_letDayGoBy_20 cl_X11_211 (t_X4_write h) (Nat.le_of_ble_eq_true rfl) shC_72 rfl rfl (Nat.le_of_ble_eq_true rfl) (fun h3 _ => ?_)
    refine B_aload_n dX11_letDayGoBy_23 rfl rfl ?_
    refine B_getR dX11_letDayGoBy_24 fl_X11_56 shC_0 rfl (rfC_0_6 _) ?_
    refine B_iconst dX11_letDayGoBy_27 ic_3 ?_
    refine B_iconst dX11_letDayGoBy_28 ic_m1 ?_
    refine B_VI (st := []) dX11_letDayGoBy_29 cl_X11_214 (t_X8_carryOut 66 shC_66 3 (-1) h3) (Nat.le_of_ble_eq_true rfl) shC_66 rfl rfl (Nat.le_of_ble_eq_true rfl) (fun v4 h5 _ => ?_)
    refine B_pop dX11_letDayGoBy_32 rfl ?_
    exact B_return dX11_letDayGoBy_33 rfl rfl
def f_X11_walkOrRead (x1 : Int32) (h : dH) : Option (Int32 × dH) :=
  (f_X8_canDo 66 0 x1 h).bind fun v1 =>
  if v1 then
  (f_X8_carryOut 66 0 x1 h).bind fun rv6 =>
  some (1, rv6.2)
  else
  (f_X8_canDo 66 1 (-1) h).bind fun v2 =>
  if v2 then
  (f_X8_carryOut 66 1 (-1) h).bind fun rv3 =>
  some (0, rv3.2)
  else
  some (0, h)
set_option maxRecDepth 20000 in
set_option maxHeartbeats 4000000 in
theorem t_X11_walkOrRead (x1 : Int32) (h : dH) : T XC 5 yX11_walkOrRead cX11_walkOrRead 2 (some .int) fiI [.ref 0, .int x1] h (f_X11_walkOrRead x1 h) := by
  refine T_of [.ref 0, .int x1] (by decide) (fun _ => rfl) (fun _ => Nat.le_of_ble_eq_true rfl) ?_
  show B XC 5 RX11 cX11_walkOrRead 2 (some .int) fiI 0 [.ref 0, .int x1] [] h (f_X11_walkOrRead x1 h)
  unfold f_X11_walkOrRead
  refine B_aload_n dX11_walkOrRead_0 rfl rfl ?_
  refine B_getR dX11_walkOrRead_1 fl_X11_56 shC_0 rfl (rfC_0_6 _) ?_
  refine B_iconst dX11_walkOrRead_4 ic_0 ?_
  refine B_iload_n dX11_walkOrRead_5 rfl rfl ?_
  refine B_Vpb (st := []) dX11_walkOrRead_6 cl_X11_207 (t_X8_canDo 66 shC_66 0 x1 h) (Nat.le_of_ble_eq_true rfl) shC_66 rfl rfl (Nat.le_of_ble_eq_true rfl) (fun v1 _ => ?_)
  refine C_ifb_eq (tgt := 24) dX11_walkOrRead_9 (by decide) (fun q8 => ?_) (fun q8 => ?_)
  · refine B_aload_n dX11_walkOrRead_24 rfl rfl ?_
    refine B_getR dX11_walkOrRead_25 fl_X11_56 shC_0 rfl (rfC_0_6 _) ?_
    refine B_iconst dX11_walkOrRead_28 ic_1 ?_
    refine B_iconst dX11_walkOrRead_29 ic_m1 ?_
    refine B_Vpb (st := []) dX11_walkOrRead_30 cl_X11_207 (t_X8_canDo 66 shC_66 1 (-1) h) (Nat.le_of_ble_eq_true rfl) shC_66 rfl rfl (Nat.le_of_ble_eq_true rfl) (fun v2 _ => ?_)
    refine C_ifb_eq (tgt := 46) dX11_walkOrRead_33 (by decide) (fun q5 => ?_) (fun q5 => ?_)
    · refine B_iconst dX11_walkOrRead_46 ic_0 ?_
      exact B_ireturn dX11_walkOrRead_47 rfl rfl
    · refine B_aload_n dX11_walkOrRead_36 rfl rfl ?_
      refine B_getR dX11_walkOrRead_37 fl_X11_56 shC_0 rfl (rfC_0_6 _) ?_
      refine B_iconst dX11_walkOrRead_40 ic_1 ?_
      refine B_iconst dX11_walkOrRead_41 ic_m1 ?_
      refine B_VI (st := []) dX11_walkOrRead_42 cl_X11_214 (t_X8_carryOut 66 shC_66 1 (-1) h) (Nat.le_of_ble_eq_true rfl) shC_66 rfl rfl (Nat.le_of_ble_eq_true rfl) (fun v3 h4 _ => ?_)
      refine B_pop dX11_walkOrRead_45 rfl ?_
      refine B_iconst dX11_walkOrRead_46 ic_0 ?_
      exact B_ireturn dX11_walkOrRead_47 rfl rfl
  · refine B_aload_n dX11_walkOrRead_12 rfl rfl ?_
    refine B_getR dX11_walkOrRead_13 fl_X11_56 shC_0 rfl (rfC_0_6 _) ?_
    refine B_iconst dX11_walkOrRead_16 ic_0 ?_
    refine B_iload_n dX11_walkOrRead_17 rfl rfl ?_
    refine B_VI (st := []) dX11_walkOrRead_18 cl_X11_214 (t_X8_carryOut 66 shC_66 0 x1 h) (Nat.le_of_ble_eq_true rfl) shC_66 rfl rfl (Nat.le_of_ble_eq_true rfl) (fun v6 h7 _ => ?_)
    refine B_pop dX11_walkOrRead_21 rfl ?_
    refine B_iconst dX11_walkOrRead_22 ic_1 ?_
    exact B_ireturn dX11_walkOrRead_23 rfl rfl
