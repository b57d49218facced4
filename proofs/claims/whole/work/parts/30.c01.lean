def f_X5_readCondition_L13 (rc_X5_readCondition : Int32 → Bool → dH → Option (Bool × dH)) (rc_X5_readTruth : Int32 → Bool → dH → Option (Bool × dH)) (rc_X5_readUnit : Int32 → Bool → dH → Option (Bool × dH)) (rc_X5_readNested : Int32 → dH → Option (Bool × dH)) : Nat → Int32 → Int32 → dH → Option (Bool × dH)
  | 0, _, _, _ => none
  | n + 1, y1, y3, h =>
    if y3 < 240 then
    (f_X9_take 124 h).bind fun rv4 =>
    if rv4.1 then
    (rc_X5_readTruth y1 false rv4.2).bind fun rv6 =>
    if rv6.1 then
    (f_X5_add (-124) rv6.2).bind fun h9 =>
    (f_X5_readCondition_L13 rc_X5_readCondition rc_X5_readTruth rc_X5_readUnit rc_X5_readNested n) y1 (y3 + 1) h9
    else
    some (false, rv6.2)
    else
    some (true, rv4.2)
    else
    some (true, h)
set_option maxRecDepth 20000 in
set_option maxHeartbeats 4000000 in
theorem b_X5_readCondition_L13 {Dr : Nat} {rc_X5_readCondition : Int32 → Bool → dH → Option (Bool × dH)} {rc_X5_readTruth : Int32 → Bool → dH → Option (Bool × dH)} {rc_X5_readUnit : Int32 → Bool → dH → Option (Bool × dH)} {rc_X5_readNested : Int32 → dH → Option (Bool × dH)} (hDr : 39 ≤ Dr) (hrc_X5_readCondition : ∀ (x1 : Int32) (x2 : Bool) (h : dH), T XC Dr yX5_readCondition cX5_readCondition 4 (some .boolean) fiC [.ref 42, .int x1, .int (bi x2)] h (rc_X5_readCondition x1 x2 h)) (hrc_X5_readTruth : ∀ (x1 : Int32) (x2 : Bool) (h : dH), T XC Dr yX5_readTruth cX5_readTruth 4 (some .boolean) fiC [.ref 42, .int x1, .int (bi x2)] h (rc_X5_readTruth x1 x2 h)) (hrc_X5_readUnit : ∀ (x1 : Int32) (x2 : Bool) (h : dH), T XC Dr yX5_readUnit cX5_readUnit 4 (some .boolean) fiC [.ref 42, .int x1, .int (bi x2)] h (rc_X5_readUnit x1 x2 h)) (hrc_X5_readNested : ∀ (x1 : Int32) (h : dH), T XC Dr yX5_readNested cX5_readNested 2 (some .boolean) fiC [.ref 42, .int x1] h (rc_X5_readNested x1 h)) : ∀ (n : Nat) (y1 : Int32) (y3 : Int32) (h : dH), B XC (Dr + 1) RX5 cX5_readCondition 4 (some .boolean) fiC 13 [.ref 42, .int y1, .null, .int y3] [] h (f_X5_readCondition_L13 rc_X5_readCondition rc_X5_readTruth rc_X5_readUnit rc_X5_readNested n y1 y3 h) := by
  intro n
  induction n with
  | zero =>
    intro y1 y3 h
    exact B_none
  | succ n ih =>
    intro y1 y3 h
    rw [f_X5_readCondition_L13]
    refine B_iload_n dX5_readCondition_13 rfl rfl ?_
    refine B_sipush dX5_readCondition_14 sp_240 ?_
    refine C_icmp_ge (tgt := 55) dX5_readCondition_17 (by decide) (fun q12 => ?_) (fun q12 => ?_)
    · refine B_iconst dX5_readCondition_55 ic_1 ?_
      exact B_zreturn dX5_readCondition_56 rfl rfl rfl
    · refine B_aload_n dX5_readCondition_20 rfl rfl ?_
      refine B_getR dX5_readCondition_21 fl_X5_30 shC_42 rfl (rfC_42_3 _) ?_
      refine B_bipush dX5_readCondition_24 bp_124 ?_
      refine B_VC (st := []) dX5_readCondition_26 cl_X5_50 (t_X9_take 124 h) (by omega) shC_1 rfl rfl (Nat.le_of_ble_eq_true rfl) (fun v4 h5 _ => ?_)
      refine C_ifb_eq (tgt := 55) dX5_readCondition_29 (by decide) (fun q11 => ?_) (fun q11 => ?_)
      · refine B_iconst dX5_readCondition_55 ic_1 ?_
        exact B_zreturn dX5_readCondition_56 rfl rfl rfl
      · refine B_aload_n dX5_readCondition_32 rfl rfl ?_
        refine B_iload_n dX5_readCondition_33 rfl rfl ?_
        refine B_iconst dX5_readCondition_34 ic_0 ?_
        refine B_VC (st := []) dX5_readCondition_35 cl_X5_72 (hrc_X5_readTruth y1 false h5) (by omega) shC_42 rfl rfl (Nat.le_of_ble_eq_true rfl) (fun v6 h7 _ => ?_)
        refine C_ifb_ne (tgt := 43) dX5_readCondition_38 (by decide) (fun q10 => ?_) (fun q10 => ?_)
        · refine B_aload_n dX5_readCondition_43 rfl rfl ?_
          refine B_bipush dX5_readCondition_44 bp_m124 ?_
          refine B_VV (st := []) dX5_readCondition_46 cl_X5_68 (t_X5_add (-124) h7) (by omega) shC_42 rfl rfl (Nat.le_of_ble_eq_true rfl) (fun h9 _ => ?_)
          refine B_iinc (w := (y3 + 1)) (ls' := [.ref 42, .int y1, .null, .int (y3 + 1)]) dX5_readCondition_49 rfl (congrArg (fun z => y3 + z) ic_1) (Nat.le_of_ble_eq_true rfl) rfl rfl ?_
          refine B_goto (tgt := 13) dX5_readCondition_52 (by decide) ?_
          exact ih y1 (y3 + 1)  h9
        · refine B_iconst dX5_readCondition_41 ic_0 ?_
          exact B_zreturn dX5_readCondition_42 rfl rfl rfl
def f_X5_readCondition (rc_X5_readCondition : Int32 → Bool → dH → Option (Bool × dH)) (rc_X5_readTruth : Int32 → Bool → dH → Option (Bool × dH)) (rc_X5_readUnit : Int32 → Bool → dH → Option (Bool × dH)) (rc_X5_readNested : Int32 → dH → Option (Bool × dH)) (x1 : Int32) (x2 : Bool) (h : dH) : Option (Bool × dH) :=
  (rc_X5_readTruth x1 x2 h).bind fun rv1 =>
  if rv1.1 then
  f_X5_readCondition_L13 rc_X5_readCondition rc_X5_readTruth rc_X5_readUnit rc_X5_readNested dFu x1 0 rv1.2
  else
  some (false, rv1.2)
set_option maxRecDepth 20000 in
set_option maxHeartbeats 4000000 in
theorem t_X5_readCondition {Dr : Nat} {rc_X5_readCondition : Int32 → Bool → dH → Option (Bool × dH)} {rc_X5_readTruth : Int32 → Bool → dH → Option (Bool × dH)} {rc_X5_readUnit : Int32 → Bool → dH → Option (Bool × dH)} {rc_X5_readNested : Int32 → dH → Option (Bool × dH)} (hDr : 39 ≤ Dr) (hrc_X5_readCondition : ∀ (x1 : Int32) (x2 : Bool) (h : dH), T XC Dr yX5_readCondition cX5_readCondition 4 (some .boolean) fiC [.ref 42, .int x1, .int (bi x2)] h (rc_X5_readCondition x1 x2 h)) (hrc_X5_readTruth : ∀ (x1 : Int32) (x2 : Bool) (h : dH), T XC Dr yX5_readTruth cX5_readTruth 4 (some .boolean) fiC [.ref 42, .int x1, .int (bi x2)] h (rc_X5_readTruth x1 x2 h)) (hrc_X5_readUnit : ∀ (x1 : Int32) (x2 : Bool) (h : dH), T XC Dr yX5_readUnit cX5_readUnit 4 (some .boolean) fiC [.ref 42, .int x1, .int (bi x2)] h (rc_X5_readUnit x1 x2 h)) (hrc_X5_readNested : ∀ (x1 : Int32) (h : dH), T XC Dr yX5_readNested cX5_readNested 2 (some .boolean) fiC [.ref 42, .int x1] h (rc_X5_readNested x1 h)) (x1 : Int32) (x2 : Bool) (h : dH) : T XC (Dr + 1) yX5_readCondition cX5_readCondition 4 (some .boolean) fiC [.ref 42, .int x1, .int (bi x2)] h (f_X5_readCondition rc_X5_readCondition rc_X5_readTruth rc_X5_readUnit rc_X5_readNested x1 x2 h) := by
  refine T_of [.ref 42, .int x1, .int (bi x2), .null] (by decide) (fun _ => rfl) (fun _ => Nat.le_of_ble_eq_true rfl) ?_
  show B XC (Dr + 1) RX5 cX5_readCondition 4 (some .boolean) fiC 0 [.ref 42, .int x1, .int (bi x2), .null] [] h (f_X5_readCondition rc_X5_readCondition rc_X5_readTruth rc_X5_readUnit rc_X5_readNested x1 x2 h)
  unfold f_X5_readCondition
  refine B_aload_n dX5_readCondition_0 rfl rfl ?_
  refine B_iload_n dX5_readCondition_1 rfl rfl ?_
  refine B_iload_n dX5_readCondition_2 rfl rfl ?_
  refine B_VC (st := []) dX5_readCondition_3 cl_X5_72 (hrc_X5_readTruth x1 x2 h) (by omega) shC_42 rfl rfl (Nat.le_of_ble_eq_true rfl) (fun v1 h2 _ => ?_)
  refine C_ifb_ne (tgt := 11) dX5_readCondition_6 (by decide) (fun q3 => ?_) (fun q3 => ?_)
  · refine B_iconst dX5_readCondition_11 ic_0 ?_
    refine B_istore_n (ls' := [.ref 42, .int x1, .int (bi x2), .int 0]) dX5_readCondition_12 rfl (Nat.le_of_ble_eq_true rfl) rfl rfl ?_
    refine B_drop 2 (ls' := [.ref 42, .int x1, .null, .int 0]) rfl ?_
    exact b_X5_readCondition_L13 hDr hrc_X5_readCondition hrc_X5_readTruth hrc_X5_readUnit hrc_X5_readNested dFu x1 0 h2
  · refine B_iconst dX5_readCondition_9 ic_0 ?_
    exact B_zreturn dX5_readCondition_10 rfl rfl rfl
def f_X5_readTruth_L13 (rc_X5_readCondition : Int32 → Bool → dH → Option (Bool × dH)) (rc_X5_readTruth : Int32 → Bool → dH → Option (Bool × dH)) (rc_X5_readUnit : Int32 → Bool → dH → Option (Bool × dH)) (rc_X5_readNested : Int32 → dH → Option (Bool × dH)) : Nat → Int32 → Int32 → dH → Option (Bool × dH)
  | 0, _, _, _ => none
  | n + 1, y1, y3, h =>
    if y3 < 240 then
    (f_X9_take 38 h).bind fun rv4 =>
    if rv4.1 then
    (rc_X5_readUnit y1 false rv4.2).bind fun rv6 =>
    if rv6.1 then
    (f_X5_add (-38) rv6.2).bind fun h9 =>
    (f_X5_readTruth_L13 rc_X5_readCondition rc_X5_readTruth rc_X5_readUnit rc_X5_readNested n) y1 (y3 + 1) h9
    else
    some (false, rv6.2)
    else
    some (true, rv4.2)
    else
    some (true, h)
set_option maxRecDepth 20000 in
set_option maxHeartbeats 4000000 in
theorem b_X5_readTruth_L13 {Dr : Nat} {rc_X5_readCondition : Int32 → Bool → dH → Option (Bool × dH)} {rc_X5_readTruth : Int32 → Bool → dH → Option (Bool × dH)} {rc_X5_readUnit : Int32 → Bool → dH → Option (Bool × dH)} {rc_X5_readNested : Int32 → dH → Option (Bool × dH)} (hDr : 39 ≤ Dr) (hrc_X5_readCondition : ∀ (x1 : Int32) (x2 : Bool) (h : dH), T XC Dr yX5_readCondition cX5_readCondition 4 (some .boolean) fiC [.ref 42, .int x1, .int (bi x2)] h (rc_X5_readCondition x1 x2 h)) (hrc_X5_readTruth : ∀ (x1 : Int32) (x2 : Bool) (h : dH), T XC Dr yX5_readTruth cX5_readTruth 4 (some .boolean) fiC [.ref 42, .int x1, .int (bi x2)] h (rc_X5_readTruth x1 x2 h)) (hrc_X5_readUnit : ∀ (x1 : Int32) (x2 : Bool) (h : dH), T XC Dr yX5_readUnit cX5_readUnit 4 (some .boolean) fiC [.ref 42, .int x1, .int (bi x2)] h (rc_X5_readUnit x1 x2 h)) (hrc_X5_readNested : ∀ (x1 : Int32) (h : dH), T XC Dr yX5_readNested cX5_readNested 2 (some .boolean) fiC [.ref 42, .int x1] h (rc_X5_readNested x1 h)) : ∀ (n : Nat) (y1 : Int32) (y3 : Int32) (h : dH), B XC (Dr + 1) RX5 cX5_readTruth 4 (some .boolean) fiC 13 [.ref 42, .int y1, .null, .int y3] [] h (f_X5_readTruth_L13 rc_X5_readCondition rc_X5_readTruth rc_X5_readUnit rc_X5_readNested n y1 y3 h) := by
  intro n
  induction n with
  | zero =>
    intro y1 y3 h
    exact B_none
  | succ n ih =>
    intro y1 y3 h
    rw [f_X5_readTruth_L13]
    refine B_iload_n dX5_readTruth_13 rfl rfl ?_
    refine B_sipush dX5_readTruth_14 sp_240 ?_
    refine C_icmp_ge (tgt := 55) dX5_readTruth_17 (by decide) (fun q12 => ?_) (fun q12 => ?_)
    · refine B_iconst dX5_readTruth_55 ic_1 ?_
      exact B_zreturn dX5_readTruth_56 rfl rfl rfl
    · refine B_aload_n dX5_readTruth_20 rfl rfl ?_
      refine B_getR dX5_readTruth_21 fl_X5_30 shC_42 rfl (rfC_42_3 _) ?_
      refine B_bipush dX5_readTruth_24 bp_38 ?_
      refine B_VC (st := []) dX5_readTruth_26 cl_X5_50 (t_X9_take 38 h) (by omega) shC_1 rfl rfl (Nat.le_of_ble_eq_true rfl) (fun v4 h5 _ => ?_)
      refine C_ifb_eq (tgt := 55) dX5_readTruth_29 (by decide) (fun q11 => ?_) (fun q11 => ?_)
      · refine B_iconst dX5_readTruth_55 ic_1 ?_
        exact B_zreturn dX5_readTruth_56 rfl rfl rfl
      · refine B_aload_n dX5_readTruth_32 rfl rfl ?_
        refine B_iload_n dX5_readTruth_33 rfl rfl ?_
        refine B_iconst dX5_readTruth_34 ic_0 ?_
        refine B_VC (st := []) dX5_readTruth_35 cl_X5_75 (hrc_X5_readUnit y1 false h5) (by omega) shC_42 rfl rfl (Nat.le_of_ble_eq_true rfl) (fun v6 h7 _ => ?_)
        refine C_ifb_ne (tgt := 43) dX5_readTruth_38 (by decide) (fun q10 => ?_) (fun q10 => ?_)
        · refine B_aload_n dX5_readTruth_43 rfl rfl ?_
          refine B_bipush dX5_readTruth_44 bp_m38 ?_
          refine B_VV (st := []) dX5_readTruth_46 cl_X5_68 (t_X5_add (-38) h7) (by omega) shC_42 rfl rfl (Nat.le_of_ble_eq_true rfl) (fun h9 _ => ?_)
          refine B_iinc (w := (y3 + 1)) (ls' := [.ref 42, .int y1, .null, .int (y3 + 1)]) dX5_readTruth_49 rfl (congrArg (fun z => y3 + z) ic_1) (Nat.le_of_ble_eq_true rfl) rfl rfl ?_
          refine B_goto (tgt := 13) dX5_readTruth_52 (by decide) ?_
          exact ih y1 (y3 + 1)  h9
        · refine B_iconst dX5_readTruth_41 ic_0 ?_
          exact B_zreturn dX5_readTruth_42 rfl rfl rfl
def f_X5_readTruth (rc_X5_readCondition : Int32 → Bool → dH → Option (Bool × dH)) (rc_X5_readTruth : Int32 → Bool → dH → Option (Bool × dH)) (rc_X5_readUnit : Int32 → Bool → dH → Option (Bool × dH)) (rc_X5_readNested : Int32 → dH → Option (Bool × dH)) (x1 : Int32) (x2 : Bool) (h : dH) : Option (Bool × dH) :=
  (rc_X5_readUnit x1 x2 h).bind fun rv1 =>
  if rv1.1 then
  f_X5_readTruth_L13 rc_X5_readCondition rc_X5_readTruth rc_X5_readUnit rc_X5_readNested dFu x1 0 rv1.2
  else
  some (false, rv1.2)
set_option maxRecDepth 20000 in
set_option maxHeartbeats 4000000 in
theorem t_X5_readTruth {Dr : Nat} {rc_X5_readCondition : Int32 → Bool → dH → Option (Bool × dH)} {rc_X5_readTruth : Int32 → Bool → dH → Option (Bool × dH)} {rc_X5_readUnit : Int32 → Bool → dH → Option (Bool × dH)} {rc_X5_readNested : Int32 → dH → Option (Bool × dH)} (hDr : 39 ≤ Dr) (hrc_X5_readCondition : ∀ (x1 : Int32) (x2 : Bool) (h : dH), T XC Dr yX5_readCondition cX5_readCondition 4 (some .boolean) fiC [.ref 42, .int x1, .int (bi x2)] h (rc_X5_readCondition x1 x2 h)) (hrc_X5_readTruth : ∀ (x1 : Int32) (x2 : Bool) (h : dH), T XC Dr yX5_readTruth cX5_readTruth 4 (some .boolean) fiC [.ref 42, .int x1, .int (bi x2)] h (rc_X5_readTruth x1 x2 h)) (hrc_X5_readUnit : ∀ (x1 : Int32) (x2 : Bool) (h : dH), T XC Dr yX5_readUnit cX5_readUnit 4 (some .boolean) fiC [.ref 42, .int x1, .int (bi x2)] h (rc_X5_readUnit x1 x2 h)) (hrc_X5_readNested : ∀ (x1 : Int32) (h : dH), T XC Dr yX5_readNested cX5_readNested 2 (some .boolean) fiC [.ref 42, .int x1] h (rc_X5_readNested x1 h)) (x1 : Int32) (x2 : Bool) (h : dH) : T XC (Dr + 1) yX5_readTruth cX5_readTruth 4 (some .boolean) fiC [.ref 42, .int x1, .int (bi x2)] h (f_X5_readTruth rc_X5_readCondition rc_X5_readTruth rc_X5_readUnit rc_X5_readNested x1 x2 h) := by
  refine T_of [.ref 42, .int x1, .int (bi x2), .null] (by decide) (fun _ => rfl) (fun _ => Nat.le_of_ble_eq_true rfl) ?_
  show B XC (Dr + 1) RX5 cX5_readTruth 4 (some .boolean) fiC 0 [.ref 42, .int x1, .int (bi x2), .null] [] h (f_X5_readTruth rc_X5_readCondition rc_X5_readTruth rc_X5_readUnit rc_X5_readNested x1 x2 h)
  unfold f_X5_readTruth
  refine B_aload_n dX5_readTruth_0 rfl rfl ?_
  refine B_iload_n dX5_readTruth_1 rfl rfl ?_
  refine B_iload_n dX5_readTruth_2 rfl rfl ?_
  refine B_VC (st := []) dX5_readTruth_3 cl_X5_75 (hrc_X5_readUnit x1 x2 h) (by omega) shC_42 rfl rfl (Nat.le_of_ble_eq_true rfl) (fun v1 h2 _ => ?_)
  refine C_ifb_ne (tgt := 11) dX5_readTruth_6 (by decide) (fun q3 => ?_) (fun q3 => ?_)
  · refine B_iconst dX5_readTruth_11 ic_0 ?_
    refine B_istore_n (ls' := [.ref 42, .int x1, .int (bi x2), .int 0]) dX5_readTruth_12 rfl (Nat.le_of_ble_eq_true rfl) rfl rfl ?_
    refine B_drop 2 (ls' := [.ref 42, .int x1, .null, .int 0]) rfl ?_
    exact b_X5_readTruth_L13 hDr hrc_X5_readCondition hrc_X5_readTruth hrc_X5_readUnit hrc_X5_readNested dFu x1 0 h2
  · refine B_iconst dX5_readTruth_9 ic_0 ?_
    exact B_zreturn dX5_readTruth_10 rfl rfl rfl
def f_X5_readUnit_J37 (rc_X5_readCondition : Int32 → Bool → dH → Option (Bool × dH)) (rc_X5_readTruth : Int32 → Bool → dH → Option (Bool × dH)) (rc_X5_readUnit : Int32 → Bool → dH → Option (Bool × dH)) (rc_X5_readNested : Int32 → dH → Option (Bool × dH)) (y1 : Int32) (h : dH) : Option (Bool × dH) :=
  (f_X9_sign h).bind fun rv11 =>
  if (f_X5_isComparing rv11.1 rv11.2) then
  (some (dPut rv11.2 1 2 ((rv11.2.1 1 2) + 1))).bind fun h13 =>
  ((r_X5_readSum 30) y1 h13).bind fun rv14 =>
  if rv14.1 then
  (f_X5_add (-rv11.1) rv14.2).bind fun h17 =>
  some (true, h17)
  else
  some (false, rv14.2)
  else
  some (false, rv11.2)
set_option maxRecDepth 20000 in
set_option maxHeartbeats 4000000 in
theorem b_X5_readUnit_J37 {Dr : Nat} {rc_X5_readCondition : Int32 → Bool → dH → Option (Bool × dH)} {rc_X5_readTruth : Int32 → Bool → dH → Option (Bool × dH)} {rc_X5_readUnit : Int32 → Bool → dH → Option (Bool × dH)} {rc_X5_readNested : Int32 → dH → Option (Bool × dH)} (hDr : 39 ≤ Dr) (hrc_X5_readCondition : ∀ (x1 : Int32) (x2 : Bool) (h : dH), T XC Dr yX5_readCondition cX5_readCondition 4 (some .boolean) fiC [.ref 42, .int x1, .int (bi x2)] h (rc_X5_readCondition x1 x2 h)) (hrc_X5_readTruth : ∀ (x1 : Int32) (x2 : Bool) (h : dH), T XC Dr yX5_readTruth cX5_readTruth 4 (some .boolean) fiC [.ref 42, .int x1, .int (bi x2)] h (rc_X5_readTruth x1 x2 h)) (hrc_X5_readUnit : ∀ (x1 : Int32) (x2 : Bool) (h : dH), T XC Dr yX5_readUnit cX5_readUnit 4 (some .boolean) fiC [.ref 42, .int x1, .int (bi x2)] h (rc_X5_readUnit x1 x2 h)) (hrc_X5_readNested : ∀ (x1 : Int32) (h : dH), T XC Dr yX5_readNested cX5_readNested 2 (some .boolean) fiC [.ref 42, .int x1] h (rc_X5_readNested x1 h)) (y1 : Int32) (h : dH) : B XC (Dr + 1) RX5 cX5_readUnit 4 (some .boolean) fiC 37 [.ref 42, .int y1, .null, .null] [] h (f_X5_readUnit_J37 rc_X5_readCondition rc_X5_readTruth rc_X5_readUnit rc_X5_readNested y1 h) := by
  unfold f_X5_readUnit_J37
  refine B_aload_n dX5_readUnit_37 rfl rfl ?_
  refine B_getR dX5_readUnit_38 fl_X5_30 shC_42 rfl (rfC_42_3 _) ?_
  refine B_VI (st := []) dX5_readUnit_41 cl_X5_46 (t_X9_sign h) (by omega) shC_1 rfl rfl (Nat.le_of_ble_eq_true rfl) (fun v11 h12 _ => ?_)
  refine B_istore_n (ls' := [.ref 42, .int y1, .null, .int v11]) dX5_readUnit_44 rfl (Nat.le_of_ble_eq_true rfl) rfl rfl ?_
  refine B_iload_n dX5_readUnit_45 rfl rfl ?_
  refine B_STb (st := []) dX5_readUnit_46 cl_X5_61 (t_X5_isComparing v11 h12) (by omega) rfl rfl (Nat.le_of_ble_eq_true rfl) ?_
  refine C_ifb_ne (tgt := 54) dX5_readUnit_49 (by decide) (fun q19 => ?_) (fun q19 => ?_)
  · refine B_aload_n dX5_readUnit_54 rfl rfl ?_
    refine B_getR dX5_readUnit_55 fl_X5_30 shC_42 rfl (rfC_42_3 _) ?_
    refine B_dup dX5_readUnit_58 rfl ?_
    refine B_getI dX5_readUnit_59 fl_X5_37 shC_1 rfl ?_
    refine B_iconst dX5_readUnit_62 ic_1 ?_
    refine B_iadd dX5_readUnit_63 ?_
    refine B_putI dX5_readUnit_64 fl_X5_37 fw_X9_2 shC_1 rfl ?_
    refine B_lh (fun h13 => ?_)
    refine B_aload_n dX5_readUnit_67 rfl rfl ?_
    refine B_iload_n dX5_readUnit_68 rfl rfl ?_
    refine B_VC (st := []) dX5_readUnit_69 cl_X5_58 (t_X5_readSum_r y1 h13) (by omega) shC_42 rfl rfl (Nat.le_of_ble_eq_true rfl) (fun v14 h15 _ => ?_)
    refine C_ifb_ne (tgt := 77) dX5_readUnit_72 (by decide) (fun q18 => ?_) (fun q18 => ?_)
    · refine B_aload_n dX5_readUnit_77 rfl rfl ?_
      refine B_iload_n dX5_readUnit_78 rfl rfl ?_
      refine B_ineg dX5_readUnit_79 ?_
      refine B_VV (st := []) dX5_readUnit_80 cl_X5_68 (t_X5_add (-v11) h15) (by omega) shC_42 rfl rfl (Nat.le_of_ble_eq_true rfl) (fun h17 _ => ?_)
      refine B_iconst dX5_readUnit_83 ic_1 ?_
      exact B_zreturn dX5_readUnit_84 rfl rfl rfl
    · refine B_iconst dX5_readUnit_75 ic_0 ?_
      exact B_zreturn dX5_readUnit_76 rfl rfl rfl
  · refine B_iconst dX5_readUnit_52 ic_0 ?_
    exact B_zreturn dX5_readUnit_53 rfl rfl rfl
def f_X5_readUnit_J23 (rc_X5_readCondition : Int32 → Bool → dH → Option (Bool × dH)) (rc_X5_readTruth : Int32 → Bool → dH → Option (Bool × dH)) (rc_X5_readUnit : Int32 → Bool → dH → Option (Bool × dH)) (rc_X5_readNested : Int32 → dH → Option (Bool × dH)) (y1 : Int32) (y2 : Bool) (h : dH) : Option (Bool × dH) :=
  if y2 then
  f_X5_readUnit_J37 rc_X5_readCondition rc_X5_readTruth rc_X5_readUnit rc_X5_readNested y1 h
  else
  ((r_X5_readSum 30) y1 h).bind fun rv7 =>
  if rv7.1 then
  f_X5_readUnit_J37 rc_X5_readCondition rc_X5_readTruth rc_X5_readUnit rc_X5_readNested y1 rv7.2
  else
  some (false, rv7.2)
set_option maxRecDepth 20000 in
set_option maxHeartbeats 4000000 in
theorem b_X5_readUnit_J23 {Dr : Nat} {rc_X5_readCondition : Int32 → Bool → dH → Option (Bool × dH)} {rc_X5_readTruth : Int32 → Bool → dH → Option (Bool × dH)} {rc_X5_readUnit : Int32 → Bool → dH → Option (Bool × dH)} {rc_X5_readNested : Int32 → dH → Option (Bool × dH)} (hDr : 39 ≤ Dr) (hrc_X5_readCondition : ∀ (x1 : Int32) (x2 : Bool) (h : dH), T XC Dr yX5_readCondition cX5_readCondition 4 (some .boolean) fiC [.ref 42, .int x1, .int (bi x2)] h (rc_X5_readCondition x1 x2 h)) (hrc_X5_readTruth : ∀ (x1 : Int32) (x2 : Bool) (h : dH), T XC Dr yX5_readTruth cX5_readTruth 4 (some .boolean) fiC [.ref 42, .int x1, .int (bi x2)] h (rc_X5_readTruth x1 x2 h)) (hrc_X5_readUnit : ∀ (x1 : Int32) (x2 : Bool) (h : dH), T XC Dr yX5_readUnit cX5_readUnit 4 (some .boolean) fiC [.ref 42, .int x1, .int (bi x2)] h (rc_X5_readUnit x1 x2 h)) (hrc_X5_readNested : ∀ (x1 : Int32) (h : dH), T XC Dr yX5_readNested cX5_readNested 2 (some .boolean) fiC [.ref 42, .int x1] h (rc_X5_readNested x1 h)) (y1 : Int32) (y2 : Bool) (h : dH) : B XC (Dr + 1) RX5 cX5_readUnit 4 (some .boolean) fiC 23 [.ref 42, .int y1, .int (bi y2), .null] [] h (f_X5_readUnit_J23 rc_X5_readCondition rc_X5_readTruth rc_X5_readUnit rc_X5_readNested y1 y2 h) := by
  unfold f_X5_readUnit_J23
  refine B_iload_n dX5_readUnit_23 rfl rfl ?_
  refine C_ifb_ne (tgt := 37) dX5_readUnit_24 (by decide) (fun q10 => ?_) (fun q10 => ?_)
  · refine B_drop 2 (ls' := [.ref 42, .int y1, .null, .null]) rfl ?_
    exact b_X5_readUnit_J37 hDr hrc_X5_readCondition hrc_X5_readTruth hrc_X5_readUnit hrc_X5_readNested y1 h
  · refine B_aload_n dX5_readUnit_27 rfl rfl ?_
    refine B_iload_n dX5_readUnit_28 rfl rfl ?_
    refine B_VC (st := []) dX5_readUnit_29 cl_X5_58 (t_X5_readSum_r y1 h) (by omega) shC_42 rfl rfl (Nat.le_of_ble_eq_true rfl) (fun v7 h8 _ => ?_)
    refine C_ifb_ne (tgt := 37) dX5_readUnit_32 (by decide) (fun q9 => ?_) (fun q9 => ?_)
    · refine B_drop 2 (ls' := [.ref 42, .int y1, .null, .null]) rfl ?_
      exact b_X5_readUnit_J37 hDr hrc_X5_readCondition hrc_X5_readTruth hrc_X5_readUnit hrc_X5_readNested y1 h8
    · refine B_iconst dX5_readUnit_35 ic_0 ?_
      exact B_zreturn dX5_readUnit_36 rfl rfl rfl
def f_X5_readUnit (rc_X5_readCondition : Int32 → Bool → dH → Option (Bool × dH)) (rc_X5_readTruth : Int32 → Bool → dH → Option (Bool × dH)) (rc_X5_readUnit : Int32 → Bool → dH → Option (Bool × dH)) (rc_X5_readNested : Int32 → dH → Option (Bool × dH)) (x1 : Int32) (x2 : Bool) (h : dH) : Option (Bool × dH) :=
  if x2 then
  f_X5_readUnit_J23 rc_X5_readCondition rc_X5_readTruth rc_X5_readUnit rc_X5_readNested x1 x2 h
  else
  (f_X9_sign h).bind fun rv1 =>
  if (f_X5_isNesting rv1.1 rv1.2) then
  (rc_X5_readNested x1 rv1.2).bind fun rv3 =>
  some (rv3.1, rv3.2)
  else
  f_X5_readUnit_J23 rc_X5_readCondition rc_X5_readTruth rc_X5_readUnit rc_X5_readNested x1 x2 rv1.2
set_option maxRecDepth 20000 in
set_option maxHeartbeats 4000000 in
theorem t_X5_readUnit {Dr : Nat} {rc_X5_readCondition : Int32 → Bool → dH → Option (Bool × dH)} {rc_X5_readTruth : Int32 → Bool → dH → Option (Bool × dH)} {rc_X5_readUnit : Int32 → Bool → dH → Option (Bool × dH)} {rc_X5_readNested : Int32 → dH → Option (Bool × dH)} (hDr : 39 ≤ Dr) (hrc_X5_readCondition : ∀ (x1 : Int32) (x2 : Bool) (h : dH), T XC Dr yX5_readCondition cX5_readCondition 4 (some .boolean) fiC [.ref 42, .int x1, .int (bi x2)] h (rc_X5_readCondition x1 x2 h)) (hrc_X5_readTruth : ∀ (x1 : Int32) (x2 : Bool) (h : dH), T XC Dr yX5_readTruth cX5_readTruth 4 (some .boolean) fiC [.ref 42, .int x1, .int (bi x2)] h (rc_X5_readTruth x1 x2 h)) (hrc_X5_readUnit : ∀ (x1 : Int32) (x2 : Bool) (h : dH), T XC Dr yX5_readUnit cX5_readUnit 4 (some .boolean) fiC [.ref 42, .int x1, .int (bi x2)] h (rc_X5_readUnit x1 x2 h)) (hrc_X5_readNested : ∀ (x1 : Int32) (h : dH), T XC Dr yX5_readNested cX5_readNested 2 (some .boolean) fiC [.ref 42, .int x1] h (rc_X5_readNested x1 h)) (x1 : Int32) (x2 : Bool) (h : dH) : T XC (Dr + 1) yX5_readUnit cX5_readUnit 4 (some .boolean) fiC [.ref 42, .int x1, .int (bi x2)] h (f_X5_readUnit rc_X5_readCondition rc_X5_readTruth rc_X5_readUnit rc_X5_readNested x1 x2 h) := by
  refine T_of [.ref 42, .int x1, .int (bi x2), .null] (by decide) (fun _ => rfl) (fun _ => Nat.le_of_ble_eq_true rfl) ?_
  show B XC (Dr + 1) RX5 cX5_readUnit 4 (some .boolean) fiC 0 [.ref 42, .int x1, .int (bi x2), .null] [] h (f_X5_readUnit rc_X5_readCondition rc_X5_readTruth rc_X5_readUnit rc_X5_readNested x1 x2 h)
  unfold f_X5_readUnit
  refine B_iload_n dX5_readUnit_0 rfl rfl ?_
  refine C_ifb_ne (tgt := 23) dX5_readUnit_1 (by decide) (fun q6 => ?_) (fun q6 => ?_)
  · exact b_X5_readUnit_J23 hDr hrc_X5_readCondition hrc_X5_readTruth hrc_X5_readUnit hrc_X5_readNested x1 x2 h
  · refine B_aload_n dX5_readUnit_4 rfl rfl ?_
    refine B_getR dX5_readUnit_5 fl_X5_30 shC_42 rfl (rfC_42_3 _) ?_
    refine B_VI (st := []) dX5_readUnit_8 cl_X5_46 (t_X9_sign h) (by omega) shC_1 rfl rfl (Nat.le_of_ble_eq_true rfl) (fun v1 h2 _ => ?_)
    refine B_STb (st := []) dX5_readUnit_11 cl_X5_54 (t_X5_isNesting v1 h2) (by omega) rfl rfl (Nat.le_of_ble_eq_true rfl) ?_
    refine C_ifb_eq (tgt := 23) dX5_readUnit_14 (by decide) (fun q5 => ?_) (fun q5 => ?_)
    · exact b_X5_readUnit_J23 hDr hrc_X5_readCondition hrc_X5_readTruth hrc_X5_readUnit hrc_X5_readNested x1 x2 h2
    · refine B_aload_n dX5_readUnit_17 rfl rfl ?_
      refine B_iload_n dX5_readUnit_18 rfl rfl ?_
      refine B_VC (st := []) dX5_readUnit_19 cl_X5_78 (hrc_X5_readNested x1 h2) (by omega) shC_42 rfl rfl (Nat.le_of_ble_eq_true rfl) (fun v3 h4 _ => ?_)
      exact B_zreturn dX5_readUnit_22 rfl (nar_bi v3) rfl
def f_X5_readNested (rc_X5_readCondition : Int32 → Bool → dH → Option (Bool × dH)) (rc_X5_readTruth : Int32 → Bool → dH → Option (Bool × dH)) (rc_X5_readUnit : Int32 → Bool → dH → Option (Bool × dH)) (rc_X5_readNested : Int32 → dH → Option (Bool × dH)) (x1 : Int32) (h : dH) : Option (Bool × dH) :=
  if x1 < 6 then
  (f_X9_take 40 h).bind fun rv1 =>
  if rv1.1 then
  (rc_X5_readCondition (x1 + 1) false rv1.2).bind fun rv11 =>
  if rv11.1 then
  (f_X9_take 41 rv11.2).bind fun rv13 =>
  if rv13.1 then
  some (true, rv13.2)
  else
  some (false, rv13.2)
  else
  some (false, rv11.2)
  else
  (f_X9_take 33 rv1.2).bind fun rv3 =>
  if rv3.1 then
  (rc_X5_readUnit (x1 + 1) false rv3.2).bind fun rv5 =>
  if rv5.1 then
  (f_X5_add (-33) rv5.2).bind fun h8 =>
  some (true, h8)
  else
  some (false, rv5.2)
  else
  some (false, rv3.2)
  else
  some (false, h)
set_option maxRecDepth 20000 in
set_option maxHeartbeats 4000000 in
theorem t_X5_readNested {Dr : Nat} {rc_X5_readCondition : Int32 → Bool → dH → Option (Bool × dH)} {rc_X5_readTruth : Int32 → Bool → dH → Option (Bool × dH)} {rc_X5_readUnit : Int32 → Bool → dH → Option (Bool × dH)} {rc_X5_readNested : Int32 → dH → Option (Bool × dH)} (hDr : 39 ≤ Dr) (hrc_X5_readCondition : ∀ (x1 : Int32) (x2 : Bool) (h : dH), T XC Dr yX5_readCondition cX5_readCondition 4 (some .boolean) fiC [.ref 42, .int x1, .int (bi x2)] h (rc_X5_readCondition x1 x2 h)) (hrc_X5_readTruth : ∀ (x1 : Int32) (x2 : Bool) (h : dH), T XC Dr yX5_readTruth cX5_readTruth 4 (some .boolean) fiC [.ref 42, .int x1, .int (bi x2)] h (rc_X5_readTruth x1 x2 h)) (hrc_X5_readUnit : ∀ (x1 : Int32) (x2 : Bool) (h : dH), T XC Dr yX5_readUnit cX5_readUnit 4 (some .boolean) fiC [.ref 42, .int x1, .int (bi x2)] h (rc_X5_readUnit x1 x2 h)) (hrc_X5_readNested : ∀ (x1 : Int32) (h : dH), T XC Dr yX5_readNested cX5_readNested 2 (some .boolean) fiC [.ref 42, .int x1] h (rc_X5_readNested x1 h)) (x1 : Int32) (h : dH) : T XC (Dr + 1) yX5_readNested cX5_readNested 2 (some .boolean) fiC [.ref 42, .int x1] h (f_X5_readNested rc_X5_readCondition rc_X5_readTruth rc_X5_readUnit rc_X5_readNested x1 h) := by
  refine T_of [.ref 42, .int x1] (by decide) (fun _ => rfl) (fun _ => Nat.le_of_ble_eq_true rfl) ?_
  show B XC (Dr + 1) RX5 cX5_readNested 2 (some .boolean) fiC 0 [.ref 42, .int x1] [] h (f_X5_readNested rc_X5_readCondition rc_X5_readTruth rc_X5_readUnit rc_X5_readNested x1 h)
  unfold f_X5_readNested
  refine B_iload_n dX5_readNested_0 rfl rfl ?_
  refine B_bipush dX5_readNested_1 bp_6 ?_
  refine C_icmp_lt (tgt := 8) dX5_readNested_3 (by decide) (fun q18 => ?_) (fun q18 => ?_)
  · refine B_aload_n dX5_readNested_8 rfl rfl ?_
    refine B_getR dX5_readNested_9 fl_X5_30 shC_42 rfl (rfC_42_3 _) ?_
    refine B_bipush dX5_readNested_12 bp_40 ?_
    refine B_VC (st := []) dX5_readNested_14 cl_X5_50 (t_X9_take 40 h) (by omega) shC_1 rfl rfl (Nat.le_of_ble_eq_true rfl) (fun v1 h2 _ => ?_)
    refine C_ifb_eq (tgt := 49) dX5_readNested_17 (by decide) (fun q17 => ?_) (fun q17 => ?_)
    · refine B_aload_n dX5_readNested_49 rfl rfl ?_
      refine B_getR dX5_readNested_50 fl_X5_30 shC_42 rfl (rfC_42_3 _) ?_
      refine B_bipush dX5_readNested_53 bp_33 ?_
      refine B_VC (st := []) dX5_readNested_55 cl_X5_50 (t_X9_take 33 h2) (by omega) shC_1 rfl rfl (Nat.le_of_ble_eq_true rfl) (fun v3 h4 _ => ?_)
      refine C_ifb_eq (tgt := 72) dX5_readNested_58 (by decide) (fun q10 => ?_) (fun q10 => ?_)
      · refine B_iconst dX5_readNested_72 ic_0 ?_
        exact B_zreturn dX5_readNested_73 rfl rfl rfl
      · refine B_aload_n dX5_readNested_61 rfl rfl ?_
        refine B_iload_n dX5_readNested_62 rfl rfl ?_
        refine B_iconst dX5_readNested_63 ic_1 ?_
        refine B_iadd dX5_readNested_64 ?_
        refine B_iconst dX5_readNested_65 ic_0 ?_
        refine B_VC (st := []) dX5_readNested_66 cl_X5_75 (hrc_X5_readUnit (x1 + 1) false h4) (by omega) shC_42 rfl rfl (Nat.le_of_ble_eq_true rfl) (fun v5 h6 _ => ?_)
        refine C_ifb_ne (tgt := 74) dX5_readNested_69 (by decide) (fun q9 => ?_) (fun q9 => ?_)
        · refine B_aload_n dX5_readNested_74 rfl rfl ?_
          refine B_bipush dX5_readNested_75 bp_m33 ?_
          refine B_VV (st := []) dX5_readNested_77 cl_X5_68 (t_X5_add (-33) h6) (by omega) shC_42 rfl rfl (Nat.le_of_ble_eq_true rfl) (fun h8 _ => ?_)
          refine B_iconst dX5_readNested_80 ic_1 ?_
          exact B_zreturn dX5_readNested_81 rfl rfl rfl
        · refine B_iconst dX5_readNested_72 ic_0 ?_
          exact B_zreturn dX5_readNested_73 rfl rfl rfl
    · refine B_aload_n dX5_readNested_20 rfl rfl ?_
      refine B_iload_n dX5_readNested_21 rfl rfl ?_
      refine B_iconst dX5_readNested_22 ic_1 ?_
      refine B_iadd dX5_readNested_23 ?_
      refine B_iconst dX5_readNested_24 ic_0 ?_
      refine B_VC (st := []) dX5_readNested_25 cl_X5_64 (hrc_X5_readCondition (x1 + 1) false h2) (by omega) shC_42 rfl rfl (Nat.le_of_ble_eq_true rfl) (fun v11 h12 _ => ?_)
      refine C_ifb_eq (tgt := 47) dX5_readNested_28 (by decide) (fun q16 => ?_) (fun q16 => ?_)
      · refine B_iconst dX5_readNested_47 ic_0 ?_
        exact B_zreturn dX5_readNested_48 rfl rfl rfl
      · refine B_aload_n dX5_readNested_31 rfl rfl ?_
        refine B_getR dX5_readNested_32 fl_X5_30 shC_42 rfl (rfC_42_3 _) ?_
        refine B_bipush dX5_readNested_35 bp_41 ?_
        refine B_VC (st := []) dX5_readNested_37 cl_X5_50 (t_X9_take 41 h12) (by omega) shC_1 rfl rfl (Nat.le_of_ble_eq_true rfl) (fun v13 h14 _ => ?_)
        refine C_ifb_eq (tgt := 47) dX5_readNested_40 (by decide) (fun q15 => ?_) (fun q15 => ?_)
        · refine B_iconst dX5_readNested_47 ic_0 ?_
          exact B_zreturn dX5_readNested_48 rfl rfl rfl
        · refine B_iconst dX5_readNested_43 ic_1 ?_
          refine B_goto (tgt := 48) dX5_readNested_44 (by decide) ?_
          exact B_zreturn dX5_readNested_48 rfl rfl rfl
  · refine B_iconst dX5_readNested_6 ic_0 ?_
    exact B_zreturn dX5_readNested_7 rfl rfl rfl
def g_X5_readCondition : Nat → (Int32 → Bool → dH → Option (Bool × dH)) × (Int32 → Bool → dH → Option (Bool × dH)) × (Int32 → Bool → dH → Option (Bool × dH)) × (Int32 → dH → Option (Bool × dH))
  | 0 => (fun _ _ _ => none, fun _ _ _ => none, fun _ _ _ => none, fun _ _ => none)
  | n + 1 => (f_X5_readCondition (g_X5_readCondition n).1 (g_X5_readCondition n).2.1 (g_X5_readCondition n).2.2.1 (g_X5_readCondition n).2.2.2, f_X5_readTruth (g_X5_readCondition n).1 (g_X5_readCondition n).2.1 (g_X5_readCondition n).2.2.1 (g_X5_readCondition n).2.2.2, f_X5_readUnit (g_X5_readCondition n).1 (g_X5_readCondition n).2.1 (g_X5_readCondition n).2.2.1 (g_X5_readCondition n).2.2.2, f_X5_readNested (g_X5_readCondition n).1 (g_X5_readCondition n).2.1 (g_X5_readCondition n).2.2.1 (g_X5_readCondition n).2.2.2)
def r_X5_readCondition (n : Nat) : Int32 → Bool → dH → Option (Bool × dH) := (g_X5_readCondition n).1
def r_X5_readTruth (n : Nat) : Int32 → Bool → dH → Option (Bool × dH) := (g_X5_readCondition n).2.1
def r_X5_readUnit (n : Nat) : Int32 → Bool → dH → Option (Bool × dH) := (g_X5_readCondition n).2.2.1
def r_X5_readNested (n : Nat) : Int32 → dH → Option (Bool × dH) := (g_X5_readCondition n).2.2.2
set_option maxRecDepth 20000 in
set_option maxHeartbeats 4000000 in
theorem t_g_X5_readCondition : ∀ n : Nat, (∀ (x1 : Int32) (x2 : Bool) (h : dH), T XC (39 + n) yX5_readCondition cX5_readCondition 4 (some .boolean) fiC [.ref 42, .int x1, .int (bi x2)] h (r_X5_readCondition n x1 x2 h)) ∧ (∀ (x1 : Int32) (x2 : Bool) (h : dH), T XC (39 + n) yX5_readTruth cX5_readTruth 4 (some .boolean) fiC [.ref 42, .int x1, .int (bi x2)] h (r_X5_readTruth n x1 x2 h)) ∧ (∀ (x1 : Int32) (x2 : Bool) (h : dH), T XC (39 + n) yX5_readUnit cX5_readUnit 4 (some .boolean) fiC [.ref 42, .int x1, .int (bi x2)] h (r_X5_readUnit n x1 x2 h)) ∧ (∀ (x1 : Int32) (h : dH), T XC (39 + n) yX5_readNested cX5_readNested 2 (some .boolean) fiC [.ref 42, .int x1] h (r_X5_readNested n x1 h)) := by
  intro n
  induction n with
  | zero =>
    exact ⟨fun _ _ _ => T_none, fun _ _ _ => T_none, fun _ _ _ => T_none, fun _ _ => T_none⟩
  | succ n ih =>
    exact ⟨fun x1 x2 h => (t_X5_readCondition (Nat.le_add_right 39 n) ih.1 ih.2.1 ih.2.2.1 ih.2.2.2 x1 x2 h : T _ (39 + n + 1) _ _ _ _ _ _ _ _), fun x1 x2 h => (t_X5_readTruth (Nat.le_add_right 39 n) ih.1 ih.2.1 ih.2.2.1 ih.2.2.2 x1 x2 h : T _ (39 + n + 1) _ _ _ _ _ _ _ _), fun x1 x2 h => (t_X5_readUnit (Nat.le_add_right 39 n) ih.1 ih.2.1 ih.2.2.1 ih.2.2.2 x1 x2 h : T _ (39 + n + 1) _ _ _ _ _ _ _ _), fun x1 h => (t_X5_readNested (Nat.le_add_right 39 n) ih.1 ih.2.1 ih.2.2.1 ih.2.2.2 x1 h : T _ (39 + n + 1) _ _ _ _ _ _ _ _)⟩
theorem t_X5_readCondition_r : ∀ (x1 : Int32) (x2 : Bool) (h : dH), T XC 79 yX5_readCondition cX5_readCondition 4 (some .boolean) fiC [.ref 42, .int x1, .int (bi x2)] h (r_X5_readCondition 40 x1 x2 h) := (t_g_X5_readCondition 40).1
theorem t_X5_readTruth_r : ∀ (x1 : Int32) (x2 : Bool) (h : dH), T XC 79 yX5_readTruth cX5_readTruth 4 (some .boolean) fiC [.ref 42, .int x1, .int (bi x2)] h (r_X5_readTruth 40 x1 x2 h) := (t_g_X5_readCondition 40).2.1
theorem t_X5_readUnit_r : ∀ (x1 : Int32) (x2 : Bool) (h : dH), T XC 79 yX5_readUnit cX5_readUnit 4 (some .boolean) fiC [.ref 42, .int x1, .int (bi x2)] h (r_X5_readUnit 40 x1 x2 h) := (t_g_X5_readCondition 40).2.2.1
theorem t_X5_readNested_r : ∀ (x1 : Int32) (h : dH), T XC 79 yX5_readNested cX5_readNested 2 (some .boolean) fiC [.ref 42, .int x1] h (r_X5_readNested 40 x1 h) := (t_g_X5_readCondition 40).2.2.2
def f_X5_readClause_J115 (h : dH) : Option (Bool × dH) :=
  (f_X5_add (-59) h).bind fun h30 =>
  some (true, h30)
set_option maxRecDepth 20000 in
set_option maxHeartbeats 4000000 in
theorem b_X5_readClause_J115 (h : dH) : B XC 80 RX5 cX5_readClause 2 (some .boolean) fiC 115 [.ref 42, .null] [] h (f_X5_readClause_J115 h) := by
  unfold f_X5_readClause_J115
  refine B_aload_n dX5_readClause_115 rfl rfl ?_
  refine B_bipush dX5_readClause_116 bp_m59 ?_
  refine B_VV (st := []) dX5_readClause_118 cl_X5_68 (t_X5_add (-59) h) (Nat.le_of_ble_eq_true rfl) shC_42 rfl rfl (Nat.le_of_ble_eq_true rfl) (fun h30 _ => ?_)
  refine B_iconst dX5_readClause_121 ic_1 ?_
  exact B_zreturn dX5_readClause_122 rfl rfl rfl
def f_X5_readClause_J76 (y1 : Bool) (h : dH) : Option (Bool × dH) :=
  ((r_X5_readCondition 40) 0 y1 h).bind fun rv18 =>
  if rv18.1 then
  (f_X9_take 63 rv18.2).bind fun rv20 =>
  if rv20.1 then
  (f_X5_add (-63) rv20.2).bind fun h23 =>
  ((r_X5_readSum 30) 0 h23).bind fun rv24 =>
  if rv24.1 then
  f_X5_readClause_J115 rv24.2
  else
  some (false, rv24.2)
  else
  some (false, rv20.2)
  else
  some (false, rv18.2)
set_option maxRecDepth 20000 in
set_option maxHeartbeats 4000000 in
theorem b_X5_readClause_J76 (y1 : Bool) (h : dH) : B XC 80 RX5 cX5_readClause 2 (some .boolean) fiC 76 [.ref 42, .int (bi y1)] [] h (f_X5_readClause_J76 y1 h) := by
  unfold f_X5_readClause_J76
  refine B_aload_n dX5_readClause_76 rfl rfl ?_
  refine B_iconst dX5_readClause_77 ic_0 ?_
  refine B_iload_n dX5_readClause_78 rfl rfl ?_
  refine B_VC (st := []) dX5_readClause_79 cl_X5_64 (t_X5_readCondition_r 0 y1 h) (Nat.le_of_ble_eq_true rfl) shC_42 rfl rfl (Nat.le_of_ble_eq_true rfl) (fun v18 h19 _ => ?_)
  refine C_ifb_eq (tgt := 97) dX5_readClause_82 (by decide) (fun q28 => ?_) (fun q28 => ?_)
  · refine B_iconst dX5_readClause_97 ic_0 ?_
    exact B_zreturn dX5_readClause_98 rfl rfl rfl
  · refine B_aload_n dX5_readClause_85 rfl rfl ?_
    refine B_getR dX5_readClause_86 fl_X5_30 shC_42 rfl (rfC_42_3 _) ?_
    refine B_bipush dX5_readClause_89 bp_63 ?_
    refine B_VC (st := []) dX5_readClause_91 cl_X5_50 (t_X9_take 63 h19) (Nat.le_of_ble_eq_true rfl) shC_1 rfl rfl (Nat.le_of_ble_eq_true rfl) (fun v20 h21 _ => ?_)
    refine C_ifb_ne (tgt := 99) dX5_readClause_94 (by decide) (fun q27 => ?_) (fun q27 => ?_)
    · refine B_aload_n dX5_readClause_99 rfl rfl ?_
      refine B_bipush dX5_readClause_100 bp_m63 ?_
      refine B_VV (st := []) dX5_readClause_102 cl_X5_68 (t_X5_add (-63) h21) (Nat.le_of_ble_eq_true rfl) shC_42 rfl rfl (Nat.le_of_ble_eq_true rfl) (fun h23 _ => ?_)
      refine B_aload_n dX5_readClause_105 rfl rfl ?_
      refine B_iconst dX5_readClause_106 ic_0 ?_
      refine B_VC (st := []) dX5_readClause_107 cl_X5_58 (t_X5_readSum_r 0 h23) (Nat.le_of_ble_eq_true rfl) shC_42 rfl rfl (Nat.le_of_ble_eq_true rfl) (fun v24 h25 _ => ?_)
      refine C_ifb_ne (tgt := 115) dX5_readClause_110 (by decide) (fun q26 => ?_) (fun q26 => ?_)
      · refine B_drop 1 (ls' := [.ref 42, .null]) rfl ?_
        exact b_X5_readClause_J115 h25
      · refine B_iconst dX5_readClause_113 ic_0 ?_
        exact B_zreturn dX5_readClause_114 rfl rfl rfl
    · refine B_iconst dX5_readClause_97 ic_0 ?_
      exact B_zreturn dX5_readClause_98 rfl rfl rfl
def f_X5_readClause_J59 (y1 : Bool) (h : dH) : Option (Bool × dH) :=
  if y1 then
  (f_X9_sign h).bind fun rv14 =>
  if (f_X5_isComparing rv14.1 rv14.2) then
  f_X5_readClause_J76 y1 rv14.2
  else
  f_X5_readClause_J115 rv14.2
  else
  f_X5_readClause_J76 y1 h
set_option maxRecDepth 20000 in
set_option maxHeartbeats 4000000 in
theorem b_X5_readClause_J59 (y1 : Bool) (h : dH) : B XC 80 RX5 cX5_readClause 2 (some .boolean) fiC 59 [.ref 42, .int (bi y1)] [] h (f_X5_readClause_J59 y1 h) := by
  unfold f_X5_readClause_J59
  refine B_iload_n dX5_readClause_59 rfl rfl ?_
  refine C_ifb_eq (tgt := 76) dX5_readClause_60 (by decide) (fun q17 => ?_) (fun q17 => ?_)
  · exact b_X5_readClause_J76 y1 h
  · refine B_aload_n dX5_readClause_63 rfl rfl ?_
    refine B_getR dX5_readClause_64 fl_X5_30 shC_42 rfl (rfC_42_3 _) ?_
    refine B_VI (st := []) dX5_readClause_67 cl_X5_46 (t_X9_sign h) (Nat.le_of_ble_eq_true rfl) shC_1 rfl rfl (Nat.le_of_ble_eq_true rfl) (fun v14 h15 _ => ?_)
    refine B_STb (st := []) dX5_readClause_70 cl_X5_61 (t_X5_isComparing v14 h15) (Nat.le_of_ble_eq_true rfl) rfl rfl (Nat.le_of_ble_eq_true rfl) ?_
    refine C_ifb_eq (tgt := 115) dX5_readClause_73 (by decide) (fun q16 => ?_) (fun q16 => ?_)
    · refine B_drop 1 (ls' := [.ref 42, .null]) rfl ?_
      exact b_X5_readClause_J115 h15
    · exact b_X5_readClause_J76 y1 h15
def f_X5_readClause_J44 (z0 : Bool) (h : dH) : Option (Bool × dH) :=
  if z0 then
  ((r_X5_readSum 30) 0 h).bind fun rv10 =>
  if rv10.1 then
  f_X5_readClause_J59 z0 rv10.2
  else
  some (false, rv10.2)
  else
  f_X5_readClause_J59 z0 h
set_option maxRecDepth 20000 in
set_option maxHeartbeats 4000000 in
theorem b_X5_readClause_J44 (z0 : Bool) (h : dH) : B XC 80 RX5 cX5_readClause 2 (some .boolean) fiC 44 [.ref 42, .null] [.int (bi z0)] h (f_X5_readClause_J44 z0 h) := by
  unfold f_X5_readClause_J44
  refine B_istore_n (ls' := [.ref 42, .int (bi z0)]) dX5_readClause_44 rfl (Nat.le_of_ble_eq_true rfl) rfl rfl ?_
  refine B_iload_n dX5_readClause_45 rfl rfl ?_
  refine C_ifb_eq (tgt := 59) dX5_readClause_46 (by decide) (fun q13 => ?_) (fun q13 => ?_)
  · exact b_X5_readClause_J59 z0 h
  · refine B_aload_n dX5_readClause_49 rfl rfl ?_
    refine B_iconst dX5_readClause_50 ic_0 ?_
    refine B_VC (st := []) dX5_readClause_51 cl_X5_58 (t_X5_readSum_r 0 h) (Nat.le_of_ble_eq_true rfl) shC_42 rfl rfl (Nat.le_of_ble_eq_true rfl) (fun v10 h11 _ => ?_)
    refine C_ifb_ne (tgt := 59) dX5_readClause_54 (by decide) (fun q12 => ?_) (fun q12 => ?_)
    · exact b_X5_readClause_J59 z0 h11
    · refine B_iconst dX5_readClause_57 ic_0 ?_
      exact B_zreturn dX5_readClause_58 rfl rfl rfl
def f_X5_readClause (h : dH) : Option (Bool × dH) :=
  (f_X9_take 121 h).bind fun rv1 =>
  if rv1.1 then
  (f_X9_take 58 rv1.2).bind fun rv3 =>
  if rv3.1 then
  (f_X9_sign rv3.2).bind fun rv5 =>
  if (f_X5_isNesting rv5.1 rv5.2) then
  f_X5_readClause_J44 false rv5.2
  else
  f_X5_readClause_J44 true rv5.2
  else
  some (false, rv3.2)
  else
  some (false, rv1.2)
set_option maxRecDepth 20000 in
set_option maxHeartbeats 4000000 in
theorem t_X5_readClause (h : dH) : T XC 80 yX5_readClause cX5_readClause 2 (some .boolean) fiC [.ref 42] h (f_X5_readClause h) := by
  refine T_of [.ref 42, .null] (by decide) (fun _ => rfl) (fun _ => Nat.le_of_ble_eq_true rfl) ?_
  show B XC 80 RX5 cX5_readClause 2 (some .boolean) fiC 0 [.ref 42, .null] [] h (f_X5_readClause h)
  unfold f_X5_readClause
  refine B_aload_n dX5_readClause_0 rfl rfl ?_
  refine B_getR dX5_readClause_1 fl_X5_30 shC_42 rfl (rfC_42_3 _) ?_
  refine B_bipush dX5_readClause_4 bp_121 ?_
  refine B_VC (st := []) dX5_readClause_6 cl_X5_50 (t_X9_take 121 h) (Nat.le_of_ble_eq_true rfl) shC_1 rfl rfl (Nat.le_of_ble_eq_true rfl) (fun v1 h2 _ => ?_)
  refine C_ifb_eq (tgt := 24) dX5_readClause_9 (by decide) (fun q9 => ?_) (fun q9 => ?_)
  · refine B_iconst dX5_readClause_24 ic_0 ?_
    exact B_zreturn dX5_readClause_25 rfl rfl rfl
  · refine B_aload_n dX5_readClause_12 rfl rfl ?_
    refine B_getR dX5_readClause_13 fl_X5_30 shC_42 rfl (rfC_42_3 _) ?_
    refine B_bipush dX5_readClause_16 bp_58 ?_
    refine B_VC (st := []) dX5_readClause_18 cl_X5_50 (t_X9_take 58 h2) (Nat.le_of_ble_eq_true rfl) shC_1 rfl rfl (Nat.le_of_ble_eq_true rfl) (fun v3 h4 _ => ?_)
    refine C_ifb_ne (tgt := 26) dX5_readClause_21 (by decide) (fun q8 => ?_) (fun q8 => ?_)
    · refine B_aload_n dX5_readClause_26 rfl rfl ?_
      refine B_getR dX5_readClause_27 fl_X5_30 shC_42 rfl (rfC_42_3 _) ?_
      refine B_VI (st := []) dX5_readClause_30 cl_X5_46 (t_X9_sign h4) (Nat.le_of_ble_eq_true rfl) shC_1 rfl rfl (Nat.le_of_ble_eq_true rfl) (fun v5 h6 _ => ?_)
      refine B_STb (st := []) dX5_readClause_33 cl_X5_54 (t_X5_isNesting v5 h6) (Nat.le_of_ble_eq_true rfl) rfl rfl (Nat.le_of_ble_eq_true rfl) ?_
      refine C_ifb_ne (tgt := 43) dX5_readClause_36 (by decide) (fun q7 => ?_) (fun q7 => ?_)
      · refine B_iconst dX5_readClause_43 ic_0 ?_
        exact b_X5_readClause_J44 false h6
      · refine B_iconst dX5_readClause_39 ic_1 ?_
        refine B_goto (tgt := 44) dX5_readClause_40 (by decide) ?_
        exact b_X5_readClause_J44 true h6
    · refine B_iconst dX5_readClause_24 ic_0 ?_
      exact B_zreturn dX5_readClause_25 rfl rfl rfl
def f_X5_findFault_L20 : Nat → Int32 → dH → Option (Int32 × dH)
  | 0, _, _ => none
  | n + 1, y1, h =>
    if 240 < y1 then
    some ((h.1 1 2), h)
    else
    (f_X5_readClause h).bind fun rv4 =>
    if rv4.1 then
    (f_X9_sign rv4.2).bind fun rv6 =>
    if rv6.1 = (-1) then
    some ((-1), rv6.2)
    else
    (f_X9_take 59 rv6.2).bind fun rv8 =>
    if rv8.1 then
    (f_X5_findFault_L20 n) (y1 + 1) rv8.2
    else
    some ((rv8.2.1 1 2), rv8.2)
    else
    some ((rv4.2.1 1 2), rv4.2)
set_option maxRecDepth 20000 in
set_option maxHeartbeats 4000000 in
theorem b_X5_findFault_L20 : ∀ (n : Nat) (y1 : Int32) (h : dH), B XC 81 RX5 cX5_findFault 2 (some .int) fiI 20 [.ref 42, .int y1] [] h (f_X5_findFault_L20 n y1 h) := by
  intro n
  induction n with
  | zero =>
    intro y1 h
    exact B_none
  | succ n ih =>
    intro y1 h
    rw [f_X5_findFault_L20]
    refine B_iload_n dX5_findFault_20 rfl rfl ?_
    refine B_sipush dX5_findFault_21 sp_240 ?_
    refine C_icmp_gt (tgt := 81) dX5_findFault_24 (by decide) (fun q13 => ?_) (fun q13 => ?_)
    · refine B_aload_n dX5_findFault_81 rfl rfl ?_
      refine B_getR dX5_findFault_82 fl_X5_30 shC_42 rfl (rfC_42_3 _) ?_
      refine B_getI dX5_findFault_85 fl_X5_37 shC_1 rfl ?_
      exact B_ireturn dX5_findFault_88 rfl rfl
    · refine B_aload_n dX5_findFault_27 rfl rfl ?_
      refine B_VC (st := []) dX5_findFault_28 cl_X5_42 (t_X5_readClause h) (Nat.le_of_ble_eq_true rfl) shC_42 rfl rfl (Nat.le_of_ble_eq_true rfl) (fun v4 h5 _ => ?_)
      refine C_ifb_ne (tgt := 42) dX5_findFault_31 (by decide) (fun q12 => ?_) (fun q12 => ?_)
      · refine B_aload_n dX5_findFault_42 rfl rfl ?_
        refine B_getR dX5_findFault_43 fl_X5_30 shC_42 rfl (rfC_42_3 _) ?_
        refine B_VI (st := []) dX5_findFault_46 cl_X5_46 (t_X9_sign h5) (Nat.le_of_ble_eq_true rfl) shC_1 rfl rfl (Nat.le_of_ble_eq_true rfl) (fun v6 h7 _ => ?_)
        refine B_iconst dX5_findFault_49 ic_m1 ?_
        refine C_icmp_ne (tgt := 55) dX5_findFault_50 (by decide) (fun q11 => ?_) (fun q11 => ?_)
        · refine B_aload_n dX5_findFault_55 rfl rfl ?_
          refine B_getR dX5_findFault_56 fl_X5_30 shC_42 rfl (rfC_42_3 _) ?_
          refine B_bipush dX5_findFault_59 bp_59 ?_
          refine B_VC (st := []) dX5_findFault_61 cl_X5_50 (t_X9_take 59 h7) (Nat.le_of_ble_eq_true rfl) shC_1 rfl rfl (Nat.le_of_ble_eq_true rfl) (fun v8 h9 _ => ?_)
          refine C_ifb_ne (tgt := 75) dX5_findFault_64 (by decide) (fun q10 => ?_) (fun q10 => ?_)
          · refine B_iinc (w := (y1 + 1)) (ls' := [.ref 42, .int (y1 + 1)]) dX5_findFault_75 rfl (congrArg (fun z => y1 + z) ic_1) (Nat.le_of_ble_eq_true rfl) rfl rfl ?_
            refine B_goto (tgt := 20) dX5_findFault_78 (by decide) ?_
            exact ih (y1 + 1)  h9
          · refine B_aload_n dX5_findFault_67 rfl rfl ?_
            refine B_getR dX5_findFault_68 fl_X5_30 shC_42 rfl (rfC_42_3 _) ?_
            refine B_getI dX5_findFault_71 fl_X5_37 shC_1 rfl ?_
            exact B_ireturn dX5_findFault_74 rfl rfl
        · refine B_iconst dX5_findFault_53 ic_m1 ?_
          exact B_ireturn dX5_findFault_54 rfl rfl
      · refine B_aload_n dX5_findFault_34 rfl rfl ?_
        refine B_getR dX5_findFault_35 fl_X5_30 shC_42 rfl (rfC_42_3 _) ?_
        refine B_getI dX5_findFault_38 fl_X5_37 shC_1 rfl ?_
        exact B_ireturn dX5_findFault_41 rfl rfl
def f_X5_findFault (h : dH) : Option (Int32 × dH) :=
  (some (dPut h 1 2 0)).bind fun h1 =>
  if dIn (h1.1 42 1) 5 then
  (some (dPut h1 50 (dI (h1.1 42 1)) 0)).bind fun h3 =>
  f_X5_findFault_L20 dFu 0 h3
  else none
set_option maxRecDepth 20000 in
set_option maxHeartbeats 4000000 in
theorem t_X5_findFault (h : dH) : T XC 81 yX5_findFault cX5_findFault 2 (some .int) fiI [.ref 42] h (f_X5_findFault h) := by
  refine T_of [.ref 42, .null] (by decide) (fun _ => rfl) (fun _ => Nat.le_of_ble_eq_true rfl) ?_
  show B XC 81 RX5 cX5_findFault 2 (some .int) fiI 0 [.ref 42, .null] [] h (f_X5_findFault h)
  unfold f_X5_findFault
  refine B_aload_n dX5_findFault_0 rfl rfl ?_
  refine B_getR dX5_findFault_1 fl_X5_30 shC_42 rfl (rfC_42_3 _) ?_
  refine B_iconst dX5_findFault_4 ic_0 ?_
  refine B_putI dX5_findFault_5 fl_X5_37 fw_X9_2 shC_1 rfl ?_
  refine B_lh (fun h1 => ?_)
  refine B_aload_n dX5_findFault_8 rfl rfl ?_
  refine B_getR dX5_findFault_9 fl_X5_24 shC_42 rfl (rfC_42_5 _) ?_
  refine B_aload_n dX5_findFault_12 rfl rfl ?_
  refine B_getI dX5_findFault_13 fl_X5_34 shC_42 rfl ?_
  refine B_iconst dX5_findFault_16 ic_0 ?_
  refine C_chk (fun q2 => ?_)
  refine L_iast dX5_findFault_17 shC_50 q2 rfl ?_
  refine B_lh (fun h3 => ?_)
  refine B_iconst dX5_findFault_18 ic_0 ?_
  refine B_istore_n (ls' := [.ref 42, .int 0]) dX5_findFault_19 rfl (Nat.le_of_ble_eq_true rfl) rfl rfl ?_
  exact b_X5_findFault_L20 dFu 0 h3
def f_X5_joined (x0 : Int32) (x1 : Int64) (x3 : Int64) (h : dH) : Option (Int64) :=
  if x0 = 38 then
  some (x1 &&& x3)
  else
  if x0 = 42 then
  some (x1 * x3)
  else
  if x0 = 43 then
  some (x1 + x3)
  else
  if x0 = 45 then
  some (x1 - x3)
  else
  if x0 = 47 then
  if (lg_cmp x3 0) = 0 then
  some 0
  else
  if ¬ x3 = 0 then
  some (x1 / x3)
  else none
  else
  if x0 = 60 then
  if (lg_cmp x1 x3) < 0 then
  some 1
  else
  some 0
  else
  if x0 = 61 then
  if (lg_cmp x1 x3) = 0 then
  some 1
  else
  some 0
  else
  if x0 = 62 then
  if 0 < (lg_cmp x1 x3) then
  some 1
  else
  some 0
  else
  some (x1 ||| x3)
set_option maxRecDepth 20000 in
set_option maxHeartbeats 4000000 in
theorem t_X5_joined (x0 : Int32) (x1 : Int64) (x3 : Int64) (h : dH) : T XC 0 yX5_joined cX5_joined 5 (some .long) (fiJ h) [.int x0, .long x1, .long x3] h (f_X5_joined x0 x1 x3 h) := by
  refine T_of [.int x0, .long x1, .null, .long x3, .null] (by decide) (fun _ => rfl) (fun _ => Nat.le_of_ble_eq_true rfl) ?_
  show B XC 0 RX5 cX5_joined 5 (some .long) (fiJ h) 0 [.int x0, .long x1, .null, .long x3, .null] [] h (f_X5_joined x0 x1 x3 h)
  unfold f_X5_joined
  refine B_iload_n dX5_joined_0 rfl rfl ?_
  refine C_ite (fun n1_38 => ?_) (fun n1_38 => ?_)
  · refine B_tswIn (off := 177) (tgt := 178) dX5_joined_1 (by rw [n1_38]; decide) (by rw [n1_38]; decide) (by rw [n1_38]; decide) (by decide) ?_
    refine B_lload_n dX5_joined_178 rfl rfl ?_
    refine B_lload_n dX5_joined_179 rfl rfl ?_
    refine B_land dX5_joined_180 ?_
    exact B_lreturn dX5_joined_181 rfl rfl
  · refine C_ite (fun n1_42 => ?_) (fun n1_42 => ?_)
    · refine B_tswIn (off := 123) (tgt := 124) dX5_joined_1 (by rw [n1_42]; decide) (by rw [n1_42]; decide) (by rw [n1_42]; decide) (by decide) ?_
      refine B_lload_n dX5_joined_124 rfl rfl ?_
      refine B_lload_n dX5_joined_125 rfl rfl ?_
      refine B_lmul dX5_joined_126 ?_
      exact B_lreturn dX5_joined_127 rfl rfl
    · refine C_ite (fun n1_43 => ?_) (fun n1_43 => ?_)
      · refine B_tswIn (off := 115) (tgt := 116) dX5_joined_1 (by rw [n1_43]; decide) (by rw [n1_43]; decide) (by rw [n1_43]; decide) (by decide) ?_
        refine B_lload_n dX5_joined_116 rfl rfl ?_
        refine B_lload_n dX5_joined_117 rfl rfl ?_
        refine B_ladd dX5_joined_118 ?_
        exact B_lreturn dX5_joined_119 rfl rfl
      · refine C_ite (fun n1_45 => ?_) (fun n1_45 => ?_)
        · refine B_tswIn (off := 119) (tgt := 120) dX5_joined_1 (by rw [n1_45]; decide) (by rw [n1_45]; decide) (by rw [n1_45]; decide) (by decide) ?_
          refine B_lload_n dX5_joined_120 rfl rfl ?_
          refine B_lload_n dX5_joined_121 rfl rfl ?_
          refine B_lsub dX5_joined_122 ?_
          exact B_lreturn dX5_joined_123 rfl rfl
        · refine C_ite (fun n1_47 => ?_) (fun n1_47 => ?_)
          · refine B_tswIn (off := 127) (tgt := 128) dX5_joined_1 (by rw [n1_47]; decide) (by rw [n1_47]; decide) (by rw [n1_47]; decide) (by decide) ?_
            refine B_lload_n dX5_joined_128 rfl rfl ?_
            refine B_lconst (v := 0) dX5_joined_129 (by decide) ?_
            refine B_lcmp dX5_joined_130 ?_
            refine C_if_ne (tgt := 138) dX5_joined_131 (by decide) (fun q3 => ?_) (fun q3 => ?_)
            · refine B_lload_n dX5_joined_138 rfl rfl ?_
              refine B_lload_n dX5_joined_139 rfl rfl ?_
              refine C_chk (fun q2 => ?_)
              refine B_ldiv dX5_joined_140 q2 ?_
              exact B_lreturn dX5_joined_141 rfl rfl
            · refine B_lconst (v := 0) dX5_joined_134 (by decide) ?_
              refine B_goto (tgt := 141) dX5_joined_135 (by decide) ?_
              exact B_lreturn dX5_joined_141 rfl rfl
          · refine C_ite (fun n1_60 => ?_) (fun n1_60 => ?_)
            · refine B_tswIn (off := 153) (tgt := 154) dX5_joined_1 (by rw [n1_60]; decide) (by rw [n1_60]; decide) (by rw [n1_60]; decide) (by decide) ?_
              refine B_lload_n dX5_joined_154 rfl rfl ?_
              refine B_lload_n dX5_joined_155 rfl rfl ?_
              refine B_lcmp dX5_joined_156 ?_
              refine C_if_ge (tgt := 164) dX5_joined_157 (by decide) (fun q4 => ?_) (fun q4 => ?_)
              · refine B_lconst (v := 0) dX5_joined_164 (by decide) ?_
                exact B_lreturn dX5_joined_165 rfl rfl
              · refine B_lconst (v := 1) dX5_joined_160 (by decide) ?_
                refine B_goto (tgt := 165) dX5_joined_161 (by decide) ?_
                exact B_lreturn dX5_joined_165 rfl rfl
            · refine C_ite (fun n1_61 => ?_) (fun n1_61 => ?_)
              · refine B_tswIn (off := 141) (tgt := 142) dX5_joined_1 (by rw [n1_61]; decide) (by rw [n1_61]; decide) (by rw [n1_61]; decide) (by decide) ?_
                refine B_lload_n dX5_joined_142 rfl rfl ?_
                refine B_lload_n dX5_joined_143 rfl rfl ?_
                refine B_lcmp dX5_joined_144 ?_
                refine C_if_ne (tgt := 152) dX5_joined_145 (by decide) (fun q5 => ?_) (fun q5 => ?_)
                · refine B_lconst (v := 0) dX5_joined_152 (by decide) ?_
                  exact B_lreturn dX5_joined_153 rfl rfl
                · refine B_lconst (v := 1) dX5_joined_148 (by decide) ?_
                  refine B_goto (tgt := 153) dX5_joined_149 (by decide) ?_
                  exact B_lreturn dX5_joined_153 rfl rfl
              · refine C_ite (fun n1_62 => ?_) (fun n1_62 => ?_)
                · refine B_tswIn (off := 165) (tgt := 166) dX5_joined_1 (by rw [n1_62]; decide) (by rw [n1_62]; decide) (by rw [n1_62]; decide) (by decide) ?_
                  refine B_lload_n dX5_joined_166 rfl rfl ?_
                  refine B_lload_n dX5_joined_167 rfl rfl ?_
                  refine B_lcmp dX5_joined_168 ?_
                  refine C_if_le (tgt := 176) dX5_joined_169 (by decide) (fun q6 => ?_) (fun q6 => ?_)
                  · refine B_lconst (v := 0) dX5_joined_176 (by decide) ?_
                    exact B_lreturn dX5_joined_177 rfl rfl
                  · refine B_lconst (v := 1) dX5_joined_172 (by decide) ?_
                    refine B_goto (tgt := 177) dX5_joined_173 (by decide) ?_
                    exact B_lreturn dX5_joined_177 rfl rfl
                · have kdef : B XC 0 RX5 cX5_joined 5 (some .long) (fiJ h) 182 [.int x0, .long x1, .null, .long x3, .null] [] h (some (x1 ||| x3)) := by
                    refine B_lload_n dX5_joined_182 rfl rfl ?_
                    refine B_lload_n dX5_joined_183 rfl rfl ?_
                    refine B_lor dX5_joined_184 ?_
                    exact B_lreturn dX5_joined_185 rfl rfl
                  by_cases en1_39 : x0 = 39
                  · exact B_tswIn (off := 181) (tgt := 182) dX5_joined_1 (by rw [en1_39]; decide) (by rw [en1_39]; decide) (by rw [en1_39]; decide) (by decide) kdef
                  by_cases en1_40 : x0 = 40
                  · exact B_tswIn (off := 181) (tgt := 182) dX5_joined_1 (by rw [en1_40]; decide) (by rw [en1_40]; decide) (by rw [en1_40]; decide) (by decide) kdef
                  by_cases en1_41 : x0 = 41
                  · exact B_tswIn (off := 181) (tgt := 182) dX5_joined_1 (by rw [en1_41]; decide) (by rw [en1_41]; decide) (by rw [en1_41]; decide) (by decide) kdef
                  by_cases en1_44 : x0 = 44
                  · exact B_tswIn (off := 181) (tgt := 182) dX5_joined_1 (by rw [en1_44]; decide) (by rw [en1_44]; decide) (by rw [en1_44]; decide) (by decide) kdef
                  by_cases en1_46 : x0 = 46
                  · exact B_tswIn (off := 181) (tgt := 182) dX5_joined_1 (by rw [en1_46]; decide) (by rw [en1_46]; decide) (by rw [en1_46]; decide) (by decide) kdef
                  by_cases en1_48 : x0 = 48
                  · exact B_tswIn (off := 181) (tgt := 182) dX5_joined_1 (by rw [en1_48]; decide) (by rw [en1_48]; decide) (by rw [en1_48]; decide) (by decide) kdef
                  by_cases en1_49 : x0 = 49
                  · exact B_tswIn (off := 181) (tgt := 182) dX5_joined_1 (by rw [en1_49]; decide) (by rw [en1_49]; decide) (by rw [en1_49]; decide) (by decide) kdef
                  by_cases en1_50 : x0 = 50
                  · exact B_tswIn (off := 181) (tgt := 182) dX5_joined_1 (by rw [en1_50]; decide) (by rw [en1_50]; decide) (by rw [en1_50]; decide) (by decide) kdef
                  by_cases en1_51 : x0 = 51
                  · exact B_tswIn (off := 181) (tgt := 182) dX5_joined_1 (by rw [en1_51]; decide) (by rw [en1_51]; decide) (by rw [en1_51]; decide) (by decide) kdef
                  by_cases en1_52 : x0 = 52
                  · exact B_tswIn (off := 181) (tgt := 182) dX5_joined_1 (by rw [en1_52]; decide) (by rw [en1_52]; decide) (by rw [en1_52]; decide) (by decide) kdef
                  by_cases en1_53 : x0 = 53
                  · exact B_tswIn (off := 181) (tgt := 182) dX5_joined_1 (by rw [en1_53]; decide) (by rw [en1_53]; decide) (by rw [en1_53]; decide) (by decide) kdef
                  by_cases en1_54 : x0 = 54
                  · exact B_tswIn (off := 181) (tgt := 182) dX5_joined_1 (by rw [en1_54]; decide) (by rw [en1_54]; decide) (by rw [en1_54]; decide) (by decide) kdef
                  by_cases en1_55 : x0 = 55
                  · exact B_tswIn (off := 181) (tgt := 182) dX5_joined_1 (by rw [en1_55]; decide) (by rw [en1_55]; decide) (by rw [en1_55]; decide) (by decide) kdef
                  by_cases en1_56 : x0 = 56
                  · exact B_tswIn (off := 181) (tgt := 182) dX5_joined_1 (by rw [en1_56]; decide) (by rw [en1_56]; decide) (by rw [en1_56]; decide) (by decide) kdef
                  by_cases en1_57 : x0 = 57
                  · exact B_tswIn (off := 181) (tgt := 182) dX5_joined_1 (by rw [en1_57]; decide) (by rw [en1_57]; decide) (by rw [en1_57]; decide) (by decide) kdef
                  by_cases en1_58 : x0 = 58
                  · exact B_tswIn (off := 181) (tgt := 182) dX5_joined_1 (by rw [en1_58]; decide) (by rw [en1_58]; decide) (by rw [en1_58]; decide) (by decide) kdef
                  by_cases en1_59 : x0 = 59
                  · exact B_tswIn (off := 181) (tgt := 182) dX5_joined_1 (by rw [en1_59]; decide) (by rw [en1_59]; decide) (by rw [en1_59]; decide) (by decide) kdef
                  refine B_tswOut (tgt := 182) dX5_joined_1 (dsw (fun c h1 h2 => ?_)) (by decide) kdef
                  rcases (show c = 38 ∨ c = 39 ∨ c = 40 ∨ c = 41 ∨ c = 42 ∨ c = 43 ∨ c = 44 ∨ c = 45 ∨ c = 46 ∨ c = 47 ∨ c = 48 ∨ c = 49 ∨ c = 50 ∨ c = 51 ∨ c = 52 ∨ c = 53 ∨ c = 54 ∨ c = 55 ∨ c = 56 ∨ c = 57 ∨ c = 58 ∨ c = 59 ∨ c = 60 ∨ c = 61 ∨ c = 62 by omega) with rfl | rfl | rfl | rfl | rfl | rfl | rfl | rfl | rfl | rfl | rfl | rfl | rfl | rfl | rfl | rfl | rfl | rfl | rfl | rfl | rfl | rfl | rfl | rfl | rfl
                  · exact n1_38
                  · exact en1_39
                  · exact en1_40
                  · exact en1_41
                  · exact n1_42
                  · exact n1_43
                  · exact en1_44
                  · exact n1_45
                  · exact en1_46
                  · exact n1_47
                  · exact en1_48
                  · exact en1_49
                  · exact en1_50
                  · exact en1_51
                  · exact en1_52
                  · exact en1_53
                  · exact en1_54
                  · exact en1_55
                  · exact en1_56
                  · exact en1_57
                  · exact en1_58
                  · exact en1_59
                  · exact n1_60
                  · exact n1_61
                  · exact n1_62
def f_X11_held (x0 : Int32) (x1 : Int32) (x2 : Int64) (h : dH) : Int32 :=
  if (lg_cmp x2 ((x0 : Int32).toInt64)) < 0 then
  x0
  else
  if 0 < (lg_cmp x2 ((x1 : Int32).toInt64)) then
  x1
  else
  (x2 : Int64).toInt32
set_option maxRecDepth 20000 in
set_option maxHeartbeats 4000000 in
theorem t_X11_held (x0 : Int32) (x1 : Int32) (x2 : Int64) (h : dH) : T XC 0 yX11_held cX11_held 4 (some .int) (fiP h) [.int x0, .int x1, .long x2] h (some (f_X11_held x0 x1 x2 h)) := by
  refine T_of [.int x0, .int x1, .long x2, .null] (by decide) (fun _ => rfl) (fun _ => Nat.le_of_ble_eq_true rfl) ?_
  show B XC 0 RX11 cX11_held 4 (some .int) (fiP h) 0 [.int x0, .int x1, .long x2, .null] [] h (some (f_X11_held x0 x1 x2 h))
  unfold f_X11_held
  refine B_lload_n dX11_held_0 rfl rfl ?_
  refine B_iload_n dX11_held_1 rfl rfl ?_
  refine B_i2l dX11_held_2 ?_
  refine B_lcmp dX11_held_3 ?_
  refine C_some ?_
  refine C_if_ge (tgt := 11) dX11_held_4 (by decide) (fun q2 => ?_) (fun q2 => ?_)
  · refine B_lload_n dX11_held_11 rfl rfl ?_
    refine B_iload_n dX11_held_12 rfl rfl ?_
    refine B_i2l dX11_held_13 ?_
    refine B_lcmp dX11_held_14 ?_
    refine C_some ?_
    refine C_if_le (tgt := 22) dX11_held_15 (by decide) (fun q1 => ?_) (fun q1 => ?_)
    · refine B_lload_n dX11_held_22 rfl rfl ?_
      refine B_l2i dX11_held_23 ?_
      exact B_ireturn dX11_held_24 rfl rfl
    · refine B_iload_n dX11_held_18 rfl rfl ?_
      refine B_goto (tgt := 24) dX11_held_19 (by decide) ?_
      exact B_ireturn dX11_held_24 rfl rfl
  · refine B_iload_n dX11_held_7 rfl rfl ?_
    refine B_goto (tgt := 24) dX11_held_8 (by decide) ?_
    exact B_ireturn dX11_held_24 rfl rfl
def f_X5_worth_J249 (kL37 : Nat → Int32 → Bool → Int32 → dH → Option (Int32 × dH)) (y1 : Nat) (y2 : Int32) (y3 : Bool) (y4 : Int32) (h : dH) : Option (Int32 × dH) :=
  kL37 y1 y2 y3 (y4 + 1) h
set_option maxRecDepth 20000 in
set_option maxHeartbeats 4000000 in
theorem b_X5_worth_J249 {kL37 : Nat → Int32 → Bool → Int32 → dH → Option (Int32 × dH)} (hkL37 : ∀ (y1 : Nat) (y2 : Int32) (y3 : Bool) (y4 : Int32) (hy1 : XC.1[y1]? = some (.inr (0, 240))) (h : dH), B XC 1 RX5 cX5_worth 6 (some .int) fiI 37 [.ref 42, .ref y1, .int y2, .int (bi y3), .int y4, .null] [] h (kL37 y1 y2 y3 y4 h)) (y1 : Nat) (y2 : Int32) (y3 : Bool) (y4 : Int32) (hy1 : XC.1[y1]? = some (.inr (0, 240))) (h : dH) : B XC 1 RX5 cX5_worth 6 (some .int) fiI 249 [.ref 42, .ref y1, .int y2, .int (bi y3), .int y4, .null] [] h (f_X5_worth_J249 kL37 y1 y2 y3 y4 h) := by
  unfold f_X5_worth_J249
  refine B_iinc (w := (y4 + 1)) (ls' := [.ref 42, .ref y1, .int y2, .int (bi y3), .int (y4 + 1), .null]) dX5_worth_249 rfl (congrArg (fun z => y4 + z) ic_1) (Nat.le_of_ble_eq_true rfl) rfl rfl ?_
  refine B_goto (tgt := 37) dX5_worth_252 (by decide) ?_
  exact hkL37 y1 y2 y3 (y4 + 1) hy1 h
def f_X5_worth_J73 (kL37 : Nat → Int32 → Bool → Int32 → dH → Option (Int32 × dH)) (y1 : Nat) (y2 : Int32) (y4 : Int32) (z0 : Bool) (h : dH) : Option (Int32 × dH) :=
  f_X5_worth_J249 kL37 y1 y2 z0 y4 h
set_option maxRecDepth 20000 in
set_option maxHeartbeats 4000000 in
theorem b_X5_worth_J73 {kL37 : Nat → Int32 → Bool → Int32 → dH → Option (Int32 × dH)} (hkL37 : ∀ (y1 : Nat) (y2 : Int32) (y3 : Bool) (y4 : Int32) (hy1 : XC.1[y1]? = some (.inr (0, 240))) (h : dH), B XC 1 RX5 cX5_worth 6 (some .int) fiI 37 [.ref 42, .ref y1, .int y2, .int (bi y3), .int y4, .null] [] h (kL37 y1 y2 y3 y4 h)) (y1 : Nat) (y2 : Int32) (y4 : Int32) (z0 : Bool) (hy1 : XC.1[y1]? = some (.inr (0, 240))) (h : dH) : B XC 1 RX5 cX5_worth 6 (some .int) fiI 73 [.ref 42, .ref y1, .int y2, .null, .int y4, .null] [.int (bi z0)] h (f_X5_worth_J73 kL37 y1 y2 y4 z0 h) := by
  unfold f_X5_worth_J73
  refine B_istore_n (ls' := [.ref 42, .ref y1, .int y2, .int (bi z0), .int y4, .null]) dX5_worth_73 rfl (Nat.le_of_ble_eq_true rfl) rfl rfl ?_
  refine B_goto (tgt := 249) dX5_worth_74 (by decide) ?_
  exact b_X5_worth_J249 hkL37 y1 y2 z0 y4 hy1 h
def f_X5_worth_J118 (kL37 : Nat → Int32 → Bool → Int32 → dH → Option (Int32 × dH)) (y1 : Nat) (y2 : Int32) (y3 : Bool) (y4 : Int32) (z1 : Int32) (z2 : Int32) (h : dH) : Option (Int32 × dH) :=
  if dIn z1 64 then
  (some (dPut h 51 (dI z1) z2)).bind fun h31 =>
  f_X5_worth_J249 kL37 y1 (y2 + 1) y3 y4 h31
  else none
set_option maxRecDepth 20000 in
set_option maxHeartbeats 4000000 in
theorem b_X5_worth_J118 {kL37 : Nat → Int32 → Bool → Int32 → dH → Option (Int32 × dH)} (hkL37 : ∀ (y1 : Nat) (y2 : Int32) (y3 : Bool) (y4 : Int32) (hy1 : XC.1[y1]? = some (.inr (0, 240))) (h : dH), B XC 1 RX5 cX5_worth 6 (some .int) fiI 37 [.ref 42, .ref y1, .int y2, .int (bi y3), .int y4, .null] [] h (kL37 y1 y2 y3 y4 h)) (y1 : Nat) (y2 : Int32) (y3 : Bool) (y4 : Int32) (z1 : Int32) (z2 : Int32) (hy1 : XC.1[y1]? = some (.inr (0, 240))) (h : dH) : B XC 1 RX5 cX5_worth 6 (some .int) fiI 118 [.ref 42, .ref y1, .int y2, .int (bi y3), .int y4, .null] [.int z2, .int z1, .ref 51] h (f_X5_worth_J118 kL37 y1 y2 y3 y4 z1 z2 h) := by
  unfold f_X5_worth_J118
  refine C_chk (fun q30 => ?_)
  refine L_iast dX5_worth_118 shC_51 q30 rfl ?_
  refine B_lh (fun h31 => ?_)
  refine B_iinc (w := (y2 + 1)) (ls' := [.ref 42, .ref y1, .int (y2 + 1), .int (bi y3), .int y4, .null]) dX5_worth_119 rfl (congrArg (fun z => y2 + z) ic_1) (Nat.le_of_ble_eq_true rfl) rfl rfl ?_
  refine B_goto (tgt := 249) dX5_worth_122 (by decide) ?_
  exact b_X5_worth_J249 hkL37 y1 (y2 + 1) y3 y4 hy1 h31
def f_X5_worth_J172 (kL37 : Nat → Int32 → Bool → Int32 → dH → Option (Int32 × dH)) (y1 : Nat) (y2 : Int32) (y4 : Int32) (z0 : Bool) (h : dH) : Option (Int32 × dH) :=
  f_X5_worth_J249 kL37 y1 y2 z0 y4 h
set_option maxRecDepth 20000 in
set_option maxHeartbeats 4000000 in
theorem b_X5_worth_J172 {kL37 : Nat → Int32 → Bool → Int32 → dH → Option (Int32 × dH)} (hkL37 : ∀ (y1 : Nat) (y2 : Int32) (y3 : Bool) (y4 : Int32) (hy1 : XC.1[y1]? = some (.inr (0, 240))) (h : dH), B XC 1 RX5 cX5_worth 6 (some .int) fiI 37 [.ref 42, .ref y1, .int y2, .int (bi y3), .int y4, .null] [] h (kL37 y1 y2 y3 y4 h)) (y1 : Nat) (y2 : Int32) (y4 : Int32) (z0 : Bool) (hy1 : XC.1[y1]? = some (.inr (0, 240))) (h : dH) : B XC 1 RX5 cX5_worth 6 (some .int) fiI 172 [.ref 42, .ref y1, .int y2, .null, .int y4, .null] [.int (bi z0)] h (f_X5_worth_J172 kL37 y1 y2 y4 z0 h) := by
  unfold f_X5_worth_J172
  refine B_istore_n (ls' := [.ref 42, .ref y1, .int y2, .int (bi z0), .int y4, .null]) dX5_worth_172 rfl (Nat.le_of_ble_eq_true rfl) rfl rfl ?_
  refine B_goto (tgt := 249) dX5_worth_173 (by decide) ?_
  exact b_X5_worth_J249 hkL37 y1 y2 z0 y4 hy1 h
def f_X5_worth_J125 (kL37 : Nat → Int32 → Bool → Int32 → dH → Option (Int32 × dH)) (y1 : Nat) (y2 : Int32) (y3 : Bool) (y4 : Int32) (y5 : Int32) (h : dH) : Option (Int32 × dH) :=
  if y2 < 1 then
  some (0, h)
  else
  if y5 = (-59) then
  if dIn (y2 - 1) 64 then
  some ((h.1 51 (dI (y2 - 1))), h)
  else none
  else
  if y5 = (-63) then
  if dIn (y2 + (-1)) 64 then
  if (h.1 51 (dI (y2 + (-1)))) = 0 then
  f_X5_worth_J172 kL37 y1 (y2 + (-1)) y4 true h
  else
  f_X5_worth_J172 kL37 y1 (y2 + (-1)) y4 false h
  else none
  else
  if y5 = (-33) then
  if dIn (y2 - 1) 64 then
  if dIn (y2 - 1) 64 then
  (some (dPut h 51 (dI (y2 - 1)) (1 - (h.1 51 (dI (y2 - 1)))))).bind fun h22 =>
  f_X5_worth_J249 kL37 y1 y2 y3 y4 h22
  else none
  else none
  else
  if 1 < y2 then
  if dIn ((y2 + (-1)) - 1) 64 then
  if dIn (y2 + (-1)) 64 then
  (f_X5_joined (-y5) (((h.1 51 (dI ((y2 + (-1)) - 1))) : Int32).toInt64) (((h.1 51 (dI (y2 + (-1)))) : Int32).toInt64) h).bind fun v16 =>
  if dIn ((y2 + (-1)) - 1) 64 then
  (some (dPut h 51 (dI ((y2 + (-1)) - 1)) (f_X11_held (-1000000) 1000000 v16 h))).bind fun h18 =>
  f_X5_worth_J249 kL37 y1 (y2 + (-1)) y3 y4 h18
  else none
  else none
  else none
  else
  f_X5_worth_J249 kL37 y1 y2 y3 y4 h
set_option maxRecDepth 20000 in
set_option maxHeartbeats 4000000 in
theorem b_X5_worth_J125 {kL37 : Nat → Int32 → Bool → Int32 → dH → Option (Int32 × dH)} (hkL37 : ∀ (y1 : Nat) (y2 : Int32) (y3 : Bool) (y4 : Int32) (hy1 : XC.1[y1]? = some (.inr (0, 240))) (h : dH), B XC 1 RX5 cX5_worth 6 (some .int) fiI 37 [.ref 42, .ref y1, .int y2, .int (bi y3), .int y4, .null] [] h (kL37 y1 y2 y3 y4 h)) (y1 : Nat) (y2 : Int32) (y3 : Bool) (y4 : Int32) (y5 : Int32) (hy1 : XC.1[y1]? = some (.inr (0, 240))) (h : dH) : B XC 1 RX5 cX5_worth 6 (some .int) fiI 125 [.ref 42, .ref y1, .int y2, .int (bi y3), .int y4, .int y5] [] h (f_X5_worth_J125 kL37 y1 y2 y3 y4 y5 h) := by
  unfold f_X5_worth_J125
  refine B_iload_n dX5_worth_125 rfl rfl ?_
  refine B_iconst dX5_worth_126 ic_1 ?_
  refine C_icmp_ge (tgt := 132) dX5_worth_127 (by decide) (fun q29 => ?_) (fun q29 => ?_)
  · refine B_iload dX5_worth_132 rfl ?_
    refine B_bipush dX5_worth_134 bp_m59 ?_
    refine C_icmp_ne (tgt := 148) dX5_worth_136 (by decide) (fun q28 => ?_) (fun q28 => ?_)
    · refine B_iload dX5_worth_148 rfl ?_
      refine B_bipush dX5_worth_150 bp_m63 ?_
      refine C_icmp_ne (tgt := 176) dX5_worth_152 (by decide) (fun q26 => ?_) (fun q26 => ?_)
      · refine B_iload dX5_worth_176 rfl ?_
        refine B_bipush dX5_worth_178 bp_m33 ?_
        refine C_icmp_ne (tgt := 204) dX5_worth_180 (by decide) (fun q23 => ?_) (fun q23 => ?_)
        · refine B_iload_n dX5_worth_204 rfl rfl ?_
          refine B_iconst dX5_worth_205 ic_1 ?_
          refine C_icmp_le (tgt := 249) dX5_worth_206 (by decide) (fun q19 => ?_) (fun q19 => ?_)
          · refine B_drop 5 (ls' := [.ref 42, .ref y1, .int y2, .int (bi y3), .int y4, .null]) rfl ?_
            exact b_X5_worth_J249 hkL37 y1 y2 y3 y4 hy1 h
          · refine B_iinc (w := (y2 + (-1))) (ls' := [.ref 42, .ref y1, .int (y2 + (-1)), .int (bi y3), .int y4, .int y5]) dX5_worth_209 rfl (congrArg (fun z => y2 + z) ic_m1) (Nat.le_of_ble_eq_true rfl) rfl rfl ?_
            refine B_aload_n dX5_worth_212 rfl rfl ?_
            refine B_getR dX5_worth_213 fl_X5_27 shC_42 rfl (rfC_42_6 _) ?_
            refine B_iload_n dX5_worth_216 rfl rfl ?_
            refine B_iconst dX5_worth_217 ic_1 ?_
            refine B_isub dX5_worth_218 ?_
            refine B_ldc dX5_worth_219 kc_X5_100 ?_
            refine B_ldc dX5_worth_221 kc_X5_101 ?_
            refine B_iload dX5_worth_223 rfl ?_
            refine B_ineg dX5_worth_225 ?_
            refine B_aload_n dX5_worth_226 rfl rfl ?_
            refine B_getR dX5_worth_227 fl_X5_27 shC_42 rfl (rfC_42_6 _) ?_
            refine B_iload_n dX5_worth_230 rfl rfl ?_
            refine B_iconst dX5_worth_231 ic_1 ?_
            refine B_isub dX5_worth_232 ?_
            refine C_chk (fun q14 => ?_)
            refine L_iald dX5_worth_233 shC_51 q14 rfl ?_
            refine B_i2l dX5_worth_234 ?_
            refine B_aload_n dX5_worth_235 rfl rfl ?_
            refine B_getR dX5_worth_236 fl_X5_27 shC_42 rfl (rfC_42_6 _) ?_
            refine B_iload_n dX5_worth_239 rfl rfl ?_
            refine C_chk (fun q15 => ?_)
            refine L_iald dX5_worth_240 shC_51 q15 rfl ?_
            refine B_i2l dX5_worth_241 ?_
            refine B_Spj (st := [.int 1000000, .int (-1000000), .int ((y2 + (-1)) - 1), .ref 51]) dX5_worth_242 cl_X5_102 (t_X5_joined (-y5) (((h.1 51 (dI ((y2 + (-1)) - 1))) : Int32).toInt64) (((h.1 51 (dI (y2 + (-1)))) : Int32).toInt64) h) (Nat.le_of_ble_eq_true rfl) rfl rfl (Nat.le_of_ble_eq_true rfl) (fun v16 _ => ?_)
            refine B_Nt (st := [.int ((y2 + (-1)) - 1), .ref 51]) dX5_worth_245 cl_X5_106 (t_X11_held (-1000000) 1000000 v16 h) (Nat.le_of_ble_eq_true rfl) rfl rfl (Nat.le_of_ble_eq_true rfl) ?_
            refine C_chk (fun q17 => ?_)
            refine L_iast dX5_worth_248 shC_51 q17 rfl ?_
            refine B_lh (fun h18 => ?_)
            refine B_drop 5 (ls' := [.ref 42, .ref y1, .int (y2 + (-1)), .int (bi y3), .int y4, .null]) rfl ?_
            exact b_X5_worth_J249 hkL37 y1 (y2 + (-1)) y3 y4 hy1 h18
        · refine B_aload_n dX5_worth_183 rfl rfl ?_
          refine B_getR dX5_worth_184 fl_X5_27 shC_42 rfl (rfC_42_6 _) ?_
          refine B_iload_n dX5_worth_187 rfl rfl ?_
          refine B_iconst dX5_worth_188 ic_1 ?_
          refine B_isub dX5_worth_189 ?_
          refine B_iconst dX5_worth_190 ic_1 ?_
          refine B_aload_n dX5_worth_191 rfl rfl ?_
          refine B_getR dX5_worth_192 fl_X5_27 shC_42 rfl (rfC_42_6 _) ?_
          refine B_iload_n dX5_worth_195 rfl rfl ?_
          refine B_iconst dX5_worth_196 ic_1 ?_
          refine B_isub dX5_worth_197 ?_
          refine C_chk (fun q20 => ?_)
          refine L_iald dX5_worth_198 shC_51 q20 rfl ?_
          refine B_isub dX5_worth_199 ?_
          refine C_chk (fun q21 => ?_)
          refine L_iast dX5_worth_200 shC_51 q21 rfl ?_
          refine B_lh (fun h22 => ?_)
          refine B_goto (tgt := 249) dX5_worth_201 (by decide) ?_
          refine B_drop 5 (ls' := [.ref 42, .ref y1, .int y2, .int (bi y3), .int y4, .null]) rfl ?_
          exact b_X5_worth_J249 hkL37 y1 y2 y3 y4 hy1 h22
      · refine B_iinc (w := (y2 + (-1))) (ls' := [.ref 42, .ref y1, .int (y2 + (-1)), .int (bi y3), .int y4, .int y5]) dX5_worth_155 rfl (congrArg (fun z => y2 + z) ic_m1) (Nat.le_of_ble_eq_true rfl) rfl rfl ?_
        refine B_aload_n dX5_worth_158 rfl rfl ?_
        refine B_getR dX5_worth_159 fl_X5_27 shC_42 rfl (rfC_42_6 _) ?_
        refine B_iload_n dX5_worth_162 rfl rfl ?_
        refine C_chk (fun q24 => ?_)
        refine L_iald dX5_worth_163 shC_51 q24 rfl ?_
        refine C_if_ne (tgt := 171) dX5_worth_164 (by decide) (fun q25 => ?_) (fun q25 => ?_)
        · refine B_iconst dX5_worth_171 ic_0 ?_
          refine B_drop 3 (ls' := [.ref 42, .ref y1, .int (y2 + (-1)), .null, .int y4, .int y5]) rfl ?_
          refine B_drop 5 (ls' := [.ref 42, .ref y1, .int (y2 + (-1)), .null, .int y4, .null]) rfl ?_
          exact b_X5_worth_J172 hkL37 y1 (y2 + (-1)) y4 false hy1 h
        · refine B_iconst dX5_worth_167 ic_1 ?_
          refine B_goto (tgt := 172) dX5_worth_168 (by decide) ?_
          refine B_drop 3 (ls' := [.ref 42, .ref y1, .int (y2 + (-1)), .null, .int y4, .int y5]) rfl ?_
          refine B_drop 5 (ls' := [.ref 42, .ref y1, .int (y2 + (-1)), .null, .int y4, .null]) rfl ?_
          exact b_X5_worth_J172 hkL37 y1 (y2 + (-1)) y4 true hy1 h
    · refine B_aload_n dX5_worth_139 rfl rfl ?_
      refine B_getR dX5_worth_140 fl_X5_27 shC_42 rfl (rfC_42_6 _) ?_
      refine B_iload_n dX5_worth_143 rfl rfl ?_
      refine B_iconst dX5_worth_144 ic_1 ?_
      refine B_isub dX5_worth_145 ?_
      refine C_chk (fun q27 => ?_)
      refine L_iald dX5_worth_146 shC_51 q27 rfl ?_
      exact B_ireturn dX5_worth_147 rfl rfl
  · refine B_iconst dX5_worth_130 ic_0 ?_
    exact B_ireturn dX5_worth_131 rfl rfl
def f_X5_worth_L37 : Nat → Nat → Int32 → Bool → Int32 → dH → Option (Int32 × dH)
  | 0, _, _, _, _, _ => none
  | n + 1, y1, y2, y3, y4, h =>
    if dIn (h.1 42 2) 5 then
    if y4 < (h.1 50 (dI (h.1 42 2))) then
    if dIn y4 240 then
    (some ((h.1 y1 (dI y4)))).bind fun v6 =>
    if y3 then
    if v6 = (-59) then
    f_X5_worth_J73 (f_X5_worth_L37 n) y1 y2 y4 false h
    else
    f_X5_worth_J73 (f_X5_worth_L37 n) y1 y2 y4 true h
    else
    if v6 < (-6) then
    f_X5_worth_J125 (f_X5_worth_L37 n) y1 y2 y3 y4 v6 h
    else
    if y2 < 64 then
    if v6 < 0 then
    if dIn ((-1) - v6) 6 then
    f_X5_worth_J118 (f_X5_worth_L37 n) y1 y2 y3 y4 y2 (h.1 43 (dI ((-1) - v6))) h
    else none
    else
    f_X5_worth_J118 (f_X5_worth_L37 n) y1 y2 y3 y4 y2 v6 h
    else
    f_X5_worth_J125 (f_X5_worth_L37 n) y1 y2 y3 y4 v6 h
    else none
    else
    some (0, h)
    else none
set_option maxRecDepth 20000 in
set_option maxHeartbeats 4000000 in
theorem b_X5_worth_L37 : ∀ (n : Nat) (y1 : Nat) (y2 : Int32) (y3 : Bool) (y4 : Int32) (hy1 : XC.1[y1]? = some (.inr (0, 240))) (h : dH), B XC 1 RX5 cX5_worth 6 (some .int) fiI 37 [.ref 42, .ref y1, .int y2, .int (bi y3), .int y4, .null] [] h (f_X5_worth_L37 n y1 y2 y3 y4 h) := by
  intro n
  induction n with
  | zero =>
    intro y1 y2 y3 y4 hy1 h
    exact B_none
  | succ n ih =>
    intro y1 y2 y3 y4 hy1 h
    rw [f_X5_worth_L37]
    refine B_iload dX5_worth_37 rfl ?_
    refine B_aload_n dX5_worth_39 rfl rfl ?_
    refine B_getR dX5_worth_40 fl_X5_24 shC_42 rfl (rfC_42_5 _) ?_
    refine B_aload_n dX5_worth_43 rfl rfl ?_
    refine B_getI dX5_worth_44 fl_X5_15 shC_42 rfl ?_
    refine C_chk (fun q4 => ?_)
    refine L_iald dX5_worth_47 shC_50 q4 rfl ?_
    refine C_icmp_ge (tgt := 255) dX5_worth_48 (by decide) (fun q13 => ?_) (fun q13 => ?_)
    · refine B_iconst dX5_worth_255 ic_0 ?_
      exact B_ireturn dX5_worth_256 rfl rfl
    · refine B_aload_n dX5_worth_51 rfl rfl ?_
      refine B_iload dX5_worth_52 rfl ?_
      refine C_chk (fun q5 => ?_)
      refine L_iald dX5_worth_54 hy1 q5 rfl ?_
      refine B_lv (fun v6 => ?_)
      refine B_istore (ls' := [.ref 42, .ref y1, .int y2, .int (bi y3), .int y4, .int v6]) dX5_worth_55 (Nat.le_of_ble_eq_true rfl) rfl rfl ?_
      refine B_iload_n dX5_worth_57 rfl rfl ?_
      refine C_ifb_eq (tgt := 77) dX5_worth_58 (by decide) (fun q12 => ?_) (fun q12 => ?_)
      · refine B_iload dX5_worth_77 rfl ?_
        refine B_aload_n dX5_worth_79 rfl rfl ?_
        refine B_getR dX5_worth_80 fl_X5_9 shC_42 rfl (rfC_42_0 _) ?_
        refine B_alen (v := 6) dX5_worth_83 shC_43 (by decide) ?_
        refine B_ineg dX5_worth_84 ?_
        refine C_icmp_lt (tgt := 125) dX5_worth_85 (by decide) (fun q10 => ?_) (fun q10 => ?_)
        · exact b_X5_worth_J125 (fun qy1 qy2 qy3 qy4 qhy1 qh => ih qy1 qy2 qy3 qy4 qhy1 qh) y1 y2 y3 y4 v6 hy1 h
        · refine B_iload_n dX5_worth_88 rfl rfl ?_
          refine B_bipush dX5_worth_89 bp_64 ?_
          refine C_icmp_ge (tgt := 125) dX5_worth_91 (by decide) (fun q9 => ?_) (fun q9 => ?_)
          · exact b_X5_worth_J125 (fun qy1 qy2 qy3 qy4 qhy1 qh => ih qy1 qy2 qy3 qy4 qhy1 qh) y1 y2 y3 y4 v6 hy1 h
          · refine B_aload_n dX5_worth_94 rfl rfl ?_
            refine B_getR dX5_worth_95 fl_X5_27 shC_42 rfl (rfC_42_6 _) ?_
            refine B_iload_n dX5_worth_98 rfl rfl ?_
            refine B_iload dX5_worth_99 rfl ?_
            refine C_if_lt (tgt := 109) dX5_worth_101 (by decide) (fun q8 => ?_) (fun q8 => ?_)
            · refine B_aload_n dX5_worth_109 rfl rfl ?_
              refine B_getR dX5_worth_110 fl_X5_9 shC_42 rfl (rfC_42_0 _) ?_
              refine B_iconst dX5_worth_113 ic_m1 ?_
              refine B_iload dX5_worth_114 rfl ?_
              refine B_isub dX5_worth_116 ?_
              refine C_chk (fun q7 => ?_)
              refine L_iald dX5_worth_117 shC_43 q7 rfl ?_
              refine B_drop 5 (ls' := [.ref 42, .ref y1, .int y2, .int (bi y3), .int y4, .null]) rfl ?_
              exact b_X5_worth_J118 (fun qy1 qy2 qy3 qy4 qhy1 qh => ih qy1 qy2 qy3 qy4 qhy1 qh) y1 y2 y3 y4 y2 (h.1 43 (dI ((-1) - v6))) hy1 h
            · refine B_iload dX5_worth_104 rfl ?_
              refine B_goto (tgt := 118) dX5_worth_106 (by decide) ?_
              refine B_drop 5 (ls' := [.ref 42, .ref y1, .int y2, .int (bi y3), .int y4, .null]) rfl ?_
              exact b_X5_worth_J118 (fun qy1 qy2 qy3 qy4 qhy1 qh => ih qy1 qy2 qy3 qy4 qhy1 qh) y1 y2 y3 y4 y2 v6 hy1 h
      · refine B_iload dX5_worth_61 rfl ?_
        refine B_bipush dX5_worth_63 bp_m59 ?_
        refine C_icmp_eq (tgt := 72) dX5_worth_65 (by decide) (fun q11 => ?_) (fun q11 => ?_)
        · refine B_iconst dX5_worth_72 ic_0 ?_
          refine B_drop 3 (ls' := [.ref 42, .ref y1, .int y2, .null, .int y4, .int v6]) rfl ?_
          refine B_drop 5 (ls' := [.ref 42, .ref y1, .int y2, .null, .int y4, .null]) rfl ?_
          exact b_X5_worth_J73 (fun qy1 qy2 qy3 qy4 qhy1 qh => ih qy1 qy2 qy3 qy4 qhy1 qh) y1 y2 y4 false hy1 h
        · refine B_iconst dX5_worth_68 ic_1 ?_
          refine B_goto (tgt := 73) dX5_worth_69 (by decide) ?_
          refine B_drop 3 (ls' := [.ref 42, .ref y1, .int y2, .null, .int y4, .int v6]) rfl ?_
          refine B_drop 5 (ls' := [.ref 42, .ref y1, .int y2, .null, .int y4, .null]) rfl ?_
          exact b_X5_worth_J73 (fun qy1 qy2 qy3 qy4 qhy1 qh => ih qy1 qy2 qy3 qy4 qhy1 qh) y1 y2 y4 true hy1 h
def f_X5_worth (h : dH) : Option (Int32 × dH) :=
  if (h.1 42 2) < 0 then
  some (0, h)
  else
  if (h.1 42 2) < (h.1 42 1) then
  if dIn (h.1 42 2) 5 then
  f_X5_worth_L37 dFu (45 + dI (h.1 42 2)) 0 false 0 h
  else none
  else
  some (0, h)
set_option maxRecDepth 20000 in
set_option maxHeartbeats 4000000 in
theorem t_X5_worth (h : dH) : T XC 1 yX5_worth cX5_worth 6 (some .int) fiI [.ref 42] h (f_X5_worth h) := by
  refine T_of [.ref 42, .null, .null, .null, .null, .null] (by decide) (fun _ => rfl) (fun _ => Nat.le_of_ble_eq_true rfl) ?_
  show B XC 1 RX5 cX5_worth 6 (some .int) fiI 0 [.ref 42, .null, .null, .null, .null, .null] [] h (f_X5_worth h)
  unfold f_X5_worth
  refine B_aload_n dX5_worth_0 rfl rfl ?_
  refine B_getI dX5_worth_1 fl_X5_15 shC_42 rfl ?_
  refine C_if_lt (tgt := 18) dX5_worth_4 (by decide) (fun q3 => ?_) (fun q3 => ?_)
  · refine B_iconst dX5_worth_18 ic_0 ?_
    exact B_ireturn dX5_worth_19 rfl rfl
  · refine B_aload_n dX5_worth_7 rfl rfl ?_
    refine B_getI dX5_worth_8 fl_X5_15 shC_42 rfl ?_
    refine B_aload_n dX5_worth_11 rfl rfl ?_
    refine B_getI dX5_worth_12 fl_X5_34 shC_42 rfl ?_
    refine C_icmp_lt (tgt := 20) dX5_worth_15 (by decide) (fun q2 => ?_) (fun q2 => ?_)
    · refine B_aload_n dX5_worth_20 rfl rfl ?_
      refine B_getR dX5_worth_21 fl_X5_21 shC_42 rfl (rfC_42_4 _) ?_
      refine B_aload_n dX5_worth_24 rfl rfl ?_
      refine B_getI dX5_worth_25 fl_X5_15 shC_42 rfl ?_
      refine C_chk (fun q1 => ?_)
      refine B_aald dX5_worth_28 shC_44 q1 (rrC_44 _ q1) ?_
      refine B_astore_n (ls' := [.ref 42, .ref (45 + dI (h.1 42 2)), .null, .null, .null, .null]) dX5_worth_29 rfl (Nat.le_of_ble_eq_true rfl) rfl rfl ?_
      refine B_iconst dX5_worth_30 ic_0 ?_
      refine B_istore_n (ls' := [.ref 42, .ref (45 + dI (h.1 42 2)), .int 0, .null, .null, .null]) dX5_worth_31 rfl (Nat.le_of_ble_eq_true rfl) rfl rfl ?_
      refine B_iconst dX5_worth_32 ic_0 ?_
      refine B_istore_n (ls' := [.ref 42, .ref (45 + dI (h.1 42 2)), .int 0, .int 0, .null, .null]) dX5_worth_33 rfl (Nat.le_of_ble_eq_true rfl) rfl rfl ?_
      refine B_iconst dX5_worth_34 ic_0 ?_
      refine B_istore (ls' := [.ref 42, .ref (45 + dI (h.1 42 2)), .int 0, .int 0, .int 0, .null]) dX5_worth_35 (Nat.le_of_ble_eq_true rfl) rfl rfl ?_
      exact b_X5_worth_L37 dFu (45 + dI (h.1 42 2)) 0 false 0 (rowC_44 q1) h
    · refine B_iconst dX5_worth_18 ic_0 ?_
      exact B_ireturn dX5_worth_19 rfl rfl
def f_X6_read_L27 : Nat → Int32 → Int32 → Int32 → Int32 → dH → Option (Bool × dH)
  | 0, _, _, _, _, _ => none
  | n + 1, y2, y3, y4, y5, h =>
    if y5 < 0 then
    (some (dPut h 84 3 y2)).bind fun h4 =>
    if y3 = 0 then
    some (true, h4)
    else
    some (false, h4)
    else
    (some ((y3 - y3 / 10 * 10))).bind fun v6 =>
    if (f_X1_isPlace 3 v6 h) then
    if (f_X11_isIn y4 v6 h) then
    some (false, h)
    else
    if dIn y5 7 then
    (some (dPut h 85 (dI y5) v6)).bind fun h8 =>
    (some ((y4 ||| (1 <<< (v6 &&& 31))))).bind fun v9 =>
    (f_X6_read_L27 n) y2 (y3 / 10) v9 (y5 + (-1)) h8
    else none
    else
    some (false, h)
set_option maxRecDepth 20000 in
set_option maxHeartbeats 4000000 in
theorem b_X6_read_L27 : ∀ (n : Nat) (y2 : Int32) (y3 : Int32) (y4 : Int32) (y5 : Int32) (h : dH), B XC 1 RX6 cX6_read 7 (some .boolean) fiC 27 [.ref 84, .null, .int y2, .int y3, .int y4, .int y5, .null] [] h (f_X6_read_L27 n y2 y3 y4 y5 h) := by
  intro n
  induction n with
  | zero =>
    intro y2 y3 y4 y5 h
    exact B_none
  | succ n ih =>
    intro y2 y3 y4 y5 h
    rw [f_X6_read_L27]
    refine B_iload dX6_read_27 rfl ?_
    refine C_if_lt (tgt := 91) dX6_read_29 (by decide) (fun q12 => ?_) (fun q12 => ?_)
    · refine B_aload_n dX6_read_91 rfl rfl ?_
      refine B_iload_n dX6_read_92 rfl rfl ?_
      refine B_putI dX6_read_93 fl_X6_33 fw_X6_3 shC_84 rfl ?_
      refine B_lh (fun h4 => ?_)
      refine B_iload_n dX6_read_96 rfl rfl ?_
      refine C_if_ne (tgt := 104) dX6_read_97 (by decide) (fun q5 => ?_) (fun q5 => ?_)
      · refine B_iconst dX6_read_104 ic_0 ?_
        exact B_zreturn dX6_read_105 rfl rfl rfl
      · refine B_iconst dX6_read_100 ic_1 ?_
        refine B_goto (tgt := 105) dX6_read_101 (by decide) ?_
        exact B_zreturn dX6_read_105 rfl rfl rfl
    · refine B_iload_n dX6_read_32 rfl rfl ?_
      refine B_bipush dX6_read_33 bp_10 ?_
      refine B_irem dX6_read_35 (by decide) ?_
      refine B_lv (fun v6 => ?_)
      refine B_istore (ls' := [.ref 84, .null, .int y2, .int y3, .int y4, .int y5, .int v6]) dX6_read_36 (Nat.le_of_ble_eq_true rfl) rfl rfl ?_
      refine B_aload_n dX6_read_38 rfl rfl ?_
      refine B_getR dX6_read_39 fl_X6_15 shC_84 rfl (rfC_84_0 _) ?_
      refine B_iload dX6_read_42 rfl ?_
      refine B_VTb (st := []) dX6_read_44 cl_X6_23 (t_X1_isPlace 3 shC_3 v6 h) (Nat.le_of_ble_eq_true rfl) shC_3 rfl rfl (Nat.le_of_ble_eq_true rfl) ?_
      refine C_ifb_eq (tgt := 60) dX6_read_47 (by decide) (fun q11 => ?_) (fun q11 => ?_)
      · refine B_iconst dX6_read_60 ic_0 ?_
        exact B_zreturn dX6_read_61 rfl rfl rfl
      · refine B_iload dX6_read_50 rfl ?_
        refine B_iload dX6_read_52 rfl ?_
        refine B_NTb (st := []) dX6_read_54 cl_X6_29 (t_X11_isIn y4 v6 h) (Nat.le_of_ble_eq_true rfl) rfl rfl (Nat.le_of_ble_eq_true rfl) ?_
        refine C_ifb_eq (tgt := 62) dX6_read_57 (by decide) (fun q10 => ?_) (fun q10 => ?_)
        · refine B_aload_n dX6_read_62 rfl rfl ?_
          refine B_getR dX6_read_63 fl_X6_9 shC_84 rfl (rfC_84_2 _) ?_
          refine B_iload dX6_read_66 rfl ?_
          refine B_iload dX6_read_68 rfl ?_
          refine C_chk (fun q7 => ?_)
          refine L_iast dX6_read_70 shC_85 q7 rfl ?_
          refine B_lh (fun h8 => ?_)
          refine B_iload dX6_read_71 rfl ?_
          refine B_iconst dX6_read_73 ic_1 ?_
          refine B_iload dX6_read_74 rfl ?_
          refine B_ishl dX6_read_76 ?_
          refine B_ior dX6_read_77 ?_
          refine B_lv (fun v9 => ?_)
          refine B_istore (ls' := [.ref 84, .null, .int y2, .int y3, .int v9, .int y5, .int v6]) dX6_read_78 (Nat.le_of_ble_eq_true rfl) rfl rfl ?_
          refine B_iload_n dX6_read_80 rfl rfl ?_
          refine B_bipush dX6_read_81 bp_10 ?_
          refine B_idiv dX6_read_83 (by decide) ?_
          refine B_istore_n (ls' := [.ref 84, .null, .int y2, .int (y3 / 10), .int v9, .int y5, .int v6]) dX6_read_84 rfl (Nat.le_of_ble_eq_true rfl) rfl rfl ?_
          refine B_iinc (w := (y5 + (-1))) (ls' := [.ref 84, .null, .int y2, .int (y3 / 10), .int v9, .int (y5 + (-1)), .int v6]) dX6_read_85 rfl (congrArg (fun z => y5 + z) ic_m1) (Nat.le_of_ble_eq_true rfl) rfl rfl ?_
          refine B_goto (tgt := 27) dX6_read_88 (by decide) ?_
          refine B_drop 6 (ls' := [.ref 84, .null, .int y2, .int (y3 / 10), .int v9, .int (y5 + (-1)), .null]) rfl ?_
          exact ih y2 (y3 / 10) v9 (y5 + (-1))  h8
        · refine B_iconst dX6_read_60 ic_0 ?_
          exact B_zreturn dX6_read_61 rfl rfl rfl
def f_X6_read (x1 : Int32) (x2 : Int32) (h : dH) : Option (Bool × dH) :=
  if x1 < 0 then
  some (false, h)
  else
  if x2 < 1 then
  some (false, h)
  else
  if 7 < x2 then
  some (false, h)
  else
  f_X6_read_L27 dFu x2 x1 0 (x2 - 1) h
set_option maxRecDepth 20000 in
set_option maxHeartbeats 4000000 in
theorem t_X6_read (x1 : Int32) (x2 : Int32) (h : dH) : T XC 1 yX6_read cX6_read 7 (some .boolean) fiC [.ref 84, .int x1, .int x2] h (f_X6_read x1 x2 h) := by
  refine T_of [.ref 84, .int x1, .int x2, .null, .null, .null, .null] (by decide) (fun _ => rfl) (fun _ => Nat.le_of_ble_eq_true rfl) ?_
  show B XC 1 RX6 cX6_read 7 (some .boolean) fiC 0 [.ref 84, .int x1, .int x2, .null, .null, .null, .null] [] h (f_X6_read x1 x2 h)
  unfold f_X6_read
  refine B_iload_n dX6_read_0 rfl rfl ?_
  refine C_if_lt (tgt := 15) dX6_read_1 (by decide) (fun q3 => ?_) (fun q3 => ?_)
  · refine B_iconst dX6_read_15 ic_0 ?_
    exact B_zreturn dX6_read_16 rfl rfl rfl
  · refine B_iload_n dX6_read_4 rfl rfl ?_
    refine B_iconst dX6_read_5 ic_1 ?_
    refine C_icmp_lt (tgt := 15) dX6_read_6 (by decide) (fun q2 => ?_) (fun q2 => ?_)
    · refine B_iconst dX6_read_15 ic_0 ?_
      exact B_zreturn dX6_read_16 rfl rfl rfl
    · refine B_iload_n dX6_read_9 rfl rfl ?_
      refine B_bipush dX6_read_10 bp_7 ?_
      refine C_icmp_le (tgt := 17) dX6_read_12 (by decide) (fun q1 => ?_) (fun q1 => ?_)
      · refine B_iload_n dX6_read_17 rfl rfl ?_
        refine B_istore_n (ls' := [.ref 84, .int x1, .int x2, .int x1, .null, .null, .null]) dX6_read_18 rfl (Nat.le_of_ble_eq_true rfl) rfl rfl ?_
        refine B_iconst dX6_read_19 ic_0 ?_
        refine B_istore (ls' := [.ref 84, .int x1, .int x2, .int x1, .int 0, .null, .null]) dX6_read_20 (Nat.le_of_ble_eq_true rfl) rfl rfl ?_
        refine B_iload_n dX6_read_22 rfl rfl ?_
        refine B_iconst dX6_read_23 ic_1 ?_
        refine B_isub dX6_read_24 ?_
        refine B_istore (ls' := [.ref 84, .int x1, .int x2, .int x1, .int 0, .int (x2 - 1), .null]) dX6_read_25 (Nat.le_of_ble_eq_true rfl) rfl rfl ?_
        refine B_drop 1 (ls' := [.ref 84, .null, .int x2, .int x1, .int 0, .int (x2 - 1), .null]) rfl ?_
        exact b_X6_read_L27 dFu x2 x1 0 (x2 - 1) h
      · refine B_iconst dX6_read_15 ic_0 ?_
        exact B_zreturn dX6_read_16 rfl rfl rfl
def f_X8_tired (h : dH) : Int32 :=
  (h.1 67 2)
set_option maxRecDepth 20000 in
set_option maxHeartbeats 4000000 in
theorem t_X8_tired (h : dH) : T XC 0 yX8_tired cX8_tired 1 (some .int) (fiP h) [.ref 66] h (some (f_X8_tired h)) := by
  refine T_of [.ref 66] (by decide) (fun _ => rfl) (fun _ => Nat.le_of_ble_eq_true rfl) ?_
  show B XC 0 RX8 cX8_tired 1 (some .int) (fiP h) 0 [.ref 66] [] h (some (f_X8_tired h))
  unfold f_X8_tired
  refine B_aload_n dX8_tired_0 rfl rfl ?_
  refine B_getR dX8_tired_1 fl_X8_11 shC_66 rfl (rfC_66_2 _) ?_
  refine B_iconst dX8_tired_4 ic_2 ?_
  refine L_iald dX8_tired_5 shC_67 (by decide) di_2 ?_
  exact B_ireturn dX8_tired_6 rfl rfl
def f_X8_place (h : dH) : Int32 :=
  (h.1 67 0)
set_option maxRecDepth 20000 in
set_option maxHeartbeats 4000000 in
theorem t_X8_place (h : dH) : T XC 0 yX8_place cX8_place 1 (some .int) (fiP h) [.ref 66] h (some (f_X8_place h)) := by
  refine T_of [.ref 66] (by decide) (fun _ => rfl) (fun _ => Nat.le_of_ble_eq_true rfl) ?_
  show B XC 0 RX8 cX8_place 1 (some .int) (fiP h) 0 [.ref 66] [] h (some (f_X8_place h))
  unfold f_X8_place
  refine B_aload_n dX8_place_0 rfl rfl ?_
  refine B_getR dX8_place_1 fl_X8_11 shC_66 rfl (rfC_66_2 _) ?_
  refine B_iconst dX8_place_4 ic_0 ?_
  refine L_iald dX8_place_5 shC_67 (by decide) di_0 ?_
  exact B_ireturn dX8_place_6 rfl rfl
def f_X8_couldWalk (t : Nat) (x1 : Int32) (x2 : Int32) (x3 : Int32) (x4 : Int32) (h : dH) : Option (Bool) :=
  if (f_X1_isPlace 3 x4 h) then
  if x4 = x1 then
  some false
  else
  (f_X1_apart 3 x1 x4 h).bind fun v1 =>
  if (h.1 4 0) < (x3 + v1) then
  some false
  else
  if (h.1 4 1) < ((x2 + v1) + 1) then
  some false
  else
  some true
  else
  some false
set_option maxRecDepth 20000 in
set_option maxHeartbeats 4000000 in
theorem t_X8_couldWalk (t : Nat) (ht : XC.1[t]? = some (.inl 8)) (x1 : Int32) (x2 : Int32) (x3 : Int32) (x4 : Int32) (h : dH) : T XC 1 yX8_couldWalk cX8_couldWalk 6 (some .boolean) (fiB h) [.ref t, .int x1, .int x2, .int x3, .int x4] h (f_X8_couldWalk t x1 x2 x3 x4 h) := by
  refine T_of [.ref t, .int x1, .int x2, .int x3, .int x4, .null] (by decide) (fun _ => rfl) (fun _ => Nat.le_of_ble_eq_true rfl) ?_
  show B XC 1 RX8 cX8_couldWalk 6 (some .boolean) (fiB h) 0 [.ref t, .int x1, .int x2, .int x3, .int x4, .null] [] h (f_X8_couldWalk t x1 x2 x3 x4 h)
  unfold f_X8_couldWalk
  refine B_aload_n dX8_couldWalk_0 rfl rfl ?_
  refine B_getR dX8_couldWalk_1 fl_X8_15 ht rfl (rfX8_0 _ ht) ?_
  refine B_iload dX8_couldWalk_4 rfl ?_
  refine B_VTb (st := []) dX8_couldWalk_6 cl_X8_35 (t_X1_isPlace 3 shC_3 x4 h) (Nat.le_of_ble_eq_true rfl) shC_3 rfl rfl (Nat.le_of_ble_eq_true rfl) ?_
  refine C_ifb_eq (tgt := 18) dX8_couldWalk_9 (by decide) (fun q5 => ?_) (fun q5 => ?_)
  · refine B_iconst dX8_couldWalk_18 ic_0 ?_
    exact B_zreturn dX8_couldWalk_19 rfl rfl rfl
  · refine B_iload dX8_couldWalk_12 rfl ?_
    refine B_iload_n dX8_couldWalk_14 rfl rfl ?_
    refine C_icmp_ne (tgt := 20) dX8_couldWalk_15 (by decide) (fun q4 => ?_) (fun q4 => ?_)
    · refine B_aload_n dX8_couldWalk_20 rfl rfl ?_
      refine B_getR dX8_couldWalk_21 fl_X8_15 ht rfl (rfX8_0 _ ht) ?_
      refine B_iload_n dX8_couldWalk_24 rfl rfl ?_
      refine B_iload dX8_couldWalk_25 rfl ?_
      refine B_Vp (st := []) dX8_couldWalk_27 cl_X8_57 (t_X1_apart 3 shC_3 x1 x4 h) (Nat.le_of_ble_eq_true rfl) shC_3 rfl rfl (Nat.le_of_ble_eq_true rfl) (fun v1 _ => ?_)
      refine B_istore (ls' := [.ref t, .int x1, .int x2, .int x3, .int x4, .int v1]) dX8_couldWalk_30 (Nat.le_of_ble_eq_true rfl) rfl rfl ?_
      refine B_iload_n dX8_couldWalk_32 rfl rfl ?_
      refine B_iload dX8_couldWalk_33 rfl ?_
      refine B_iadd dX8_couldWalk_35 ?_
      refine B_aload_n dX8_couldWalk_36 rfl rfl ?_
      refine B_getR dX8_couldWalk_37 fl_X8_15 ht rfl (rfX8_0 _ ht) ?_
      refine B_getR dX8_couldWalk_40 fl_X8_60 shC_3 rfl (rfC_3_0 _) ?_
      refine B_iconst dX8_couldWalk_43 ic_0 ?_
      refine L_iald dX8_couldWalk_44 shC_4 (by decide) di_0 ?_
      refine C_icmp_gt (tgt := 70) dX8_couldWalk_45 (by decide) (fun q3 => ?_) (fun q3 => ?_)
      · refine B_iconst dX8_couldWalk_70 ic_0 ?_
        exact B_zreturn dX8_couldWalk_71 rfl rfl rfl
      · refine B_iload_n dX8_couldWalk_48 rfl rfl ?_
        refine B_iload dX8_couldWalk_49 rfl ?_
        refine B_iadd dX8_couldWalk_51 ?_
        refine B_iconst dX8_couldWalk_52 ic_1 ?_
        refine B_iadd dX8_couldWalk_53 ?_
        refine B_aload_n dX8_couldWalk_54 rfl rfl ?_
        refine B_getR dX8_couldWalk_55 fl_X8_15 ht rfl (rfX8_0 _ ht) ?_
        refine B_getR dX8_couldWalk_58 fl_X8_60 shC_3 rfl (rfC_3_0 _) ?_
        refine B_iconst dX8_couldWalk_61 ic_1 ?_
        refine L_iald dX8_couldWalk_62 shC_4 (by decide) di_1 ?_
        refine C_icmp_gt (tgt := 70) dX8_couldWalk_63 (by decide) (fun q2 => ?_) (fun q2 => ?_)
        · refine B_iconst dX8_couldWalk_70 ic_0 ?_
          exact B_zreturn dX8_couldWalk_71 rfl rfl rfl
        · refine B_iconst dX8_couldWalk_66 ic_1 ?_
          refine B_goto (tgt := 71) dX8_couldWalk_67 (by decide) ?_
          exact B_zreturn dX8_couldWalk_71 rfl rfl rfl
    · refine B_iconst dX8_couldWalk_18 ic_0 ?_
      exact B_zreturn dX8_couldWalk_19 rfl rfl rfl
def f_X6_meetingPlace_L27 (h : dH) : Nat → Int32 → Int32 → Int32 → Int32 → Option (Int32)
  | 0, _, _, _, _ => none
  | n + 1, y1, y2, y3, y4 =>
    if y4 < (h.1 84 3) then
    if dIn y4 7 then
    (some ((h.1 85 (dI y4)))).bind fun v5 =>
    (f_X8_couldWalk 66 y1 y2 y3 v5 h).bind fun v6 =>
    if v6 then
    (f_X1_apart 3 y1 v5 h).bind fun v7 =>
    (f_X1_roundComes v5 h).bind fun v8 =>
    (some (((y2 + v7) - v8))).bind fun v9 =>
    if v9 = 0 then
    some v5
    else
    if v9 = 1 then
    some v5
    else
    (some ((y2 + (v7 + 1)))).bind fun v10 =>
    (f_X6_meetingPlace_L27 h n) v5 v10 (y3 + v7) (y4 + 1)
    else
    some (-1)
    else none
    else
    some (-1)
set_option maxRecDepth 20000 in
set_option maxHeartbeats 4000000 in
theorem b_X6_meetingPlace_L27 (h : dH) : ∀ (n : Nat) (y1 : Int32) (y2 : Int32) (y3 : Int32) (y4 : Int32), B XC 3 RX6 cX6_meetingPlace 8 (some .int) (fiP h) 27 [.ref 84, .int y1, .int y2, .int y3, .int y4, .null, .null, .null] [] h (f_X6_meetingPlace_L27 h n y1 y2 y3 y4) := by
  intro n
  induction n with
  | zero =>
    intro y1 y2 y3 y4
    exact B_none
  | succ n ih =>
    intro y1 y2 y3 y4
    rw [f_X6_meetingPlace_L27]
    refine B_iload dX6_meetingPlace_27 rfl ?_
    refine B_aload_n dX6_meetingPlace_29 rfl rfl ?_
    refine B_getI dX6_meetingPlace_30 fl_X6_33 shC_84 rfl ?_
    refine C_icmp_ge (tgt := 125) dX6_meetingPlace_33 (by decide) (fun q14 => ?_) (fun q14 => ?_)
    · refine B_iconst dX6_meetingPlace_125 ic_m1 ?_
      exact B_ireturn dX6_meetingPlace_126 rfl rfl
    · refine B_aload_n dX6_meetingPlace_36 rfl rfl ?_
      refine B_getR dX6_meetingPlace_37 fl_X6_9 shC_84 rfl (rfC_84_2 _) ?_
      refine B_iload dX6_meetingPlace_40 rfl ?_
      refine C_chk (fun q4 => ?_)
      refine L_iald dX6_meetingPlace_42 shC_85 q4 rfl ?_
      refine B_lv (fun v5 => ?_)
      refine B_istore (ls' := [.ref 84, .int y1, .int y2, .int y3, .int y4, .int v5, .null, .null]) dX6_meetingPlace_43 (Nat.le_of_ble_eq_true rfl) rfl rfl ?_
      refine B_aload_n dX6_meetingPlace_45 rfl rfl ?_
      refine B_getR dX6_meetingPlace_46 fl_X6_19 shC_84 rfl (rfC_84_1 _) ?_
      refine B_iload_n dX6_meetingPlace_49 rfl rfl ?_
      refine B_iload_n dX6_meetingPlace_50 rfl rfl ?_
      refine B_iload_n dX6_meetingPlace_51 rfl rfl ?_
      refine B_iload dX6_meetingPlace_52 rfl ?_
      refine B_Vpb (st := []) dX6_meetingPlace_54 cl_X6_49 (t_X8_couldWalk 66 shC_66 y1 y2 y3 v5 h) (Nat.le_of_ble_eq_true rfl) shC_66 rfl rfl (Nat.le_of_ble_eq_true rfl) (fun v6 _ => ?_)
      refine C_ifb_ne (tgt := 62) dX6_meetingPlace_57 (by decide) (fun q13 => ?_) (fun q13 => ?_)
      · refine B_aload_n dX6_meetingPlace_62 rfl rfl ?_
        refine B_getR dX6_meetingPlace_63 fl_X6_15 shC_84 rfl (rfC_84_0 _) ?_
        refine B_iload_n dX6_meetingPlace_66 rfl rfl ?_
        refine B_iload dX6_meetingPlace_67 rfl ?_
        refine B_Vp (st := []) dX6_meetingPlace_69 cl_X6_53 (t_X1_apart 3 shC_3 y1 v5 h) (Nat.le_of_ble_eq_true rfl) shC_3 rfl rfl (Nat.le_of_ble_eq_true rfl) (fun v7 _ => ?_)
        refine B_istore (ls' := [.ref 84, .int y1, .int y2, .int y3, .int y4, .int v5, .int v7, .null]) dX6_meetingPlace_72 (Nat.le_of_ble_eq_true rfl) rfl rfl ?_
        refine B_iload_n dX6_meetingPlace_74 rfl rfl ?_
        refine B_iload dX6_meetingPlace_75 rfl ?_
        refine B_iadd dX6_meetingPlace_77 ?_
        refine B_aload_n dX6_meetingPlace_78 rfl rfl ?_
        refine B_getR dX6_meetingPlace_79 fl_X6_15 shC_84 rfl (rfC_84_0 _) ?_
        refine B_iload dX6_meetingPlace_82 rfl ?_
        refine B_Vp (st := [.int (y2 + v7)]) dX6_meetingPlace_84 cl_X6_57 (t_X1_roundComes v5 h) (Nat.le_of_ble_eq_true rfl) shC_3 rfl rfl (Nat.le_of_ble_eq_true rfl) (fun v8 _ => ?_)
        refine B_isub dX6_meetingPlace_87 ?_
        refine B_lv (fun v9 => ?_)
        refine B_istore (ls' := [.ref 84, .int y1, .int y2, .int y3, .int y4, .int v5, .int v7, .int v9]) dX6_meetingPlace_88 (Nat.le_of_ble_eq_true rfl) rfl rfl ?_
        refine B_iload dX6_meetingPlace_90 rfl ?_
        refine C_if_eq (tgt := 101) dX6_meetingPlace_92 (by decide) (fun q12 => ?_) (fun q12 => ?_)
        · refine B_iload dX6_meetingPlace_101 rfl ?_
          exact B_ireturn dX6_meetingPlace_103 rfl rfl
        · refine B_iload dX6_meetingPlace_95 rfl ?_
          refine B_iconst dX6_meetingPlace_97 ic_1 ?_
          refine C_icmp_ne (tgt := 104) dX6_meetingPlace_98 (by decide) (fun q11 => ?_) (fun q11 => ?_)
          · refine B_iload dX6_meetingPlace_104 rfl ?_
            refine B_istore_n (ls' := [.ref 84, .int v5, .int y2, .int y3, .int y4, .int v5, .int v7, .int v9]) dX6_meetingPlace_106 rfl (Nat.le_of_ble_eq_true rfl) rfl rfl ?_
            refine B_iload_n dX6_meetingPlace_107 rfl rfl ?_
            refine B_iload dX6_meetingPlace_108 rfl ?_
            refine B_iconst dX6_meetingPlace_110 ic_1 ?_
            refine B_iadd dX6_meetingPlace_111 ?_
            refine B_iadd dX6_meetingPlace_112 ?_
            refine B_lv (fun v10 => ?_)
            refine B_istore_n (ls' := [.ref 84, .int v5, .int v10, .int y3, .int y4, .int v5, .int v7, .int v9]) dX6_meetingPlace_113 rfl (Nat.le_of_ble_eq_true rfl) rfl rfl ?_
            refine B_iload_n dX6_meetingPlace_114 rfl rfl ?_
            refine B_iload dX6_meetingPlace_115 rfl ?_
            refine B_iadd dX6_meetingPlace_117 ?_
            refine B_istore_n (ls' := [.ref 84, .int v5, .int v10, .int (y3 + v7), .int y4, .int v5, .int v7, .int v9]) dX6_meetingPlace_118 rfl (Nat.le_of_ble_eq_true rfl) rfl rfl ?_
            refine B_iinc (w := (y4 + 1)) (ls' := [.ref 84, .int v5, .int v10, .int (y3 + v7), .int (y4 + 1), .int v5, .int v7, .int v9]) dX6_meetingPlace_119 rfl (congrArg (fun z => y4 + z) ic_1) (Nat.le_of_ble_eq_true rfl) rfl rfl ?_
            refine B_goto (tgt := 27) dX6_meetingPlace_122 (by decide) ?_
            refine B_drop 5 (ls' := [.ref 84, .int v5, .int v10, .int (y3 + v7), .int (y4 + 1), .null, .int v7, .int v9]) rfl ?_
            refine B_drop 6 (ls' := [.ref 84, .int v5, .int v10, .int (y3 + v7), .int (y4 + 1), .null, .null, .int v9]) rfl ?_
            refine B_drop 7 (ls' := [.ref 84, .int v5, .int v10, .int (y3 + v7), .int (y4 + 1), .null, .null, .null]) rfl ?_
            exact ih v5 v10 (y3 + v7) (y4 + 1)  
          · refine B_iload dX6_meetingPlace_101 rfl ?_
            exact B_ireturn dX6_meetingPlace_103 rfl rfl
      · refine B_iconst dX6_meetingPlace_60 ic_m1 ?_
        exact B_ireturn dX6_meetingPlace_61 rfl rfl
def f_X6_meetingPlace (h : dH) : Option (Int32) :=
  (some ((f_X8_place h))).bind fun v1 =>
  (some ((f_X8_hour h))).bind fun v2 =>
  (some ((f_X8_tired h))).bind fun v3 =>
  f_X6_meetingPlace_L27 h dFu v1 v2 v3 0
set_option maxRecDepth 20000 in
set_option maxHeartbeats 4000000 in
theorem t_X6_meetingPlace (h : dH) : T XC 3 yX6_meetingPlace cX6_meetingPlace 8 (some .int) (fiP h) [.ref 84] h (f_X6_meetingPlace h) := by
  refine T_of [.ref 84, .null, .null, .null, .null, .null, .null, .null] (by decide) (fun _ => rfl) (fun _ => Nat.le_of_ble_eq_true rfl) ?_
  show B XC 3 RX6 cX6_meetingPlace 8 (some .int) (fiP h) 0 [.ref 84, .null, .null, .null, .null, .null, .null, .null] [] h (f_X6_meetingPlace h)
  unfold f_X6_meetingPlace
  refine B_aload_n dX6_meetingPlace_0 rfl rfl ?_
  refine B_getR dX6_meetingPlace_1 fl_X6_19 shC_84 rfl (rfC_84_1 _) ?_
  refine B_Vt (st := []) dX6_meetingPlace_4 cl_X6_37 (t_X8_place h) (Nat.le_of_ble_eq_true rfl) shC_66 rfl rfl (Nat.le_of_ble_eq_true rfl) ?_
  refine B_lv (fun v1 => ?_)
  refine B_istore_n (ls' := [.ref 84, .int v1, .null, .null, .null, .null, .null, .null]) dX6_meetingPlace_7 rfl (Nat.le_of_ble_eq_true rfl) rfl rfl ?_
  refine B_aload_n dX6_meetingPlace_8 rfl rfl ?_
  refine B_getR dX6_meetingPlace_9 fl_X6_19 shC_84 rfl (rfC_84_1 _) ?_
  refine B_Vt (st := []) dX6_meetingPlace_12 cl_X6_43 (t_X8_hour h) (Nat.le_of_ble_eq_true rfl) shC_66 rfl rfl (Nat.le_of_ble_eq_true rfl) ?_
  refine B_lv (fun v2 => ?_)
  refine B_istore_n (ls' := [.ref 84, .int v1, .int v2, .null, .null, .null, .null, .null]) dX6_meetingPlace_15 rfl (Nat.le_of_ble_eq_true rfl) rfl rfl ?_
  refine B_aload_n dX6_meetingPlace_16 rfl rfl ?_
  refine B_getR dX6_meetingPlace_17 fl_X6_19 shC_84 rfl (rfC_84_1 _) ?_
  refine B_Vt (st := []) dX6_meetingPlace_20 cl_X6_46 (t_X8_tired h) (Nat.le_of_ble_eq_true rfl) shC_66 rfl rfl (Nat.le_of_ble_eq_true rfl) ?_
  refine B_lv (fun v3 => ?_)
  refine B_istore_n (ls' := [.ref 84, .int v1, .int v2, .int v3, .null, .null, .null, .null]) dX6_meetingPlace_23 rfl (Nat.le_of_ble_eq_true rfl) rfl rfl ?_
  refine B_iconst dX6_meetingPlace_24 ic_0 ?_
  refine B_istore (ls' := [.ref 84, .int v1, .int v2, .int v3, .int 0, .null, .null, .null]) dX6_meetingPlace_25 (Nat.le_of_ble_eq_true rfl) rfl rfl ?_
  exact b_X6_meetingPlace_L27 h dFu v1 v2 v3 0
def f_X6_partsOf_J101 (rc_X6_partsOf : Int32 → Int32 → Int32 → Int32 → Int32 → dH → Option (Int32)) (y2 : Int32) (y3 : Int32) (y4 : Int32) (y5 : Int32) (y6 : Int32) (y7 : Int32) (y8 : Int32) (y9 : Int32) (h : dH) : Option (Int32) :=
  (f_X8_couldWalk 66 y3 (y4 + 1) y5 y6 h).bind fun v10 =>
  if v10 then
  (rc_X6_partsOf y8 (y2 + 1) y6 ((y4 + y7) + 2) (y5 + y7) h).bind fun v11 =>
  (some ((y9 + v11))).bind fun v12 =>
  some v12
  else
  some y9
set_option maxRecDepth 20000 in
set_option maxHeartbeats 4000000 in
theorem b_X6_partsOf_J101 {Dr : Nat} {rc_X6_partsOf : Int32 → Int32 → Int32 → Int32 → Int32 → dH → Option (Int32)} (hDr : 2 ≤ Dr) (hrc_X6_partsOf : ∀ (x1 : Int32) (x2 : Int32) (x3 : Int32) (x4 : Int32) (x5 : Int32) (h : dH), T XC Dr yX6_partsOf cX6_partsOf 10 (some .int) (fiP h) [.ref 84, .int x1, .int x2, .int x3, .int x4, .int x5] h (rc_X6_partsOf x1 x2 x3 x4 x5 h)) (h : dH) (y2 : Int32) (y3 : Int32) (y4 : Int32) (y5 : Int32) (y6 : Int32) (y7 : Int32) (y8 : Int32) (y9 : Int32) : B XC (Dr + 1) RX6 cX6_partsOf 10 (some .int) (fiP h) 101 [.ref 84, .null, .int y2, .int y3, .int y4, .int y5, .int y6, .int y7, .int y8, .int y9] [] h (f_X6_partsOf_J101 rc_X6_partsOf y2 y3 y4 y5 y6 y7 y8 y9 h) := by
  unfold f_X6_partsOf_J101
  refine B_aload_n dX6_partsOf_101 rfl rfl ?_
  refine B_getR dX6_partsOf_102 fl_X6_19 shC_84 rfl (rfC_84_1 _) ?_
  refine B_iload_n dX6_partsOf_105 rfl rfl ?_
  refine B_iload dX6_partsOf_106 rfl ?_
  refine B_iconst dX6_partsOf_108 ic_1 ?_
  refine B_iadd dX6_partsOf_109 ?_
  refine B_iload dX6_partsOf_110 rfl ?_
  refine B_iload dX6_partsOf_112 rfl ?_
  refine B_Vpb (st := []) dX6_partsOf_114 cl_X6_49 (t_X8_couldWalk 66 shC_66 y3 (y4 + 1) y5 y6 h) (by omega) shC_66 rfl rfl (Nat.le_of_ble_eq_true rfl) (fun v10 _ => ?_)
  refine C_ifb_eq (tgt := 148) dX6_partsOf_117 (by decide) (fun q13 => ?_) (fun q13 => ?_)
  · refine B_iload dX6_partsOf_148 rfl ?_
    exact B_ireturn dX6_partsOf_150 rfl rfl
  · refine B_iload dX6_partsOf_120 rfl ?_
    refine B_aload_n dX6_partsOf_122 rfl rfl ?_
    refine B_iload dX6_partsOf_123 rfl ?_
    refine B_iload_n dX6_partsOf_125 rfl rfl ?_
    refine B_iconst dX6_partsOf_126 ic_1 ?_
    refine B_iadd dX6_partsOf_127 ?_
    refine B_iload dX6_partsOf_128 rfl ?_
    refine B_iload dX6_partsOf_130 rfl ?_
    refine B_iload dX6_partsOf_132 rfl ?_
    refine B_iadd dX6_partsOf_134 ?_
    refine B_iconst dX6_partsOf_135 ic_2 ?_
    refine B_iadd dX6_partsOf_136 ?_
    refine B_iload dX6_partsOf_137 rfl ?_
    refine B_iload dX6_partsOf_139 rfl ?_
    refine B_iadd dX6_partsOf_141 ?_
    refine B_Vp (st := [.int y9]) dX6_partsOf_142 cl_X6_65 (hrc_X6_partsOf y8 (y2 + 1) y6 ((y4 + y7) + 2) (y5 + y7) h) (by omega) shC_84 rfl rfl (Nat.le_of_ble_eq_true rfl) (fun v11 _ => ?_)
    refine B_iadd dX6_partsOf_145 ?_
    refine B_lv (fun v12 => ?_)
    refine B_istore (ls' := [.ref 84, .null, .int y2, .int y3, .int y4, .int y5, .int y6, .int y7, .int y8, .int v12]) dX6_partsOf_146 (Nat.le_of_ble_eq_true rfl) rfl rfl ?_
    refine B_iload dX6_partsOf_148 rfl ?_
    exact B_ireturn dX6_partsOf_150 rfl rfl
def f_X6_partsOf (rc_X6_partsOf : Int32 → Int32 → Int32 → Int32 → Int32 → dH → Option (Int32)) (x1 : Int32) (x2 : Int32) (x3 : Int32) (x4 : Int32) (x5 : Int32) (h : dH) : Option (Int32) :=
  if x2 < (h.1 84 3) then
  if x2 < 7 then
  if dIn x2 7 then
  (some ((h.1 85 (dI x2)))).bind fun v2 =>
  (f_X1_apart 3 x3 v2 h).bind fun v3 =>
  (some (((((x1 : Int32).toInt64 * ((h.1 84 4) : Int32).toInt64) / 100) : Int64).toInt32)).bind fun v4 =>
  (f_X8_couldWalk 66 x3 x4 x5 v2 h).bind fun v5 =>
  if v5 then
  (rc_X6_partsOf (x1 - v4) (x2 + 1) v2 ((x4 + v3) + 1) (x5 + v3) h).bind fun v6 =>
  f_X6_partsOf_J101 rc_X6_partsOf x2 x3 x4 x5 v2 v3 v4 (0 + v6) h
  else
  f_X6_partsOf_J101 rc_X6_partsOf x2 x3 x4 x5 v2 v3 v4 0 h
  else none
  else
  some x1
  else
  some x1
set_option maxRecDepth 20000 in
set_option maxHeartbeats 4000000 in
theorem t_X6_partsOf {Dr : Nat} {rc_X6_partsOf : Int32 → Int32 → Int32 → Int32 → Int32 → dH → Option (Int32)} (hDr : 2 ≤ Dr) (hrc_X6_partsOf : ∀ (x1 : Int32) (x2 : Int32) (x3 : Int32) (x4 : Int32) (x5 : Int32) (h : dH), T XC Dr yX6_partsOf cX6_partsOf 10 (some .int) (fiP h) [.ref 84, .int x1, .int x2, .int x3, .int x4, .int x5] h (rc_X6_partsOf x1 x2 x3 x4 x5 h)) (x1 : Int32) (x2 : Int32) (x3 : Int32) (x4 : Int32) (x5 : Int32) (h : dH) : T XC (Dr + 1) yX6_partsOf cX6_partsOf 10 (some .int) (fiP h) [.ref 84, .int x1, .int x2, .int x3, .int x4, .int x5] h (f_X6_partsOf rc_X6_partsOf x1 x2 x3 x4 x5 h) := by
  refine T_of [.ref 84, .int x1, .int x2, .int x3, .int x4, .int x5, .null, .null, .null, .null] (by decide) (fun _ => rfl) (fun _ => Nat.le_of_ble_eq_true rfl) ?_
  show B XC (Dr + 1) RX6 cX6_partsOf 10 (some .int) (fiP h) 0 [.ref 84, .int x1, .int x2, .int x3, .int x4, .int x5, .null, .null, .null, .null] [] h (f_X6_partsOf rc_X6_partsOf x1 x2 x3 x4 x5 h)
  unfold f_X6_partsOf
  refine B_iload_n dX6_partsOf_0 rfl rfl ?_
  refine B_aload_n dX6_partsOf_1 rfl rfl ?_
  refine B_getI dX6_partsOf_2 fl_X6_33 shC_84 rfl ?_
  refine C_icmp_ge (tgt := 14) dX6_partsOf_5 (by decide) (fun q9 => ?_) (fun q9 => ?_)
  · refine B_iload_n dX6_partsOf_14 rfl rfl ?_
    exact B_ireturn dX6_partsOf_15 rfl rfl
  · refine B_iload_n dX6_partsOf_8 rfl rfl ?_
    refine B_bipush dX6_partsOf_9 bp_7 ?_
    refine C_icmp_lt (tgt := 16) dX6_partsOf_11 (by decide) (fun q8 => ?_) (fun q8 => ?_)
    · refine B_aload_n dX6_partsOf_16 rfl rfl ?_
      refine B_getR dX6_partsOf_17 fl_X6_9 shC_84 rfl (rfC_84_2 _) ?_
      refine B_iload_n dX6_partsOf_20 rfl rfl ?_
      refine C_chk (fun q1 => ?_)
      refine L_iald dX6_partsOf_21 shC_85 q1 rfl ?_
      refine B_lv (fun v2 => ?_)
      refine B_istore (ls' := [.ref 84, .int x1, .int x2, .int x3, .int x4, .int x5, .int v2, .null, .null, .null]) dX6_partsOf_22 (Nat.le_of_ble_eq_true rfl) rfl rfl ?_
      refine B_aload_n dX6_partsOf_24 rfl rfl ?_
      refine B_getR dX6_partsOf_25 fl_X6_15 shC_84 rfl (rfC_84_0 _) ?_
      refine B_iload_n dX6_partsOf_28 rfl rfl ?_
      refine B_iload dX6_partsOf_29 rfl ?_
      refine B_Vp (st := []) dX6_partsOf_31 cl_X6_53 (t_X1_apart 3 shC_3 x3 v2 h) (by omega) shC_3 rfl rfl (Nat.le_of_ble_eq_true rfl) (fun v3 _ => ?_)
      refine B_istore (ls' := [.ref 84, .int x1, .int x2, .int x3, .int x4, .int x5, .int v2, .int v3, .null, .null]) dX6_partsOf_34 (Nat.le_of_ble_eq_true rfl) rfl rfl ?_
      refine B_iload_n dX6_partsOf_36 rfl rfl ?_
      refine B_i2l dX6_partsOf_37 ?_
      refine B_aload_n dX6_partsOf_38 rfl rfl ?_
      refine B_getI dX6_partsOf_39 fl_X6_61 shC_84 rfl ?_
      refine B_i2l dX6_partsOf_42 ?_
      refine B_lmul dX6_partsOf_43 ?_
      refine B_ldc2 dX6_partsOf_44 kc_X6_69 ?_
      refine B_ldiv dX6_partsOf_47 (by decide) ?_
      refine B_l2i dX6_partsOf_48 ?_
      refine B_lv (fun v4 => ?_)
      refine B_istore (ls' := [.ref 84, .int x1, .int x2, .int x3, .int x4, .int x5, .int v2, .int v3, .int v4, .null]) dX6_partsOf_49 (Nat.le_of_ble_eq_true rfl) rfl rfl ?_
      refine B_iconst dX6_partsOf_51 ic_0 ?_
      refine B_istore (ls' := [.ref 84, .int x1, .int x2, .int x3, .int x4, .int x5, .int v2, .int v3, .int v4, .int 0]) dX6_partsOf_52 (Nat.le_of_ble_eq_true rfl) rfl rfl ?_
      refine B_aload_n dX6_partsOf_54 rfl rfl ?_
      refine B_getR dX6_partsOf_55 fl_X6_19 shC_84 rfl (rfC_84_1 _) ?_
      refine B_iload_n dX6_partsOf_58 rfl rfl ?_
      refine B_iload dX6_partsOf_59 rfl ?_
      refine B_iload dX6_partsOf_61 rfl ?_
      refine B_iload dX6_partsOf_63 rfl ?_
      refine B_Vpb (st := []) dX6_partsOf_65 cl_X6_49 (t_X8_couldWalk 66 shC_66 x3 x4 x5 v2 h) (by omega) shC_66 rfl rfl (Nat.le_of_ble_eq_true rfl) (fun v5 _ => ?_)
      refine C_ifb_eq (tgt := 101) dX6_partsOf_68 (by decide) (fun q7 => ?_) (fun q7 => ?_)
      · refine B_drop 1 (ls' := [.ref 84, .null, .int x2, .int x3, .int x4, .int x5, .int v2, .int v3, .int v4, .int 0]) rfl ?_
        exact b_X6_partsOf_J101 hDr hrc_X6_partsOf h x2 x3 x4 x5 v2 v3 v4 0
      · refine B_iload dX6_partsOf_71 rfl ?_
        refine B_aload_n dX6_partsOf_73 rfl rfl ?_
        refine B_iload_n dX6_partsOf_74 rfl rfl ?_
        refine B_iload dX6_partsOf_75 rfl ?_
        refine B_isub dX6_partsOf_77 ?_
        refine B_iload_n dX6_partsOf_78 rfl rfl ?_
        refine B_iconst dX6_partsOf_79 ic_1 ?_
        refine B_iadd dX6_partsOf_80 ?_
        refine B_iload dX6_partsOf_81 rfl ?_
        refine B_iload dX6_partsOf_83 rfl ?_
        refine B_iload dX6_partsOf_85 rfl ?_
        refine B_iadd dX6_partsOf_87 ?_
        refine B_iconst dX6_partsOf_88 ic_1 ?_
        refine B_iadd dX6_partsOf_89 ?_
        refine B_iload dX6_partsOf_90 rfl ?_
        refine B_iload dX6_partsOf_92 rfl ?_
        refine B_iadd dX6_partsOf_94 ?_
        refine B_Vp (st := [.int 0]) dX6_partsOf_95 cl_X6_65 (hrc_X6_partsOf (x1 - v4) (x2 + 1) v2 ((x4 + v3) + 1) (x5 + v3) h) (by omega) shC_84 rfl rfl (Nat.le_of_ble_eq_true rfl) (fun v6 _ => ?_)
        refine B_iadd dX6_partsOf_98 ?_
        refine B_istore (ls' := [.ref 84, .int x1, .int x2, .int x3, .int x4, .int x5, .int v2, .int v3, .int v4, .int (0 + v6)]) dX6_partsOf_99 (Nat.le_of_ble_eq_true rfl) rfl rfl ?_
        refine B_drop 1 (ls' := [.ref 84, .null, .int x2, .int x3, .int x4, .int x5, .int v2, .int v3, .int v4, .int (0 + v6)]) rfl ?_
        exact b_X6_partsOf_J101 hDr hrc_X6_partsOf h x2 x3 x4 x5 v2 v3 v4 (0 + v6)
    · refine B_iload_n dX6_partsOf_14 rfl rfl ?_
      exact B_ireturn dX6_partsOf_15 rfl rfl
def g_X6_partsOf : Nat → (Int32 → Int32 → Int32 → Int32 → Int32 → dH → Option (Int32))
  | 0 => (fun _ _ _ _ _ _ => none)
  | n + 1 => (f_X6_partsOf (g_X6_partsOf n))
def r_X6_partsOf (n : Nat) : Int32 → Int32 → Int32 → Int32 → Int32 → dH → Option (Int32) := (g_X6_partsOf n)
set_option maxRecDepth 20000 in
set_option maxHeartbeats 4000000 in
theorem t_g_X6_partsOf : ∀ n : Nat, (∀ (x1 : Int32) (x2 : Int32) (x3 : Int32) (x4 : Int32) (x5 : Int32) (h : dH), T XC (2 + n) yX6_partsOf cX6_partsOf 10 (some .int) (fiP h) [.ref 84, .int x1, .int x2, .int x3, .int x4, .int x5] h (r_X6_partsOf n x1 x2 x3 x4 x5 h)) := by
  intro n
  induction n with
  | zero =>
    exact fun _ _ _ _ _ _ => T_none
  | succ n ih =>
    exact fun x1 x2 x3 x4 x5 h => (t_X6_partsOf (Nat.le_add_right 2 n) ih x1 x2 x3 x4 x5 h : T _ (2 + n + 1) _ _ _ _ _ _ _ _)
theorem t_X6_partsOf_r : ∀ (x1 : Int32) (x2 : Int32) (x3 : Int32) (x4 : Int32) (x5 : Int32) (h : dH), T XC 11 yX6_partsOf cX6_partsOf 10 (some .int) (fiP h) [.ref 84, .int x1, .int x2, .int x3, .int x4, .int x5] h (r_X6_partsOf 9 x1 x2 x3 x4 x5 h) := (t_g_X6_partsOf 9)
def f_X6_partsThatWalk (x1 : Int32) (h : dH) : Option (Int32 × dH) :=
  (some (dPut h 84 4 x1)).bind fun h1 =>
  ((r_X6_partsOf 9) 1000000000 0 (f_X8_place h1) (f_X8_hour h1) (f_X8_tired h1) h1).bind fun v2 =>
  some (v2, h1)
set_option maxRecDepth 20000 in
set_option maxHeartbeats 4000000 in
theorem t_X6_partsThatWalk (x1 : Int32) (h : dH) : T XC 12 yX6_partsThatWalk cX6_partsThatWalk 2 (some .int) fiI [.ref 84, .int x1] h (f_X6_partsThatWalk x1 h) := by
  refine T_of [.ref 84, .int x1] (by decide) (fun _ => rfl) (fun _ => Nat.le_of_ble_eq_true rfl) ?_
  show B XC 12 RX6 cX6_partsThatWalk 2 (some .int) fiI 0 [.ref 84, .int x1] [] h (f_X6_partsThatWalk x1 h)
  unfold f_X6_partsThatWalk
  refine B_aload_n dX6_partsThatWalk_0 rfl rfl ?_
  refine B_iload_n dX6_partsThatWalk_1 rfl rfl ?_
  refine B_putI dX6_partsThatWalk_2 fl_X6_61 fw_X6_4 shC_84 rfl ?_
  refine B_lh (fun h1 => ?_)
  refine B_aload_n dX6_partsThatWalk_5 rfl rfl ?_
  refine B_ldc dX6_partsThatWalk_6 kc_X6_64 ?_
  refine B_iconst dX6_partsThatWalk_8 ic_0 ?_
  refine B_aload_n dX6_partsThatWalk_9 rfl rfl ?_
  refine B_getR dX6_partsThatWalk_10 fl_X6_19 shC_84 rfl (rfC_84_1 _) ?_
  refine B_Vt (st := [.int 0, .int 1000000000, .ref 84]) dX6_partsThatWalk_13 cl_X6_37 (t_X8_place h1) (Nat.le_of_ble_eq_true rfl) shC_66 rfl rfl (Nat.le_of_ble_eq_true rfl) ?_
  refine B_aload_n dX6_partsThatWalk_16 rfl rfl ?_
  refine B_getR dX6_partsThatWalk_17 fl_X6_19 shC_84 rfl (rfC_84_1 _) ?_
  refine B_Vt (st := [.int (f_X8_place h1), .int 0, .int 1000000000, .ref 84]) dX6_partsThatWalk_20 cl_X6_43 (t_X8_hour h1) (Nat.le_of_ble_eq_true rfl) shC_66 rfl rfl (Nat.le_of_ble_eq_true rfl) ?_
  refine B_aload_n dX6_partsThatWalk_23 rfl rfl ?_
  refine B_getR dX6_partsThatWalk_24 fl_X6_19 shC_84 rfl (rfC_84_1 _) ?_
  refine B_Vt (st := [.int (f_X8_hour h1), .int (f_X8_place h1), .int 0, .int 1000000000, .ref 84]) dX6_partsThatWalk_27 cl_X6_46 (t_X8_tired h1) (Nat.le_of_ble_eq_true rfl) shC_66 rfl rfl (Nat.le_of_ble_eq_true rfl) ?_
  refine B_Vp (st := []) dX6_partsThatWalk_30 cl_X6_65 (t_X6_partsOf_r 1000000000 0 (f_X8_place h1) (f_X8_hour h1) (f_X8_tired h1) h1) (Nat.le_of_ble_eq_true rfl) shC_84 rfl rfl (Nat.le_of_ble_eq_true rfl) (fun v2 _ => ?_)
  exact B_ireturn dX6_partsThatWalk_33 rfl rfl
def f_X8_visitsOf (t : Nat) (x1 : Int32) (h : dH) : Option (Int32) :=
  if (f_X1_isPlace 3 x1 h) then
  if dIn (7 + x1) 28 then
  some (h.1 (t + 1) (dI (7 + x1)))
  else none
  else
  some 0
set_option maxRecDepth 20000 in
set_option maxHeartbeats 4000000 in
theorem t_X8_visitsOf (t : Nat) (ht : XC.1[t]? = some (.inl 8)) (x1 : Int32) (h : dH) : T XC 1 yX8_visitsOf cX8_visitsOf 2 (some .int) (fiP h) [.ref t, .int x1] h (f_X8_visitsOf t x1 h) := by
  refine T_of [.ref t, .int x1] (by decide) (fun _ => rfl) (fun _ => Nat.le_of_ble_eq_true rfl) ?_
  show B XC 1 RX8 cX8_visitsOf 2 (some .int) (fiP h) 0 [.ref t, .int x1] [] h (f_X8_visitsOf t x1 h)
  unfold f_X8_visitsOf
  refine B_aload_n dX8_visitsOf_0 rfl rfl ?_
  refine B_getR dX8_visitsOf_1 fl_X8_15 ht rfl (rfX8_0 _ ht) ?_
  refine B_iload_n dX8_visitsOf_4 rfl rfl ?_
  refine B_VTb (st := []) dX8_visitsOf_5 cl_X8_35 (t_X1_isPlace 3 shC_3 x1 h) (Nat.le_of_ble_eq_true rfl) shC_3 rfl rfl (Nat.le_of_ble_eq_true rfl) ?_
  refine C_ifb_eq (tgt := 23) dX8_visitsOf_8 (by decide) (fun q2 => ?_) (fun q2 => ?_)
  · refine B_iconst dX8_visitsOf_23 ic_0 ?_
    exact B_ireturn dX8_visitsOf_24 rfl rfl
  · refine B_aload_n dX8_visitsOf_11 rfl rfl ?_
    refine B_getR dX8_visitsOf_12 fl_X8_11 ht rfl (rfX8_2 _ ht) ?_
    refine B_bipush dX8_visitsOf_15 bp_7 ?_
    refine B_iload_n dX8_visitsOf_17 rfl rfl ?_
    refine B_iadd dX8_visitsOf_18 ?_
    refine C_chk (fun q1 => ?_)
    refine L_iald dX8_visitsOf_19 (shX8_2 ht) q1 rfl ?_
    refine B_goto (tgt := 24) dX8_visitsOf_20 (by decide) ?_
    exact B_ireturn dX8_visitsOf_24 rfl rfl
def f_X7_newAt (x1 : Int32) (h : dH) : Option (Int32) :=
  (f_X8_visitsOf 66 x1 h).bind fun v1 =>
  if v1 = 0 then
  (f_X1_toldOf 3 x1 3 h).bind fun v2 =>
  some v2
  else
  some 0
set_option maxRecDepth 20000 in
set_option maxHeartbeats 4000000 in
theorem t_X7_newAt (x1 : Int32) (h : dH) : T XC 2 yX7_newAt cX7_newAt 2 (some .int) (fiP h) [.ref 83, .int x1] h (f_X7_newAt x1 h) := by
  refine T_of [.ref 83, .int x1] (by decide) (fun _ => rfl) (fun _ => Nat.le_of_ble_eq_true rfl) ?_
  show B XC 2 RX7 cX7_newAt 2 (some .int) (fiP h) 0 [.ref 83, .int x1] [] h (f_X7_newAt x1 h)
  unfold f_X7_newAt
  refine B_aload_n dX7_newAt_0 rfl rfl ?_
  refine B_getR dX7_newAt_1 fl_X7_15 shC_83 rfl (rfC_83_4 _) ?_
  refine B_iload_n dX7_newAt_4 rfl rfl ?_
  refine B_Vp (st := []) dX7_newAt_5 cl_X7_90 (t_X8_visitsOf 66 shC_66 x1 h) (Nat.le_of_ble_eq_true rfl) shC_66 rfl rfl (Nat.le_of_ble_eq_true rfl) (fun v1 _ => ?_)
  refine C_if_ne (tgt := 23) dX7_newAt_8 (by decide) (fun q3 => ?_) (fun q3 => ?_)
  · refine B_iconst dX7_newAt_23 ic_0 ?_
    exact B_ireturn dX7_newAt_24 rfl rfl
  · refine B_aload_n dX7_newAt_11 rfl rfl ?_
    refine B_getR dX7_newAt_12 fl_X7_9 shC_83 rfl (rfC_83_3 _) ?_
    refine B_iload_n dX7_newAt_15 rfl rfl ?_
    refine B_iconst dX7_newAt_16 ic_3 ?_
    refine B_Vp (st := []) dX7_newAt_17 cl_X7_93 (t_X1_toldOf 3 shC_3 x1 3 h) (Nat.le_of_ble_eq_true rfl) shC_3 rfl rfl (Nat.le_of_ble_eq_true rfl) (fun v2 _ => ?_)
    refine B_goto (tgt := 24) dX7_newAt_20 (by decide) ?_
    exact B_ireturn dX7_newAt_24 rfl rfl
def f_X7_leftToSee_J33 (kL4 : Int32 → Int32 → Int32 → Option (Int32)) (y1 : Int32) (y3 : Int32) (z0 : Int32) (z1 : Int32) (h : dH) : Option (Int32) :=
  kL4 y1 (z0 + z1) (y3 + 1)
set_option maxRecDepth 20000 in
set_option maxHeartbeats 4000000 in
theorem b_X7_leftToSee_J33 {kL4 : Int32 → Int32 → Int32 → Option (Int32)} (h : dH) (hkL4 : ∀ (y1 : Int32) (y2 : Int32) (y3 : Int32), B XC 3 RX7 cX7_leftToSee 4 (some .int) (fiP h) 4 [.ref 83, .int y1, .int y2, .int y3] [] h (kL4 y1 y2 y3)) (y1 : Int32) (y3 : Int32) (z0 : Int32) (z1 : Int32) : B XC 3 RX7 cX7_leftToSee 4 (some .int) (fiP h) 33 [.ref 83, .int y1, .null, .int y3] [.int z1, .int z0] h (f_X7_leftToSee_J33 kL4 y1 y3 z0 z1 h) := by
  unfold f_X7_leftToSee_J33
  refine B_iadd dX7_leftToSee_33 ?_
  refine B_istore_n (ls' := [.ref 83, .int y1, .int (z0 + z1), .int y3]) dX7_leftToSee_34 rfl (Nat.le_of_ble_eq_true rfl) rfl rfl ?_
  refine B_iinc (w := (y3 + 1)) (ls' := [.ref 83, .int y1, .int (z0 + z1), .int (y3 + 1)]) dX7_leftToSee_35 rfl (congrArg (fun z => y3 + z) ic_1) (Nat.le_of_ble_eq_true rfl) rfl rfl ?_
  refine B_goto (tgt := 4) dX7_leftToSee_38 (by decide) ?_
  exact hkL4 y1 (z0 + z1) (y3 + 1)  
def f_X7_leftToSee_L4 (h : dH) : Nat → Int32 → Int32 → Int32 → Option (Int32)
  | 0, _, _, _ => none
  | n + 1, y1, y2, y3 =>
    if y3 < (h.1 3 2) then
    if (f_X11_isIn y1 y3 h) then
    f_X7_leftToSee_J33 (f_X7_leftToSee_L4 h n) y1 y3 y2 0 h
    else
    (f_X7_newAt y3 h).bind fun v1 =>
    f_X7_leftToSee_J33 (f_X7_leftToSee_L4 h n) y1 y3 y2 v1 h
    else
    some y2
set_option maxRecDepth 20000 in
set_option maxHeartbeats 4000000 in
theorem b_X7_leftToSee_L4 (h : dH) : ∀ (n : Nat) (y1 : Int32) (y2 : Int32) (y3 : Int32), B XC 3 RX7 cX7_leftToSee 4 (some .int) (fiP h) 4 [.ref 83, .int y1, .int y2, .int y3] [] h (f_X7_leftToSee_L4 h n y1 y2 y3) := by
  intro n
  induction n with
  | zero =>
    intro y1 y2 y3
    exact B_none
  | succ n ih =>
    intro y1 y2 y3
    rw [f_X7_leftToSee_L4]
    refine B_iload_n dX7_leftToSee_4 rfl rfl ?_
    refine B_aload_n dX7_leftToSee_5 rfl rfl ?_
    refine B_getR dX7_leftToSee_6 fl_X7_9 shC_83 rfl (rfC_83_3 _) ?_
    refine B_getI dX7_leftToSee_9 fl_X7_64 shC_3 rfl ?_
    refine C_icmp_ge (tgt := 41) dX7_leftToSee_12 (by decide) (fun q3 => ?_) (fun q3 => ?_)
    · refine B_iload_n dX7_leftToSee_41 rfl rfl ?_
      exact B_ireturn dX7_leftToSee_42 rfl rfl
    · refine B_iload_n dX7_leftToSee_15 rfl rfl ?_
      refine B_iload_n dX7_leftToSee_16 rfl rfl ?_
      refine B_iload_n dX7_leftToSee_17 rfl rfl ?_
      refine B_NTb (st := [.int y2]) dX7_leftToSee_18 cl_X7_69 (t_X11_isIn y1 y3 h) (Nat.le_of_ble_eq_true rfl) rfl rfl (Nat.le_of_ble_eq_true rfl) ?_
      refine C_ifb_eq (tgt := 28) dX7_leftToSee_21 (by decide) (fun q2 => ?_) (fun q2 => ?_)
      · refine B_aload_n dX7_leftToSee_28 rfl rfl ?_
        refine B_iload_n dX7_leftToSee_29 rfl rfl ?_
        refine B_Vp (st := [.int y2]) dX7_leftToSee_30 cl_X7_87 (t_X7_newAt y3 h) (Nat.le_of_ble_eq_true rfl) shC_83 rfl rfl (Nat.le_of_ble_eq_true rfl) (fun v1 _ => ?_)
        refine B_drop 2 (ls' := [.ref 83, .int y1, .null, .int y3]) rfl ?_
        exact b_X7_leftToSee_J33 h (fun qy1 qy2 qy3 => ih qy1 qy2 qy3) y1 y3 y2 v1
      · refine B_iconst dX7_leftToSee_24 ic_0 ?_
        refine B_goto (tgt := 33) dX7_leftToSee_25 (by decide) ?_
        refine B_drop 2 (ls' := [.ref 83, .int y1, .null, .int y3]) rfl ?_
        exact b_X7_leftToSee_J33 h (fun qy1 qy2 qy3 => ih qy1 qy2 qy3) y1 y3 y2 0
def f_X7_leftToSee (x1 : Int32) (h : dH) : Option (Int32) :=
  f_X7_leftToSee_L4 h dFu x1 0 0
set_option maxRecDepth 20000 in
set_option maxHeartbeats 4000000 in
theorem t_X7_leftToSee (x1 : Int32) (h : dH) : T XC 3 yX7_leftToSee cX7_leftToSee 4 (some .int) (fiP h) [.ref 83, .int x1] h (f_X7_leftToSee x1 h) := by
  refine T_of [.ref 83, .int x1, .null, .null] (by decide) (fun _ => rfl) (fun _ => Nat.le_of_ble_eq_true rfl) ?_
  show B XC 3 RX7 cX7_leftToSee 4 (some .int) (fiP h) 0 [.ref 83, .int x1, .null, .null] [] h (f_X7_leftToSee x1 h)
  unfold f_X7_leftToSee
  refine B_iconst dX7_leftToSee_0 ic_0 ?_
  refine B_istore_n (ls' := [.ref 83, .int x1, .int 0, .null]) dX7_leftToSee_1 rfl (Nat.le_of_ble_eq_true rfl) rfl rfl ?_
  refine B_iconst dX7_leftToSee_2 ic_0 ?_
  refine B_istore_n (ls' := [.ref 83, .int x1, .int 0, .int 0]) dX7_leftToSee_3 rfl (Nat.le_of_ble_eq_true rfl) rfl rfl ?_
  exact b_X7_leftToSee_L4 h dFu x1 0 0
def f_X7_isBorneBy (x1 : Int32) (x2 : Int32) (h : dH) : Option (Bool) :=
  (f_X8_isTooMuch x1 0 h).bind fun v1 =>
  if v1 then
  some true
  else
  (f_X8_isTooMuch x1 x2 h).bind fun v2 =>
  if v2 then
  some false
  else
  some true
set_option maxRecDepth 20000 in
set_option maxHeartbeats 4000000 in
theorem t_X7_isBorneBy (x1 : Int32) (x2 : Int32) (h : dH) : T XC 3 yX7_isBorneBy cX7_isBorneBy 3 (some .boolean) (fiB h) [.ref 83, .int x1, .int x2] h (f_X7_isBorneBy x1 x2 h) := by
  refine T_of [.ref 83, .int x1, .int x2] (by decide) (fun _ => rfl) (fun _ => Nat.le_of_ble_eq_true rfl) ?_
  show B XC 3 RX7 cX7_isBorneBy 3 (some .boolean) (fiB h) 0 [.ref 83, .int x1, .int x2] [] h (f_X7_isBorneBy x1 x2 h)
  unfold f_X7_isBorneBy
  refine B_aload_n dX7_isBorneBy_0 rfl rfl ?_
  refine B_getR dX7_isBorneBy_1 fl_X7_15 shC_83 rfl (rfC_83_4 _) ?_
  refine B_iload_n dX7_isBorneBy_4 rfl rfl ?_
  refine B_iconst dX7_isBorneBy_5 ic_0 ?_
  refine B_Vpb (st := []) dX7_isBorneBy_6 cl_X7_96 (t_X8_isTooMuch x1 0 h) (Nat.le_of_ble_eq_true rfl) shC_66 rfl rfl (Nat.le_of_ble_eq_true rfl) (fun v1 _ => ?_)
  refine C_ifb_ne (tgt := 24) dX7_isBorneBy_9 (by decide) (fun q4 => ?_) (fun q4 => ?_)
  · refine B_iconst dX7_isBorneBy_24 ic_1 ?_
    refine B_goto (tgt := 29) dX7_isBorneBy_25 (by decide) ?_
    exact B_zreturn dX7_isBorneBy_29 rfl rfl rfl
  · refine B_aload_n dX7_isBorneBy_12 rfl rfl ?_
    refine B_getR dX7_isBorneBy_13 fl_X7_15 shC_83 rfl (rfC_83_4 _) ?_
    refine B_iload_n dX7_isBorneBy_16 rfl rfl ?_
    refine B_iload_n dX7_isBorneBy_17 rfl rfl ?_
    refine B_Vpb (st := []) dX7_isBorneBy_18 cl_X7_96 (t_X8_isTooMuch x1 x2 h) (Nat.le_of_ble_eq_true rfl) shC_66 rfl rfl (Nat.le_of_ble_eq_true rfl) (fun v2 _ => ?_)
    refine C_ifb_ne (tgt := 28) dX7_isBorneBy_21 (by decide) (fun q3 => ?_) (fun q3 => ?_)
    · refine B_iconst dX7_isBorneBy_28 ic_0 ?_
      exact B_zreturn dX7_isBorneBy_29 rfl rfl rfl
    · refine B_iconst dX7_isBorneBy_24 ic_1 ?_
      refine B_goto (tgt := 29) dX7_isBorneBy_25 (by decide) ?_
      exact B_zreturn dX7_isBorneBy_29 rfl rfl rfl
def f_X7_leftPlaces_J37 (kL4 : Int32 → Int32 → Int32 → Option (Int32)) (y1 : Int32) (y3 : Int32) (z0 : Int32) (z1 : Bool) (h : dH) : Option (Int32) :=
  (some ((z0 + (bi z1)))).bind fun v5 =>
  kL4 y1 v5 (y3 + 1)
set_option maxRecDepth 20000 in
set_option maxHeartbeats 4000000 in
theorem b_X7_leftPlaces_J37 {kL4 : Int32 → Int32 → Int32 → Option (Int32)} (h : dH) (hkL4 : ∀ (y1 : Int32) (y2 : Int32) (y3 : Int32), B XC 3 RX7 cX7_leftPlaces 4 (some .int) (fiP h) 4 [.ref 83, .int y1, .int y2, .int y3] [] h (kL4 y1 y2 y3)) (y1 : Int32) (y3 : Int32) (z0 : Int32) (z1 : Bool) : B XC 3 RX7 cX7_leftPlaces 4 (some .int) (fiP h) 37 [.ref 83, .int y1, .null, .int y3] [.int (bi z1), .int z0] h (f_X7_leftPlaces_J37 kL4 y1 y3 z0 z1 h) := by
  unfold f_X7_leftPlaces_J37
  refine B_iadd dX7_leftPlaces_37 ?_
  refine B_lv (fun v5 => ?_)
  refine B_istore_n (ls' := [.ref 83, .int y1, .int v5, .int y3]) dX7_leftPlaces_38 rfl (Nat.le_of_ble_eq_true rfl) rfl rfl ?_
  refine B_iinc (w := (y3 + 1)) (ls' := [.ref 83, .int y1, .int v5, .int (y3 + 1)]) dX7_leftPlaces_39 rfl (congrArg (fun z => y3 + z) ic_1) (Nat.le_of_ble_eq_true rfl) rfl rfl ?_
  refine B_goto (tgt := 4) dX7_leftPlaces_42 (by decide) ?_
  exact hkL4 y1 v5 (y3 + 1)  
def f_X7_leftPlaces_J32 (kL4 : Int32 → Int32 → Int32 → Option (Int32)) (y1 : Int32) (y3 : Int32) (z0 : Int32) (h : dH) : Option (Int32) :=
  f_X7_leftPlaces_J37 kL4 y1 y3 z0 false h
set_option maxRecDepth 20000 in
set_option maxHeartbeats 4000000 in
theorem b_X7_leftPlaces_J32 {kL4 : Int32 → Int32 → Int32 → Option (Int32)} (h : dH) (hkL4 : ∀ (y1 : Int32) (y2 : Int32) (y3 : Int32), B XC 3 RX7 cX7_leftPlaces 4 (some .int) (fiP h) 4 [.ref 83, .int y1, .int y2, .int y3] [] h (kL4 y1 y2 y3)) (y1 : Int32) (y3 : Int32) (z0 : Int32) : B XC 3 RX7 cX7_leftPlaces 4 (some .int) (fiP h) 32 [.ref 83, .int y1, .null, .int y3] [.int z0] h (f_X7_leftPlaces_J32 kL4 y1 y3 z0 h) := by
  unfold f_X7_leftPlaces_J32
  refine B_iconst dX7_leftPlaces_32 ic_0 ?_
  refine B_goto (tgt := 37) dX7_leftPlaces_33 (by decide) ?_
  exact b_X7_leftPlaces_J37 h hkL4 y1 y3 z0 false
def f_X7_leftPlaces_L4 (h : dH) : Nat → Int32 → Int32 → Int32 → Option (Int32)
  | 0, _, _, _ => none
  | n + 1, y1, y2, y3 =>
    if y3 < (h.1 3 2) then
    if (f_X11_isIn y1 y3 h) then
    f_X7_leftPlaces_J32 (f_X7_leftPlaces_L4 h n) y1 y3 y2 h
    else
    (f_X7_newAt y3 h).bind fun v1 =>
    if v1 = 0 then
    f_X7_leftPlaces_J32 (f_X7_leftPlaces_L4 h n) y1 y3 y2 h
    else
    f_X7_leftPlaces_J37 (f_X7_leftPlaces_L4 h n) y1 y3 y2 true h
    else
    some y2
set_option maxRecDepth 20000 in
set_option maxHeartbeats 4000000 in
theorem b_X7_leftPlaces_L4 (h : dH) : ∀ (n : Nat) (y1 : Int32) (y2 : Int32) (y3 : Int32), B XC 3 RX7 cX7_leftPlaces 4 (some .int) (fiP h) 4 [.ref 83, .int y1, .int y2, .int y3] [] h (f_X7_leftPlaces_L4 h n y1 y2 y3) := by
  intro n
  induction n with
  | zero =>
    intro y1 y2 y3
    exact B_none
  | succ n ih =>
    intro y1 y2 y3
    rw [f_X7_leftPlaces_L4]
    refine B_iload_n dX7_leftPlaces_4 rfl rfl ?_
    refine B_aload_n dX7_leftPlaces_5 rfl rfl ?_
    refine B_getR dX7_leftPlaces_6 fl_X7_9 shC_83 rfl (rfC_83_3 _) ?_
    refine B_getI dX7_leftPlaces_9 fl_X7_64 shC_3 rfl ?_
    refine C_icmp_ge (tgt := 45) dX7_leftPlaces_12 (by decide) (fun q4 => ?_) (fun q4 => ?_)
    · refine B_iload_n dX7_leftPlaces_45 rfl rfl ?_
      exact B_ireturn dX7_leftPlaces_46 rfl rfl
    · refine B_iload_n dX7_leftPlaces_15 rfl rfl ?_
      refine B_iload_n dX7_leftPlaces_16 rfl rfl ?_
      refine B_iload_n dX7_leftPlaces_17 rfl rfl ?_
      refine B_NTb (st := [.int y2]) dX7_leftPlaces_18 cl_X7_69 (t_X11_isIn y1 y3 h) (Nat.le_of_ble_eq_true rfl) rfl rfl (Nat.le_of_ble_eq_true rfl) ?_
      refine C_ifb_ne (tgt := 32) dX7_leftPlaces_21 (by decide) (fun q3 => ?_) (fun q3 => ?_)
      · refine B_drop 2 (ls' := [.ref 83, .int y1, .null, .int y3]) rfl ?_
        exact b_X7_leftPlaces_J32 h (fun qy1 qy2 qy3 => ih qy1 qy2 qy3) y1 y3 y2
      · refine B_aload_n dX7_leftPlaces_24 rfl rfl ?_
        refine B_iload_n dX7_leftPlaces_25 rfl rfl ?_
        refine B_Vp (st := [.int y2]) dX7_leftPlaces_26 cl_X7_87 (t_X7_newAt y3 h) (Nat.le_of_ble_eq_true rfl) shC_83 rfl rfl (Nat.le_of_ble_eq_true rfl) (fun v1 _ => ?_)
        refine C_if_ne (tgt := 36) dX7_leftPlaces_29 (by decide) (fun q2 => ?_) (fun q2 => ?_)
        · refine B_iconst dX7_leftPlaces_36 ic_1 ?_
          refine B_drop 2 (ls' := [.ref 83, .int y1, .null, .int y3]) rfl ?_
          exact b_X7_leftPlaces_J37 h (fun qy1 qy2 qy3 => ih qy1 qy2 qy3) y1 y3 y2 true
        · refine B_drop 2 (ls' := [.ref 83, .int y1, .null, .int y3]) rfl ?_
          exact b_X7_leftPlaces_J32 h (fun qy1 qy2 qy3 => ih qy1 qy2 qy3) y1 y3 y2
def f_X7_leftPlaces (x1 : Int32) (h : dH) : Option (Int32) :=
  f_X7_leftPlaces_L4 h dFu x1 0 0
set_option maxRecDepth 20000 in
set_option maxHeartbeats 4000000 in
theorem t_X7_leftPlaces (x1 : Int32) (h : dH) : T XC 3 yX7_leftPlaces cX7_leftPlaces 4 (some .int) (fiP h) [.ref 83, .int x1] h (f_X7_leftPlaces x1 h) := by
  refine T_of [.ref 83, .int x1, .null, .null] (by decide) (fun _ => rfl) (fun _ => Nat.le_of_ble_eq_true rfl) ?_
  show B XC 3 RX7 cX7_leftPlaces 4 (some .int) (fiP h) 0 [.ref 83, .int x1, .null, .null] [] h (f_X7_leftPlaces x1 h)
  unfold f_X7_leftPlaces
  refine B_iconst dX7_leftPlaces_0 ic_0 ?_
  refine B_istore_n (ls' := [.ref 83, .int x1, .int 0, .null]) dX7_leftPlaces_1 rfl (Nat.le_of_ble_eq_true rfl) rfl rfl ?_
  refine B_iconst dX7_leftPlaces_2 ic_0 ?_
  refine B_istore_n (ls' := [.ref 83, .int x1, .int 0, .int 0]) dX7_leftPlaces_3 rfl (Nat.le_of_ble_eq_true rfl) rfl rfl ?_
  exact b_X7_leftPlaces_L4 h dFu x1 0 0
def f_X8_troubleWithoutLaw (x0 : Int32) (x1 : Int32) (h : dH) : Int32 :=
  (f_X11_held 0 30 ((((4 + (2 * x0)) - x1) : Int32).toInt64) h)
set_option maxRecDepth 20000 in
set_option maxHeartbeats 4000000 in
theorem t_X8_troubleWithoutLaw (x0 : Int32) (x1 : Int32) (h : dH) : T XC 1 yX8_troubleWithoutLaw cX8_troubleWithoutLaw 2 (some .int) (fiP h) [.int x0, .int x1] h (some (f_X8_troubleWithoutLaw x0 x1 h)) := by
  refine T_of [.int x0, .int x1] (by decide) (fun _ => rfl) (fun _ => Nat.le_of_ble_eq_true rfl) ?_
  show B XC 1 RX8 cX8_troubleWithoutLaw 2 (some .int) (fiP h) 0 [.int x0, .int x1] [] h (some (f_X8_troubleWithoutLaw x0 x1 h))
  unfold f_X8_troubleWithoutLaw
  refine B_iconst dX8_troubleWithoutLaw_0 ic_0 ?_
  refine B_bipush dX8_troubleWithoutLaw_1 bp_30 ?_
  refine B_iconst dX8_troubleWithoutLaw_3 ic_4 ?_
  refine B_iconst dX8_troubleWithoutLaw_4 ic_2 ?_
  refine B_iload_n dX8_troubleWithoutLaw_5 rfl rfl ?_
  refine B_imul dX8_troubleWithoutLaw_6 ?_
  refine B_iadd dX8_troubleWithoutLaw_7 ?_
  refine B_iload_n dX8_troubleWithoutLaw_8 rfl rfl ?_
  refine B_isub dX8_troubleWithoutLaw_9 ?_
  refine B_i2l dX8_troubleWithoutLaw_10 ?_
  refine B_Nt (st := []) dX8_troubleWithoutLaw_11 cl_X8_63 (t_X11_held 0 30 ((((4 + (2 * x0)) - x1) : Int32).toInt64) h) (Nat.le_of_ble_eq_true rfl) rfl rfl (Nat.le_of_ble_eq_true rfl) ?_
  exact B_ireturn dX8_troubleWithoutLaw_14 rfl rfl
def f_X8_troubleThen (t : Nat) (x1 : Int32) (x2 : Int32) (x3 : Int32) (x4 : Int32) (h : dH) : Option (Int32 × dH) :=
  if (h.1 42 2) = (-1) then
  (f_X8_visitsOf t x1 h).bind fun v13 =>
  some ((f_X8_troubleWithoutLaw v13 (h.1 4 2) h), h)
  else
  (f_X1_toldOf 3 x1 2 h).bind fun v1 =>
  (some (dPut h 43 0 v1)).bind fun h2 =>
  (f_X1_toldOf 3 x1 3 h2).bind fun v3 =>
  (some (dPut h2 43 1 (v3 + x4))).bind fun h4 =>
  (f_X8_patienceOf t x1 h4).bind fun v5 =>
  (some (dPut h4 43 2 v5)).bind fun h6 =>
  (some (dPut h6 43 3 x2)).bind fun h7 =>
  (f_X8_visitsOf t x1 h7).bind fun v8 =>
  (some (dPut h7 43 4 v8)).bind fun h9 =>
  (some (dPut h9 43 5 x3)).bind fun h10 =>
  (f_X5_worth h10).bind fun rv11 =>
  some ((f_X11_held 0 30 ((rv11.1 : Int32).toInt64) rv11.2), rv11.2)
set_option maxRecDepth 20000 in
set_option maxHeartbeats 4000000 in
theorem t_X8_troubleThen (t : Nat) (ht : XC.1[t]? = some (.inl 8)) (x1 : Int32) (x2 : Int32) (x3 : Int32) (x4 : Int32) (h : dH) : T XC 2 yX8_troubleThen cX8_troubleThen 5 (some .int) fiI [.ref t, .int x1, .int x2, .int x3, .int x4] h (f_X8_troubleThen t x1 x2 x3 x4 h) := by
  refine T_of [.ref t, .int x1, .int x2, .int x3, .int x4] (by decide) (fun _ => rfl) (fun _ => Nat.le_of_ble_eq_true rfl) ?_
  show B XC 2 RX8 cX8_troubleThen 5 (some .int) fiI 0 [.ref t, .int x1, .int x2, .int x3, .int x4] [] h (f_X8_troubleThen t x1 x2 x3 x4 h)
  unfold f_X8_troubleThen
  refine B_aload_n dX8_troubleThen_0 rfl rfl ?_
  refine B_getR dX8_troubleThen_1 fl_X8_19 ht rfl (rfX8_1 _ ht) ?_
  refine B_getI dX8_troubleThen_4 fl_X8_67 shC_42 rfl ?_
  refine B_iconst dX8_troubleThen_7 ic_m1 ?_
  refine C_icmp_ne (tgt := 29) dX8_troubleThen_8 (by decide) (fun q14 => ?_) (fun q14 => ?_)
  · refine B_aload_n dX8_troubleThen_29 rfl rfl ?_
    refine B_getR dX8_troubleThen_30 fl_X8_19 ht rfl (rfX8_1 _ ht) ?_
    refine B_getR dX8_troubleThen_33 fl_X8_78 shC_42 rfl (rfC_42_0 _) ?_
    refine B_iconst dX8_troubleThen_36 ic_0 ?_
    refine B_aload_n dX8_troubleThen_37 rfl rfl ?_
    refine B_getR dX8_troubleThen_38 fl_X8_15 ht rfl (rfX8_0 _ ht) ?_
    refine B_iload_n dX8_troubleThen_41 rfl rfl ?_
    refine B_iconst dX8_troubleThen_42 ic_2 ?_
    refine B_Vp (st := [.int 0, .ref 43]) dX8_troubleThen_43 cl_X8_23 (t_X1_toldOf 3 shC_3 x1 2 h) (Nat.le_of_ble_eq_true rfl) shC_3 rfl rfl (Nat.le_of_ble_eq_true rfl) (fun v1 _ => ?_)
    refine L_iast dX8_troubleThen_46 shC_43 (by decide) di_0 ?_
    refine B_lh (fun h2 => ?_)
    refine B_aload_n dX8_troubleThen_47 rfl rfl ?_
    refine B_getR dX8_troubleThen_48 fl_X8_19 ht rfl (rfX8_1 _ ht) ?_
    refine B_getR dX8_troubleThen_51 fl_X8_78 shC_42 rfl (rfC_42_0 _) ?_
    refine B_iconst dX8_troubleThen_54 ic_1 ?_
    refine B_aload_n dX8_troubleThen_55 rfl rfl ?_
    refine B_getR dX8_troubleThen_56 fl_X8_15 ht rfl (rfX8_0 _ ht) ?_
    refine B_iload_n dX8_troubleThen_59 rfl rfl ?_
    refine B_iconst dX8_troubleThen_60 ic_3 ?_
    refine B_Vp (st := [.int 1, .ref 43]) dX8_troubleThen_61 cl_X8_23 (t_X1_toldOf 3 shC_3 x1 3 h2) (Nat.le_of_ble_eq_true rfl) shC_3 rfl rfl (Nat.le_of_ble_eq_true rfl) (fun v3 _ => ?_)
    refine B_iload dX8_troubleThen_64 rfl ?_
    refine B_iadd dX8_troubleThen_66 ?_
    refine L_iast dX8_troubleThen_67 shC_43 (by decide) di_1 ?_
    refine B_lh (fun h4 => ?_)
    refine B_aload_n dX8_troubleThen_68 rfl rfl ?_
    refine B_getR dX8_troubleThen_69 fl_X8_19 ht rfl (rfX8_1 _ ht) ?_
    refine B_getR dX8_troubleThen_72 fl_X8_78 shC_42 rfl (rfC_42_0 _) ?_
    refine B_iconst dX8_troubleThen_75 ic_2 ?_
    refine B_aload_n dX8_troubleThen_76 rfl rfl ?_
    refine B_iload_n dX8_troubleThen_77 rfl rfl ?_
    refine B_Vp (st := [.int 2, .ref 43]) dX8_troubleThen_78 cl_X8_43 (t_X8_patienceOf t ht x1 h4) (Nat.le_of_ble_eq_true rfl) ht rfl rfl (Nat.le_of_ble_eq_true rfl) (fun v5 _ => ?_)
    refine L_iast dX8_troubleThen_81 shC_43 (by decide) di_2 ?_
    refine B_lh (fun h6 => ?_)
    refine B_aload_n dX8_troubleThen_82 rfl rfl ?_
    refine B_getR dX8_troubleThen_83 fl_X8_19 ht rfl (rfX8_1 _ ht) ?_
    refine B_getR dX8_troubleThen_86 fl_X8_78 shC_42 rfl (rfC_42_0 _) ?_
    refine B_iconst dX8_troubleThen_89 ic_3 ?_
    refine B_iload_n dX8_troubleThen_90 rfl rfl ?_
    refine L_iast dX8_troubleThen_91 shC_43 (by decide) di_3 ?_
    refine B_lh (fun h7 => ?_)
    refine B_aload_n dX8_troubleThen_92 rfl rfl ?_
    refine B_getR dX8_troubleThen_93 fl_X8_19 ht rfl (rfX8_1 _ ht) ?_
    refine B_getR dX8_troubleThen_96 fl_X8_78 shC_42 rfl (rfC_42_0 _) ?_
    refine B_iconst dX8_troubleThen_99 ic_4 ?_
    refine B_aload_n dX8_troubleThen_100 rfl rfl ?_
    refine B_iload_n dX8_troubleThen_101 rfl rfl ?_
    refine B_Vp (st := [.int 4, .ref 43]) dX8_troubleThen_102 cl_X8_72 (t_X8_visitsOf t ht x1 h7) (Nat.le_of_ble_eq_true rfl) ht rfl rfl (Nat.le_of_ble_eq_true rfl) (fun v8 _ => ?_)
    refine L_iast dX8_troubleThen_105 shC_43 (by decide) di_4 ?_
    refine B_lh (fun h9 => ?_)
    refine B_aload_n dX8_troubleThen_106 rfl rfl ?_
    refine B_getR dX8_troubleThen_107 fl_X8_19 ht rfl (rfX8_1 _ ht) ?_
    refine B_getR dX8_troubleThen_110 fl_X8_78 shC_42 rfl (rfC_42_0 _) ?_
    refine B_iconst dX8_troubleThen_113 ic_5 ?_
    refine B_iload_n dX8_troubleThen_114 rfl rfl ?_
    refine L_iast dX8_troubleThen_115 shC_43 (by decide) di_5 ?_
    refine B_lh (fun h10 => ?_)
    refine B_iconst dX8_troubleThen_116 ic_0 ?_
    refine B_bipush dX8_troubleThen_117 bp_30 ?_
    refine B_aload_n dX8_troubleThen_119 rfl rfl ?_
    refine B_getR dX8_troubleThen_120 fl_X8_19 ht rfl (rfX8_1 _ ht) ?_
    refine B_VI (st := [.int 30, .int 0]) dX8_troubleThen_123 cl_X8_81 (t_X5_worth h10) (Nat.le_of_ble_eq_true rfl) shC_42 rfl rfl (Nat.le_of_ble_eq_true rfl) (fun v11 h12 _ => ?_)
    refine B_i2l dX8_troubleThen_126 ?_
    refine B_Nt (st := []) dX8_troubleThen_127 cl_X8_63 (t_X11_held 0 30 ((v11 : Int32).toInt64) h12) (Nat.le_of_ble_eq_true rfl) rfl rfl (Nat.le_of_ble_eq_true rfl) ?_
    exact B_ireturn dX8_troubleThen_130 rfl rfl
  · refine B_aload_n dX8_troubleThen_11 rfl rfl ?_
    refine B_iload_n dX8_troubleThen_12 rfl rfl ?_
    refine B_Vp (st := []) dX8_troubleThen_13 cl_X8_72 (t_X8_visitsOf t ht x1 h) (Nat.le_of_ble_eq_true rfl) ht rfl rfl (Nat.le_of_ble_eq_true rfl) (fun v13 _ => ?_)
    refine B_aload_n dX8_troubleThen_16 rfl rfl ?_
    refine B_getR dX8_troubleThen_17 fl_X8_15 ht rfl (rfX8_0 _ ht) ?_
    refine B_getR dX8_troubleThen_20 fl_X8_60 shC_3 rfl (rfC_3_0 _) ?_
    refine B_iconst dX8_troubleThen_23 ic_2 ?_
    refine L_iald dX8_troubleThen_24 shC_4 (by decide) di_2 ?_
    refine B_St (st := []) dX8_troubleThen_25 cl_X8_75 (t_X8_troubleWithoutLaw v13 (h.1 4 2) h) (Nat.le_of_ble_eq_true rfl) rfl rfl (Nat.le_of_ble_eq_true rfl) ?_
    exact B_ireturn dX8_troubleThen_28 rfl rfl
def f_J6_bitCount_0f7a4 (x0 : Int32) (h : dH) : Int32 :=
  ((((((((x0 - (((x0).toUInt32 >>> ((1 : Int32).toUInt32 &&& Int32.toUInt32 31)).toInt32 &&& 1431655765)) &&& 858993459) + ((((x0 - (((x0).toUInt32 >>> ((1 : Int32).toUInt32 &&& Int32.toUInt32 31)).toInt32 &&& 1431655765))).toUInt32 >>> ((2 : Int32).toUInt32 &&& Int32.toUInt32 31)).toInt32 &&& 858993459)) + (((((x0 - (((x0).toUInt32 >>> ((1 : Int32).toUInt32 &&& Int32.toUInt32 31)).toInt32 &&& 1431655765)) &&& 858993459) + ((((x0 - (((x0).toUInt32 >>> ((1 : Int32).toUInt32 &&& Int32.toUInt32 31)).toInt32 &&& 1431655765))).toUInt32 >>> ((2 : Int32).toUInt32 &&& Int32.toUInt32 31)).toInt32 &&& 858993459))).toUInt32 >>> ((4 : Int32).toUInt32 &&& Int32.toUInt32 31)).toInt32) &&& 252645135) + (((((((x0 - (((x0).toUInt32 >>> ((1 : Int32).toUInt32 &&& Int32.toUInt32 31)).toInt32 &&& 1431655765)) &&& 858993459) + ((((x0 - (((x0).toUInt32 >>> ((1 : Int32).toUInt32 &&& Int32.toUInt32 31)).toInt32 &&& 1431655765))).toUInt32 >>> ((2 : Int32).toUInt32 &&& Int32.toUInt32 31)).toInt32 &&& 858993459)) + (((((x0 - (((x0).toUInt32 >>> ((1 : Int32).toUInt32 &&& Int32.toUInt32 31)).toInt32 &&& 1431655765)) &&& 858993459) + ((((x0 - (((x0).toUInt32 >>> ((1 : Int32).toUInt32 &&& Int32.toUInt32 31)).toInt32 &&& 1431655765))).toUInt32 >>> ((2 : Int32).toUInt32 &&& Int32.toUInt32 31)).toInt32 &&& 858993459))).toUInt32 >>> ((4 : Int32).toUInt32 &&& Int32.toUInt32 31)).toInt32) &&& 252645135)).toUInt32 >>> ((8 : Int32).toUInt32 &&& Int32.toUInt32 31)).toInt32) + ((((((((x0 - (((x0).toUInt32 >>> ((1 : Int32).toUInt32 &&& Int32.toUInt32 31)).toInt32 &&& 1431655765)) &&& 858993459) + ((((x0 - (((x0).toUInt32 >>> ((1 : Int32).toUInt32 &&& Int32.toUInt32 31)).toInt32 &&& 1431655765))).toUInt32 >>> ((2 : Int32).toUInt32 &&& Int32.toUInt32 31)).toInt32 &&& 858993459)) + (((((x0 - (((x0).toUInt32 >>> ((1 : Int32).toUInt32 &&& Int32.toUInt32 31)).toInt32 &&& 1431655765)) &&& 858993459) + ((((x0 - (((x0).toUInt32 >>> ((1 : Int32).toUInt32 &&& Int32.toUInt32 31)).toInt32 &&& 1431655765))).toUInt32 >>> ((2 : Int32).toUInt32 &&& Int32.toUInt32 31)).toInt32 &&& 858993459))).toUInt32 >>> ((4 : Int32).toUInt32 &&& Int32.toUInt32 31)).toInt32) &&& 252645135) + (((((((x0 - (((x0).toUInt32 >>> ((1 : Int32).toUInt32 &&& Int32.toUInt32 31)).toInt32 &&& 1431655765)) &&& 858993459) + ((((x0 - (((x0).toUInt32 >>> ((1 : Int32).toUInt32 &&& Int32.toUInt32 31)).toInt32 &&& 1431655765))).toUInt32 >>> ((2 : Int32).toUInt32 &&& Int32.toUInt32 31)).toInt32 &&& 858993459)) + (((((x0 - (((x0).toUInt32 >>> ((1 : Int32).toUInt32 &&& Int32.toUInt32 31)).toInt32 &&& 1431655765)) &&& 858993459) + ((((x0 - (((x0).toUInt32 >>> ((1 : Int32).toUInt32 &&& Int32.toUInt32 31)).toInt32 &&& 1431655765))).toUInt32 >>> ((2 : Int32).toUInt32 &&& Int32.toUInt32 31)).toInt32 &&& 858993459))).toUInt32 >>> ((4 : Int32).toUInt32 &&& Int32.toUInt32 31)).toInt32) &&& 252645135)).toUInt32 >>> ((8 : Int32).toUInt32 &&& Int32.toUInt32 31)).toInt32)).toUInt32 >>> ((16 : Int32).toUInt32 &&& Int32.toUInt32 31)).toInt32) &&& 63)
set_option maxRecDepth 20000 in
set_option maxHeartbeats 4000000 in
theorem t_J6_bitCount_0f7a4 (x0 : Int32) (h : dH) : T XC 0 yJ6_bitCount_0f7a4 cJ6_bitCount_0f7a4 1 (some .int) (fiP h) [.int x0] h (some (f_J6_bitCount_0f7a4 x0 h)) := by
  refine T_of [.int x0] (by decide) (fun _ => rfl) (fun _ => Nat.le_of_ble_eq_true rfl) ?_
  show B XC 0 RJ6 cJ6_bitCount_0f7a4 1 (some .int) (fiP h) 0 [.int x0] [] h (some (f_J6_bitCount_0f7a4 x0 h))
  unfold f_J6_bitCount_0f7a4
  refine B_iload_n dJ6_bitCount_0f7a4_0 rfl rfl ?_
  refine B_iload_n dJ6_bitCount_0f7a4_1 rfl rfl ?_
  refine B_iconst dJ6_bitCount_0f7a4_2 ic_1 ?_
  refine B_iushr dJ6_bitCount_0f7a4_3 ?_
  refine B_ldcw dJ6_bitCount_0f7a4_4 kc_J6_265 ?_
  refine B_iand dJ6_bitCount_0f7a4_7 ?_
  refine B_isub dJ6_bitCount_0f7a4_8 ?_
  refine B_istore_n (ls' := [.int (x0 - (((x0).toUInt32 >>> ((1 : Int32).toUInt32 &&& Int32.toUInt32 31)).toInt32 &&& 1431655765))]) dJ6_bitCount_0f7a4_9 rfl (Nat.le_of_ble_eq_true rfl) rfl rfl ?_
  refine B_iload_n dJ6_bitCount_0f7a4_10 rfl rfl ?_
  refine B_ldcw dJ6_bitCount_0f7a4_11 kc_J6_266 ?_
  refine B_iand dJ6_bitCount_0f7a4_14 ?_
  refine B_iload_n dJ6_bitCount_0f7a4_15 rfl rfl ?_
  refine B_iconst dJ6_bitCount_0f7a4_16 ic_2 ?_
  refine B_iushr dJ6_bitCount_0f7a4_17 ?_
  refine B_ldcw dJ6_bitCount_0f7a4_18 kc_J6_266 ?_
  refine B_iand dJ6_bitCount_0f7a4_21 ?_
  refine B_iadd dJ6_bitCount_0f7a4_22 ?_
  refine B_istore_n (ls' := [.int (((x0 - (((x0).toUInt32 >>> ((1 : Int32).toUInt32 &&& Int32.toUInt32 31)).toInt32 &&& 1431655765)) &&& 858993459) + ((((x0 - (((x0).toUInt32 >>> ((1 : Int32).toUInt32 &&& Int32.toUInt32 31)).toInt32 &&& 1431655765))).toUInt32 >>> ((2 : Int32).toUInt32 &&& Int32.toUInt32 31)).toInt32 &&& 858993459))]) dJ6_bitCount_0f7a4_23 rfl (Nat.le_of_ble_eq_true rfl) rfl rfl ?_
  refine B_iload_n dJ6_bitCount_0f7a4_24 rfl rfl ?_
  refine B_iload_n dJ6_bitCount_0f7a4_25 rfl rfl ?_
  refine B_iconst dJ6_bitCount_0f7a4_26 ic_4 ?_
  refine B_iushr dJ6_bitCount_0f7a4_27 ?_
  refine B_iadd dJ6_bitCount_0f7a4_28 ?_
  refine B_ldcw dJ6_bitCount_0f7a4_29 kc_J6_267 ?_
  refine B_iand dJ6_bitCount_0f7a4_32 ?_
  refine B_istore_n (ls' := [.int (((((x0 - (((x0).toUInt32 >>> ((1 : Int32).toUInt32 &&& Int32.toUInt32 31)).toInt32 &&& 1431655765)) &&& 858993459) + ((((x0 - (((x0).toUInt32 >>> ((1 : Int32).toUInt32 &&& Int32.toUInt32 31)).toInt32 &&& 1431655765))).toUInt32 >>> ((2 : Int32).toUInt32 &&& Int32.toUInt32 31)).toInt32 &&& 858993459)) + (((((x0 - (((x0).toUInt32 >>> ((1 : Int32).toUInt32 &&& Int32.toUInt32 31)).toInt32 &&& 1431655765)) &&& 858993459) + ((((x0 - (((x0).toUInt32 >>> ((1 : Int32).toUInt32 &&& Int32.toUInt32 31)).toInt32 &&& 1431655765))).toUInt32 >>> ((2 : Int32).toUInt32 &&& Int32.toUInt32 31)).toInt32 &&& 858993459))).toUInt32 >>> ((4 : Int32).toUInt32 &&& Int32.toUInt32 31)).toInt32) &&& 252645135)]) dJ6_bitCount_0f7a4_33 rfl (Nat.le_of_ble_eq_true rfl) rfl rfl ?_
  refine B_iload_n dJ6_bitCount_0f7a4_34 rfl rfl ?_
  refine B_iload_n dJ6_bitCount_0f7a4_35 rfl rfl ?_
  refine B_bipush dJ6_bitCount_0f7a4_36 bp_8 ?_
  refine B_iushr dJ6_bitCount_0f7a4_38 ?_
  refine B_iadd dJ6_bitCount_0f7a4_39 ?_
  refine B_istore_n (ls' := [.int ((((((x0 - (((x0).toUInt32 >>> ((1 : Int32).toUInt32 &&& Int32.toUInt32 31)).toInt32 &&& 1431655765)) &&& 858993459) + ((((x0 - (((x0).toUInt32 >>> ((1 : Int32).toUInt32 &&& Int32.toUInt32 31)).toInt32 &&& 1431655765))).toUInt32 >>> ((2 : Int32).toUInt32 &&& Int32.toUInt32 31)).toInt32 &&& 858993459)) + (((((x0 - (((x0).toUInt32 >>> ((1 : Int32).toUInt32 &&& Int32.toUInt32 31)).toInt32 &&& 1431655765)) &&& 858993459) + ((((x0 - (((x0).toUInt32 >>> ((1 : Int32).toUInt32 &&& Int32.toUInt32 31)).toInt32 &&& 1431655765))).toUInt32 >>> ((2 : Int32).toUInt32 &&& Int32.toUInt32 31)).toInt32 &&& 858993459))).toUInt32 >>> ((4 : Int32).toUInt32 &&& Int32.toUInt32 31)).toInt32) &&& 252645135) + (((((((x0 - (((x0).toUInt32 >>> ((1 : Int32).toUInt32 &&& Int32.toUInt32 31)).toInt32 &&& 1431655765)) &&& 858993459) + ((((x0 - (((x0).toUInt32 >>> ((1 : Int32).toUInt32 &&& Int32.toUInt32 31)).toInt32 &&& 1431655765))).toUInt32 >>> ((2 : Int32).toUInt32 &&& Int32.toUInt32 31)).toInt32 &&& 858993459)) + (((((x0 - (((x0).toUInt32 >>> ((1 : Int32).toUInt32 &&& Int32.toUInt32 31)).toInt32 &&& 1431655765)) &&& 858993459) + ((((x0 - (((x0).toUInt32 >>> ((1 : Int32).toUInt32 &&& Int32.toUInt32 31)).toInt32 &&& 1431655765))).toUInt32 >>> ((2 : Int32).toUInt32 &&& Int32.toUInt32 31)).toInt32 &&& 858993459))).toUInt32 >>> ((4 : Int32).toUInt32 &&& Int32.toUInt32 31)).toInt32) &&& 252645135)).toUInt32 >>> ((8 : Int32).toUInt32 &&& Int32.toUInt32 31)).toInt32)]) dJ6_bitCount_0f7a4_40 rfl (Nat.le_of_ble_eq_true rfl) rfl rfl ?_
  refine B_iload_n dJ6_bitCount_0f7a4_41 rfl rfl ?_
  refine B_iload_n dJ6_bitCount_0f7a4_42 rfl rfl ?_
  refine B_bipush dJ6_bitCount_0f7a4_43 bp_16 ?_
  refine B_iushr dJ6_bitCount_0f7a4_45 ?_
  refine B_iadd dJ6_bitCount_0f7a4_46 ?_
  refine B_istore_n (ls' := [.int (((((((x0 - (((x0).toUInt32 >>> ((1 : Int32).toUInt32 &&& Int32.toUInt32 31)).toInt32 &&& 1431655765)) &&& 858993459) + ((((x0 - (((x0).toUInt32 >>> ((1 : Int32).toUInt32 &&& Int32.toUInt32 31)).toInt32 &&& 1431655765))).toUInt32 >>> ((2 : Int32).toUInt32 &&& Int32.toUInt32 31)).toInt32 &&& 858993459)) + (((((x0 - (((x0).toUInt32 >>> ((1 : Int32).toUInt32 &&& Int32.toUInt32 31)).toInt32 &&& 1431655765)) &&& 858993459) + ((((x0 - (((x0).toUInt32 >>> ((1 : Int32).toUInt32 &&& Int32.toUInt32 31)).toInt32 &&& 1431655765))).toUInt32 >>> ((2 : Int32).toUInt32 &&& Int32.toUInt32 31)).toInt32 &&& 858993459))).toUInt32 >>> ((4 : Int32).toUInt32 &&& Int32.toUInt32 31)).toInt32) &&& 252645135) + (((((((x0 - (((x0).toUInt32 >>> ((1 : Int32).toUInt32 &&& Int32.toUInt32 31)).toInt32 &&& 1431655765)) &&& 858993459) + ((((x0 - (((x0).toUInt32 >>> ((1 : Int32).toUInt32 &&& Int32.toUInt32 31)).toInt32 &&& 1431655765))).toUInt32 >>> ((2 : Int32).toUInt32 &&& Int32.toUInt32 31)).toInt32 &&& 858993459)) + (((((x0 - (((x0).toUInt32 >>> ((1 : Int32).toUInt32 &&& Int32.toUInt32 31)).toInt32 &&& 1431655765)) &&& 858993459) + ((((x0 - (((x0).toUInt32 >>> ((1 : Int32).toUInt32 &&& Int32.toUInt32 31)).toInt32 &&& 1431655765))).toUInt32 >>> ((2 : Int32).toUInt32 &&& Int32.toUInt32 31)).toInt32 &&& 858993459))).toUInt32 >>> ((4 : Int32).toUInt32 &&& Int32.toUInt32 31)).toInt32) &&& 252645135)).toUInt32 >>> ((8 : Int32).toUInt32 &&& Int32.toUInt32 31)).toInt32) + ((((((((x0 - (((x0).toUInt32 >>> ((1 : Int32).toUInt32 &&& Int32.toUInt32 31)).toInt32 &&& 1431655765)) &&& 858993459) + ((((x0 - (((x0).toUInt32 >>> ((1 : Int32).toUInt32 &&& Int32.toUInt32 31)).toInt32 &&& 1431655765))).toUInt32 >>> ((2 : Int32).toUInt32 &&& Int32.toUInt32 31)).toInt32 &&& 858993459)) + (((((x0 - (((x0).toUInt32 >>> ((1 : Int32).toUInt32 &&& Int32.toUInt32 31)).toInt32 &&& 1431655765)) &&& 858993459) + ((((x0 - (((x0).toUInt32 >>> ((1 : Int32).toUInt32 &&& Int32.toUInt32 31)).toInt32 &&& 1431655765))).toUInt32 >>> ((2 : Int32).toUInt32 &&& Int32.toUInt32 31)).toInt32 &&& 858993459))).toUInt32 >>> ((4 : Int32).toUInt32 &&& Int32.toUInt32 31)).toInt32) &&& 252645135) + (((((((x0 - (((x0).toUInt32 >>> ((1 : Int32).toUInt32 &&& Int32.toUInt32 31)).toInt32 &&& 1431655765)) &&& 858993459) + ((((x0 - (((x0).toUInt32 >>> ((1 : Int32).toUInt32 &&& Int32.toUInt32 31)).toInt32 &&& 1431655765))).toUInt32 >>> ((2 : Int32).toUInt32 &&& Int32.toUInt32 31)).toInt32 &&& 858993459)) + (((((x0 - (((x0).toUInt32 >>> ((1 : Int32).toUInt32 &&& Int32.toUInt32 31)).toInt32 &&& 1431655765)) &&& 858993459) + ((((x0 - (((x0).toUInt32 >>> ((1 : Int32).toUInt32 &&& Int32.toUInt32 31)).toInt32 &&& 1431655765))).toUInt32 >>> ((2 : Int32).toUInt32 &&& Int32.toUInt32 31)).toInt32 &&& 858993459))).toUInt32 >>> ((4 : Int32).toUInt32 &&& Int32.toUInt32 31)).toInt32) &&& 252645135)).toUInt32 >>> ((8 : Int32).toUInt32 &&& Int32.toUInt32 31)).toInt32)).toUInt32 >>> ((16 : Int32).toUInt32 &&& Int32.toUInt32 31)).toInt32)]) dJ6_bitCount_0f7a4_47 rfl (Nat.le_of_ble_eq_true rfl) rfl rfl ?_
  refine B_iload_n dJ6_bitCount_0f7a4_48 rfl rfl ?_
  refine B_bipush dJ6_bitCount_0f7a4_49 bp_63 ?_
  refine B_iand dJ6_bitCount_0f7a4_51 ?_
  exact B_ireturn dJ6_bitCount_0f7a4_52 rfl rfl
def f_X7_isBetter (x1 : Int32) (x2 : Int32) (h : dH) : Bool :=
  if (h.1 83 1) < x1 then
  true
  else
  if x1 = (h.1 83 1) then
  if x2 < (h.1 83 5) then
  true
  else
  false
  else
  false
set_option maxRecDepth 20000 in
set_option maxHeartbeats 4000000 in
theorem t_X7_isBetter (x1 : Int32) (x2 : Int32) (h : dH) : T XC 0 yX7_isBetter cX7_isBetter 3 (some .boolean) (fiB h) [.ref 83, .int x1, .int x2] h (some (f_X7_isBetter x1 x2 h)) := by
  refine T_of [.ref 83, .int x1, .int x2] (by decide) (fun _ => rfl) (fun _ => Nat.le_of_ble_eq_true rfl) ?_
  show B XC 0 RX7 cX7_isBetter 3 (some .boolean) (fiB h) 0 [.ref 83, .int x1, .int x2] [] h (some (f_X7_isBetter x1 x2 h))
  unfold f_X7_isBetter
  refine B_iload_n dX7_isBetter_0 rfl rfl ?_
  refine B_aload_n dX7_isBetter_1 rfl rfl ?_
  refine B_getI dX7_isBetter_2 fl_X7_26 shC_83 rfl ?_
  refine C_some ?_
  refine C_icmp_gt (tgt := 24) dX7_isBetter_5 (by decide) (fun q3 => ?_) (fun q3 => ?_)
  · refine B_iconst dX7_isBetter_24 ic_1 ?_
    refine B_goto (tgt := 29) dX7_isBetter_25 (by decide) ?_
    exact B_zreturn dX7_isBetter_29 rfl rfl rfl
  · refine B_iload_n dX7_isBetter_8 rfl rfl ?_
    refine B_aload_n dX7_isBetter_9 rfl rfl ?_
    refine B_getI dX7_isBetter_10 fl_X7_26 shC_83 rfl ?_
    refine C_some ?_
    refine C_icmp_ne (tgt := 28) dX7_isBetter_13 (by decide) (fun q2 => ?_) (fun q2 => ?_)
    · refine B_iconst dX7_isBetter_28 ic_0 ?_
      exact B_zreturn dX7_isBetter_29 rfl rfl rfl
    · refine B_iload_n dX7_isBetter_16 rfl rfl ?_
      refine B_aload_n dX7_isBetter_17 rfl rfl ?_
      refine B_getI dX7_isBetter_18 fl_X7_23 shC_83 rfl ?_
      refine C_some ?_
      refine C_icmp_ge (tgt := 28) dX7_isBetter_21 (by decide) (fun q1 => ?_) (fun q1 => ?_)
      · refine B_iconst dX7_isBetter_28 ic_0 ?_
        exact B_zreturn dX7_isBetter_29 rfl rfl rfl
      · refine B_iconst dX7_isBetter_24 ic_1 ?_
        refine B_goto (tgt := 29) dX7_isBetter_25 (by decide) ?_
        exact B_zreturn dX7_isBetter_29 rfl rfl rfl
def f_X7_seeOn_J186 (rc_X7_seeOn : Int32 → Int32 → Int32 → Int32 → Int32 → Int32 → dH → Option (dH)) (kL70 : Int32 → Int32 → Int32 → Int32 → Int32 → Int32 → Int32 → dH → Option (dH)) (y1 : Int32) (y2 : Int32) (y3 : Int32) (y4 : Int32) (y5 : Int32) (y6 : Int32) (y8 : Int32) (h : dH) : Option (dH) :=
  kL70 y1 y2 y3 y4 y5 y6 (y8 + 1) h
set_option maxRecDepth 20000 in
set_option maxHeartbeats 4000000 in
theorem b_X7_seeOn_J186 {Dr : Nat} {rc_X7_seeOn : Int32 → Int32 → Int32 → Int32 → Int32 → Int32 → dH → Option (dH)} {kL70 : Int32 → Int32 → Int32 → Int32 → Int32 → Int32 → Int32 → dH → Option (dH)} (hDr : 4 ≤ Dr) (hrc_X7_seeOn : ∀ (x1 : Int32) (x2 : Int32) (x3 : Int32) (x4 : Int32) (x5 : Int32) (x6 : Int32) (h : dH), T XC Dr yX7_seeOn cX7_seeOn 10 none fiV [.ref 83, .int x1, .int x2, .int x3, .int x4, .int x5, .int x6] h (rc_X7_seeOn x1 x2 x3 x4 x5 x6 h)) (hkL70 : ∀ (y1 : Int32) (y2 : Int32) (y3 : Int32) (y4 : Int32) (y5 : Int32) (y6 : Int32) (y8 : Int32) (h : dH), B XC (Dr + 1) RX7 cX7_seeOn 10 none fiV 70 [.ref 83, .int y1, .int y2, .int y3, .int y4, .int y5, .int y6, .null, .int y8, .null] [] h (kL70 y1 y2 y3 y4 y5 y6 y8 h)) (y1 : Int32) (y2 : Int32) (y3 : Int32) (y4 : Int32) (y5 : Int32) (y6 : Int32) (y8 : Int32) (h : dH) : B XC (Dr + 1) RX7 cX7_seeOn 10 none fiV 186 [.ref 83, .int y1, .int y2, .int y3, .int y4, .int y5, .int y6, .null, .int y8, .null] [] h (f_X7_seeOn_J186 rc_X7_seeOn kL70 y1 y2 y3 y4 y5 y6 y8 h) := by
  unfold f_X7_seeOn_J186
  refine B_iinc (w := (y8 + 1)) (ls' := [.ref 83, .int y1, .int y2, .int y3, .int y4, .int y5, .int y6, .null, .int (y8 + 1), .null]) dX7_seeOn_186 rfl (congrArg (fun z => y8 + z) ic_1) (Nat.le_of_ble_eq_true rfl) rfl rfl ?_
  refine B_goto (tgt := 70) dX7_seeOn_189 (by decide) ?_
  exact hkL70 y1 y2 y3 y4 y5 y6 (y8 + 1)  h
def f_X7_seeOn_L70 (rc_X7_seeOn : Int32 → Int32 → Int32 → Int32 → Int32 → Int32 → dH → Option (dH)) : Nat → Int32 → Int32 → Int32 → Int32 → Int32 → Int32 → Int32 → dH → Option (dH)
  | 0, _, _, _, _, _, _, _, _ => none
  | n + 1, y1, y2, y3, y4, y5, y6, y8, h =>
    if y8 < (h.1 3 2) then
    if (f_X11_isIn y4 y8 h) then
    f_X7_seeOn_J186 rc_X7_seeOn (f_X7_seeOn_L70 rc_X7_seeOn n) y1 y2 y3 y4 y5 y6 y8 h
    else
    (f_X8_couldWalk 66 y1 y2 y3 y8 h).bind fun v10 =>
    if v10 then
    (f_X1_apart 3 y1 y8 h).bind fun v11 =>
    (f_X8_troubleThen 66 y8 (y2 + v11) (y3 + v11) 0 h).bind fun rv12 =>
    (f_X7_isBorneBy y8 rv12.1 rv12.2).bind fun v14 =>
    if v14 then
    (f_X7_newAt y8 rv12.2).bind fun v15 =>
    (rc_X7_seeOn y8 ((y2 + v11) + 1) (y3 + v11) (y4 ||| (1 <<< (y8 &&& 31))) ((y5 * 10) + y8) (y6 + v15) rv12.2).bind fun h17 =>
    f_X7_seeOn_J186 rc_X7_seeOn (f_X7_seeOn_L70 rc_X7_seeOn n) y1 y2 y3 y4 y5 y6 y8 h17
    else
    f_X7_seeOn_J186 rc_X7_seeOn (f_X7_seeOn_L70 rc_X7_seeOn n) y1 y2 y3 y4 y5 y6 y8 rv12.2
    else
    f_X7_seeOn_J186 rc_X7_seeOn (f_X7_seeOn_L70 rc_X7_seeOn n) y1 y2 y3 y4 y5 y6 y8 h
    else
    some h
set_option maxRecDepth 20000 in
set_option maxHeartbeats 4000000 in
theorem b_X7_seeOn_L70 {Dr : Nat} {rc_X7_seeOn : Int32 → Int32 → Int32 → Int32 → Int32 → Int32 → dH → Option (dH)} (hDr : 4 ≤ Dr) (hrc_X7_seeOn : ∀ (x1 : Int32) (x2 : Int32) (x3 : Int32) (x4 : Int32) (x5 : Int32) (x6 : Int32) (h : dH), T XC Dr yX7_seeOn cX7_seeOn 10 none fiV [.ref 83, .int x1, .int x2, .int x3, .int x4, .int x5, .int x6] h (rc_X7_seeOn x1 x2 x3 x4 x5 x6 h)) : ∀ (n : Nat) (y1 : Int32) (y2 : Int32) (y3 : Int32) (y4 : Int32) (y5 : Int32) (y6 : Int32) (y8 : Int32) (h : dH), B XC (Dr + 1) RX7 cX7_seeOn 10 none fiV 70 [.ref 83, .int y1, .int y2, .int y3, .int y4, .int y5, .int y6, .null, .int y8, .null] [] h (f_X7_seeOn_L70 rc_X7_seeOn n y1 y2 y3 y4 y5 y6 y8 h) := by
  intro n
  induction n with
  | zero =>
    intro y1 y2 y3 y4 y5 y6 y8 h
    exact B_none
  | succ n ih =>
    intro y1 y2 y3 y4 y5 y6 y8 h
    rw [f_X7_seeOn_L70]
    refine B_iload dX7_seeOn_70 rfl ?_
    refine B_aload_n dX7_seeOn_72 rfl rfl ?_
    refine B_getR dX7_seeOn_73 fl_X7_9 shC_83 rfl (rfC_83_3 _) ?_
    refine B_getI dX7_seeOn_76 fl_X7_64 shC_3 rfl ?_
    refine C_icmp_ge (tgt := 192) dX7_seeOn_79 (by decide) (fun q21 => ?_) (fun q21 => ?_)
    · exact B_return dX7_seeOn_192 rfl rfl
    · refine B_iload dX7_seeOn_82 rfl ?_
      refine B_iload dX7_seeOn_84 rfl ?_
      refine B_NTb (st := []) dX7_seeOn_86 cl_X7_69 (t_X11_isIn y4 y8 h) (by omega) rfl rfl (Nat.le_of_ble_eq_true rfl) ?_
      refine C_ifb_ne (tgt := 186) dX7_seeOn_89 (by decide) (fun q20 => ?_) (fun q20 => ?_)
      · exact b_X7_seeOn_J186 hDr hrc_X7_seeOn (fun qy1 qy2 qy3 qy4 qy5 qy6 qy8 qh => ih qy1 qy2 qy3 qy4 qy5 qy6 qy8 qh) y1 y2 y3 y4 y5 y6 y8 h
      · refine B_aload_n dX7_seeOn_92 rfl rfl ?_
        refine B_getR dX7_seeOn_93 fl_X7_15 shC_83 rfl (rfC_83_4 _) ?_
        refine B_iload_n dX7_seeOn_96 rfl rfl ?_
        refine B_iload_n dX7_seeOn_97 rfl rfl ?_
        refine B_iload_n dX7_seeOn_98 rfl rfl ?_
        refine B_iload dX7_seeOn_99 rfl ?_
        refine B_Vpb (st := []) dX7_seeOn_101 cl_X7_72 (t_X8_couldWalk 66 shC_66 y1 y2 y3 y8 h) (by omega) shC_66 rfl rfl (Nat.le_of_ble_eq_true rfl) (fun v10 _ => ?_)
        refine C_ifb_eq (tgt := 186) dX7_seeOn_104 (by decide) (fun q19 => ?_) (fun q19 => ?_)
        · exact b_X7_seeOn_J186 hDr hrc_X7_seeOn (fun qy1 qy2 qy3 qy4 qy5 qy6 qy8 qh => ih qy1 qy2 qy3 qy4 qy5 qy6 qy8 qh) y1 y2 y3 y4 y5 y6 y8 h
        · refine B_aload_n dX7_seeOn_107 rfl rfl ?_
          refine B_getR dX7_seeOn_108 fl_X7_9 shC_83 rfl (rfC_83_3 _) ?_
          refine B_iload_n dX7_seeOn_111 rfl rfl ?_
          refine B_iload dX7_seeOn_112 rfl ?_
          refine B_Vp (st := []) dX7_seeOn_114 cl_X7_76 (t_X1_apart 3 shC_3 y1 y8 h) (by omega) shC_3 rfl rfl (Nat.le_of_ble_eq_true rfl) (fun v11 _ => ?_)
          refine B_istore (ls' := [.ref 83, .int y1, .int y2, .int y3, .int y4, .int y5, .int y6, .null, .int y8, .int v11]) dX7_seeOn_117 (Nat.le_of_ble_eq_true rfl) rfl rfl ?_
          refine B_aload_n dX7_seeOn_119 rfl rfl ?_
          refine B_iload dX7_seeOn_120 rfl ?_
          refine B_aload_n dX7_seeOn_122 rfl rfl ?_
          refine B_getR dX7_seeOn_123 fl_X7_15 shC_83 rfl (rfC_83_4 _) ?_
          refine B_iload dX7_seeOn_126 rfl ?_
          refine B_iload_n dX7_seeOn_128 rfl rfl ?_
          refine B_iload dX7_seeOn_129 rfl ?_
          refine B_iadd dX7_seeOn_131 ?_
          refine B_iload_n dX7_seeOn_132 rfl rfl ?_
          refine B_iload dX7_seeOn_133 rfl ?_
          refine B_iadd dX7_seeOn_135 ?_
          refine B_iconst dX7_seeOn_136 ic_0 ?_
          refine B_VI (st := [.int y8, .ref 83]) dX7_seeOn_137 cl_X7_80 (t_X8_troubleThen 66 shC_66 y8 (y2 + v11) (y3 + v11) 0 h) (by omega) shC_66 rfl rfl (Nat.le_of_ble_eq_true rfl) (fun v12 h13 _ => ?_)
          refine B_Vpb (st := []) dX7_seeOn_140 cl_X7_84 (t_X7_isBorneBy y8 v12 h13) (by omega) shC_83 rfl rfl (Nat.le_of_ble_eq_true rfl) (fun v14 _ => ?_)
          refine C_ifb_eq (tgt := 186) dX7_seeOn_143 (by decide) (fun q18 => ?_) (fun q18 => ?_)
          · refine B_drop 9 (ls' := [.ref 83, .int y1, .int y2, .int y3, .int y4, .int y5, .int y6, .null, .int y8, .null]) rfl ?_
            exact b_X7_seeOn_J186 hDr hrc_X7_seeOn (fun qy1 qy2 qy3 qy4 qy5 qy6 qy8 qh => ih qy1 qy2 qy3 qy4 qy5 qy6 qy8 qh) y1 y2 y3 y4 y5 y6 y8 h13
          · refine B_aload_n dX7_seeOn_146 rfl rfl ?_
            refine B_iload dX7_seeOn_147 rfl ?_
            refine B_iload_n dX7_seeOn_149 rfl rfl ?_
            refine B_iload dX7_seeOn_150 rfl ?_
            refine B_iadd dX7_seeOn_152 ?_
            refine B_iconst dX7_seeOn_153 ic_1 ?_
            refine B_iadd dX7_seeOn_154 ?_
            refine B_iload_n dX7_seeOn_155 rfl rfl ?_
            refine B_iload dX7_seeOn_156 rfl ?_
            refine B_iadd dX7_seeOn_158 ?_
            refine B_iload dX7_seeOn_159 rfl ?_
            refine B_iconst dX7_seeOn_161 ic_1 ?_
            refine B_iload dX7_seeOn_162 rfl ?_
            refine B_ishl dX7_seeOn_164 ?_
            refine B_ior dX7_seeOn_165 ?_
            refine B_iload dX7_seeOn_166 rfl ?_
            refine B_bipush dX7_seeOn_168 bp_10 ?_
            refine B_imul dX7_seeOn_170 ?_
            refine B_iload dX7_seeOn_171 rfl ?_
            refine B_iadd dX7_seeOn_173 ?_
            refine B_iload dX7_seeOn_174 rfl ?_
            refine B_aload_n dX7_seeOn_176 rfl rfl ?_
            refine B_iload dX7_seeOn_177 rfl ?_
            refine B_Vp (st := [.int y6, .int ((y5 * 10) + y8), .int (y4 ||| (1 <<< (y8 &&& 31))), .int (y3 + v11), .int ((y2 + v11) + 1), .int y8, .ref 83]) dX7_seeOn_179 cl_X7_87 (t_X7_newAt y8 h13) (by omega) shC_83 rfl rfl (Nat.le_of_ble_eq_true rfl) (fun v15 _ => ?_)
            refine B_iadd dX7_seeOn_182 ?_
            refine B_VV (st := []) dX7_seeOn_183 cl_X7_44 (hrc_X7_seeOn y8 ((y2 + v11) + 1) (y3 + v11) (y4 ||| (1 <<< (y8 &&& 31))) ((y5 * 10) + y8) (y6 + v15) h13) (by omega) shC_83 rfl rfl (Nat.le_of_ble_eq_true rfl) (fun h17 _ => ?_)
            refine B_drop 9 (ls' := [.ref 83, .int y1, .int y2, .int y3, .int y4, .int y5, .int y6, .null, .int y8, .null]) rfl ?_
            exact b_X7_seeOn_J186 hDr hrc_X7_seeOn (fun qy1 qy2 qy3 qy4 qy5 qy6 qy8 qh => ih qy1 qy2 qy3 qy4 qy5 qy6 qy8 qh) y1 y2 y3 y4 y5 y6 y8 h17
def f_X7_seeOn_J41 (rc_X7_seeOn : Int32 → Int32 → Int32 → Int32 → Int32 → Int32 → dH → Option (dH)) (y1 : Int32) (y2 : Int32) (y3 : Int32) (y4 : Int32) (y5 : Int32) (y6 : Int32) (y7 : Int32) (h : dH) : Option (dH) :=
  (f_X7_leftToSee y4 h).bind fun v7 =>
  (f_X7_leftPlaces y4 h).bind fun v8 =>
  if (f_X7_isBetter (y6 + v7) (y7 + v8) h) then
  f_X7_seeOn_L70 rc_X7_seeOn dFu y1 y2 y3 y4 y5 y6 0 h
  else
  some h
set_option maxRecDepth 20000 in
set_option maxHeartbeats 4000000 in
theorem b_X7_seeOn_J41 {Dr : Nat} {rc_X7_seeOn : Int32 → Int32 → Int32 → Int32 → Int32 → Int32 → dH → Option (dH)} (hDr : 4 ≤ Dr) (hrc_X7_seeOn : ∀ (x1 : Int32) (x2 : Int32) (x3 : Int32) (x4 : Int32) (x5 : Int32) (x6 : Int32) (h : dH), T XC Dr yX7_seeOn cX7_seeOn 10 none fiV [.ref 83, .int x1, .int x2, .int x3, .int x4, .int x5, .int x6] h (rc_X7_seeOn x1 x2 x3 x4 x5 x6 h)) (y1 : Int32) (y2 : Int32) (y3 : Int32) (y4 : Int32) (y5 : Int32) (y6 : Int32) (y7 : Int32) (h : dH) : B XC (Dr + 1) RX7 cX7_seeOn 10 none fiV 41 [.ref 83, .int y1, .int y2, .int y3, .int y4, .int y5, .int y6, .int y7, .null, .null] [] h (f_X7_seeOn_J41 rc_X7_seeOn y1 y2 y3 y4 y5 y6 y7 h) := by
  unfold f_X7_seeOn_J41
  refine B_aload_n dX7_seeOn_41 rfl rfl ?_
  refine B_iload dX7_seeOn_42 rfl ?_
  refine B_aload_n dX7_seeOn_44 rfl rfl ?_
  refine B_iload dX7_seeOn_45 rfl ?_
  refine B_Vp (st := [.int y6, .ref 83]) dX7_seeOn_47 cl_X7_58 (t_X7_leftToSee y4 h) (by omega) shC_83 rfl rfl (Nat.le_of_ble_eq_true rfl) (fun v7 _ => ?_)
  refine B_iadd dX7_seeOn_50 ?_
  refine B_iload dX7_seeOn_51 rfl ?_
  refine B_aload_n dX7_seeOn_53 rfl rfl ?_
  refine B_iload dX7_seeOn_54 rfl ?_
  refine B_Vp (st := [.int y7, .int (y6 + v7), .ref 83]) dX7_seeOn_56 cl_X7_61 (t_X7_leftPlaces y4 h) (by omega) shC_83 rfl rfl (Nat.le_of_ble_eq_true rfl) (fun v8 _ => ?_)
  refine B_iadd dX7_seeOn_59 ?_
  refine B_VTb (st := []) dX7_seeOn_60 cl_X7_54 (t_X7_isBetter (y6 + v7) (y7 + v8) h) (by omega) shC_83 rfl rfl (Nat.le_of_ble_eq_true rfl) ?_
  refine C_ifb_ne (tgt := 67) dX7_seeOn_63 (by decide) (fun q9 => ?_) (fun q9 => ?_)
  · refine B_iconst dX7_seeOn_67 ic_0 ?_
    refine B_istore (ls' := [.ref 83, .int y1, .int y2, .int y3, .int y4, .int y5, .int y6, .int y7, .int 0, .null]) dX7_seeOn_68 (Nat.le_of_ble_eq_true rfl) rfl rfl ?_
    refine B_drop 7 (ls' := [.ref 83, .int y1, .int y2, .int y3, .int y4, .int y5, .int y6, .null, .int 0, .null]) rfl ?_
    exact b_X7_seeOn_L70 hDr hrc_X7_seeOn dFu y1 y2 y3 y4 y5 y6 0 h
  · exact B_return dX7_seeOn_66 rfl rfl
def f_X7_seeOn (rc_X7_seeOn : Int32 → Int32 → Int32 → Int32 → Int32 → Int32 → dH → Option (dH)) (x1 : Int32) (x2 : Int32) (x3 : Int32) (x4 : Int32) (x5 : Int32) (x6 : Int32) (h : dH) : Option (dH) :=
  (some ((f_J6_bitCount_0f7a4 x4 h))).bind fun v1 =>
  if (f_X7_isBetter x6 v1 h) then
  (some (dPut h 83 0 x5)).bind fun h2 =>
  (some (dPut h2 83 5 v1)).bind fun h3 =>
  (some (dPut h3 83 1 x6)).bind fun h4 =>
  (some (dPut h4 83 2 x2)).bind fun h5 =>
  f_X7_seeOn_J41 rc_X7_seeOn x1 x2 x3 x4 x5 x6 v1 h5
  else
  f_X7_seeOn_J41 rc_X7_seeOn x1 x2 x3 x4 x5 x6 v1 h
set_option maxRecDepth 20000 in
set_option maxHeartbeats 4000000 in
theorem t_X7_seeOn {Dr : Nat} {rc_X7_seeOn : Int32 → Int32 → Int32 → Int32 → Int32 → Int32 → dH → Option (dH)} (hDr : 4 ≤ Dr) (hrc_X7_seeOn : ∀ (x1 : Int32) (x2 : Int32) (x3 : Int32) (x4 : Int32) (x5 : Int32) (x6 : Int32) (h : dH), T XC Dr yX7_seeOn cX7_seeOn 10 none fiV [.ref 83, .int x1, .int x2, .int x3, .int x4, .int x5, .int x6] h (rc_X7_seeOn x1 x2 x3 x4 x5 x6 h)) (x1 : Int32) (x2 : Int32) (x3 : Int32) (x4 : Int32) (x5 : Int32) (x6 : Int32) (h : dH) : T XC (Dr + 1) yX7_seeOn cX7_seeOn 10 none fiV [.ref 83, .int x1, .int x2, .int x3, .int x4, .int x5, .int x6] h (f_X7_seeOn rc_X7_seeOn x1 x2 x3 x4 x5 x6 h) := by
  refine T_of [.ref 83, .int x1, .int x2, .int x3, .int x4, .int x5, .int x6, .null, .null, .null] (by decide) (fun _ => rfl) (fun _ => Nat.le_of_ble_eq_true rfl) ?_
  show B XC (Dr + 1) RX7 cX7_seeOn 10 none fiV 0 [.ref 83, .int x1, .int x2, .int x3, .int x4, .int x5, .int x6, .null, .null, .null] [] h (f_X7_seeOn rc_X7_seeOn x1 x2 x3 x4 x5 x6 h)
  unfold f_X7_seeOn
  refine B_iload dX7_seeOn_0 rfl ?_
  refine B_St (st := []) dX7_seeOn_2 cl_X7_48 (t_J6_bitCount_0f7a4 x4 h) (by omega) rfl rfl (Nat.le_of_ble_eq_true rfl) ?_
  refine B_lv (fun v1 => ?_)
  refine B_istore (ls' := [.ref 83, .int x1, .int x2, .int x3, .int x4, .int x5, .int x6, .int v1, .null, .null]) dX7_seeOn_5 (Nat.le_of_ble_eq_true rfl) rfl rfl ?_
  refine B_aload_n dX7_seeOn_7 rfl rfl ?_
  refine B_iload dX7_seeOn_8 rfl ?_
  refine B_iload dX7_seeOn_10 rfl ?_
  refine B_VTb (st := []) dX7_seeOn_12 cl_X7_54 (t_X7_isBetter x6 v1 h) (by omega) shC_83 rfl rfl (Nat.le_of_ble_eq_true rfl) ?_
  refine C_ifb_eq (tgt := 41) dX7_seeOn_15 (by decide) (fun q6 => ?_) (fun q6 => ?_)
  · exact b_X7_seeOn_J41 hDr hrc_X7_seeOn x1 x2 x3 x4 x5 x6 v1 h
  · refine B_aload_n dX7_seeOn_18 rfl rfl ?_
    refine B_iload dX7_seeOn_19 rfl ?_
    refine B_putI dX7_seeOn_21 fl_X7_19 fw_X7_0 shC_83 rfl ?_
    refine B_lh (fun h2 => ?_)
    refine B_aload_n dX7_seeOn_24 rfl rfl ?_
    refine B_iload dX7_seeOn_25 rfl ?_
    refine B_putI dX7_seeOn_27 fl_X7_23 fw_X7_5 shC_83 rfl ?_
    refine B_lh (fun h3 => ?_)
    refine B_aload_n dX7_seeOn_30 rfl rfl ?_
    refine B_iload dX7_seeOn_31 rfl ?_
    refine B_putI dX7_seeOn_33 fl_X7_26 fw_X7_1 shC_83 rfl ?_
    refine B_lh (fun h4 => ?_)
    refine B_aload_n dX7_seeOn_36 rfl rfl ?_
    refine B_iload_n dX7_seeOn_37 rfl rfl ?_
    refine B_putI dX7_seeOn_38 fl_X7_35 fw_X7_2 shC_83 rfl ?_
    refine B_lh (fun h5 => ?_)
    exact b_X7_seeOn_J41 hDr hrc_X7_seeOn x1 x2 x3 x4 x5 x6 v1 h5
def g_X7_seeOn : Nat → (Int32 → Int32 → Int32 → Int32 → Int32 → Int32 → dH → Option (dH))
  | 0 => (fun _ _ _ _ _ _ _ => none)
  | n + 1 => (f_X7_seeOn (g_X7_seeOn n))
def r_X7_seeOn (n : Nat) : Int32 → Int32 → Int32 → Int32 → Int32 → Int32 → dH → Option (dH) := (g_X7_seeOn n)
set_option maxRecDepth 20000 in
set_option maxHeartbeats 4000000 in
theorem t_g_X7_seeOn : ∀ n : Nat, (∀ (x1 : Int32) (x2 : Int32) (x3 : Int32) (x4 : Int32) (x5 : Int32) (x6 : Int32) (h : dH), T XC (4 + n) yX7_seeOn cX7_seeOn 10 none fiV [.ref 83, .int x1, .int x2, .int x3, .int x4, .int x5, .int x6] h (r_X7_seeOn n x1 x2 x3 x4 x5 x6 h)) := by
  intro n
  induction n with
  | zero =>
    exact fun _ _ _ _ _ _ _ => T_none
  | succ n ih =>
    exact fun x1 x2 x3 x4 x5 x6 h => (t_X7_seeOn (Nat.le_add_right 4 n) ih x1 x2 x3 x4 x5 x6 h : T _ (4 + n + 1) _ _ _ _ _ _ _ _)
theorem t_X7_seeOn_r : ∀ (x1 : Int32) (x2 : Int32) (x3 : Int32) (x4 : Int32) (x5 : Int32) (x6 : Int32) (h : dH), T XC 13 yX7_seeOn cX7_seeOn 10 none fiV [.ref 83, .int x1, .int x2, .int x3, .int x4, .int x5, .int x6] h (r_X7_seeOn 9 x1 x2 x3 x4 x5 x6 h) := (t_g_X7_seeOn 9)
