/-! the constructors: what stands when they are through -/
def dSt0 (a i : Nat) : Int32 := if 1000 ≤ a then (match dZs[a - 1000]? with
  | some q => q.2.2.getD i 0
  | none => 0) else 0
def dH0 (t : Nat) : dH := (dSt0, fun _ _ => 0, t)
theorem dEx_0 (t : Nat) : dEx (dH0 t) := by
  intro j q hq i
  have e : (dH0 t).1 = dSt0 := rfl
  rw [e]
  unfold dSt0
  rw [if_pos (Nat.le_add_right 1000 j), show 1000 + j - 1000 = j by omega, hq]
def grC : List (Nat × Nat) := [(5, 7), (13, 8), (24, 7), (32, 8), (44, 5), (53, 5), (59, 5)]
theorem dGrC : dGr XC grC := by
  intro q hq t k
  simp only [grC, List.mem_cons, List.not_mem_nil, or_false] at hq
  rcases hq with rfl | rfl | rfl | rfl | rfl | rfl | rfl <;> rfl
theorem dGrM : dGr XM [] := fun q hq => by cases hq
theorem ac_int : Cond.arrayClass .int ∈ dWs := dmT1 59 rfl rfl
theorem ac_byte : Cond.arrayClass .byte ∈ dWs := dmT3 83 rfl rfl
theorem ac_boolean : Cond.arrayClass .boolean ∈ dWs := dmT2 14 rfl rfl
theorem ac_long : Cond.arrayClass .long ∈ dWs := dmT6 165 rfl rfl
theorem ob_X11_1 : dOb RX11 1 := ⟨dmT1 30 rfl rfl, dmT1 31 rfl rfl, dmT1 32 rfl rfl⟩
theorem nw_X11_7 : dNw RX11 7 (RX9, TX9, 4) := ⟨dmT1 33 rfl rfl, dmT1 34 rfl rfl, dmT1 2 rfl rfl⟩
theorem ob_X9_3 : dOb RX9 3 := ⟨dmT1 38 rfl rfl, dmT1 31 rfl rfl, dmT1 32 rfl rfl⟩
theorem nfl_X9_9 : dFl RX9 9 9 0 := ⟨_, rfl, by decide, dmT1 39 rfl rfl⟩
theorem nff_X9_0 : ∀ q : vw_C, vwCl[9]? = some q → (q.2.1 0).2.2.2 = true ∧ (q.2.1 0).1 = RX9 := fun q hq => by cases hq; exact ⟨rfl, rfl⟩
set_option maxRecDepth 20000 in
set_option maxHeartbeats 4000000 in
theorem i_C_9 : TI 1 240 1 yX9_init cX9_init 1 [.ref 1] (dXP XC grC 2 []) (dH0 1) (dXP XC grC 3 [(1, 0)]) (dH0 1) := by
  refine TI_of [.ref 1] (by decide) rfl (fun _ => rfl) (fun _ => Nat.le_of_ble_eq_true rfl) ?_
  show BA 1 240 1 RX9 cX9_init 1 0 [.ref 1] [] (dXP XC grC 2 []) (dH0 1) 0 0 (dXP XC grC 3 [(1, 0)]) (dH0 1)
  refine N_aload_n dX9_init_0 rfl rfl ?_
  refine N_objInit dX9_init_1 ob_X9_3 (Nat.le_of_ble_eq_true rfl) (Nat.le_of_ble_eq_true rfl) ?_
  refine N_aload_n dX9_init_4 rfl rfl ?_
  refine N_sipush dX9_init_5 sp_240 ?_
  refine N_newaI (N := 240) dX9_init_8 ac_int (by decide) (by decide) (Nat.le_of_ble_eq_true rfl) rfl (Nat.le_of_ble_eq_true rfl) dGrC (by decide +kernel) (by funext i; rfl) (Nat.le_of_ble_eq_true rfl) (Nat.le_of_ble_eq_true rfl) rfl rfl ?_
  refine N_putF dX9_init_10 nfl_X9_9 nff_X9_0 rfl rfl rfl ?_
  exact N_return dX9_init_13
theorem nmw_X9_init : dMw yX9_init cX9_init 1 none 0 := ⟨dmT1 37 rfl rfl, dmT1 2 rfl rfl, ⟨by decide, by decide, by decide +kernel⟩, by decide⟩
theorem nmi_X9_init : Cond.instanceMethod yX9_init ∈ dWs := dmT1 36 rfl rfl
theorem nfl_X11_10 : dFl RX11 10 11 0 := ⟨_, rfl, by decide, dmT2 65 rfl rfl⟩
theorem nff_X11_0 : ∀ q : vw_C, vwCl[11]? = some q → (q.2.1 0).2.2.2 = true ∧ (q.2.1 0).1 = RX11 := fun q hq => by cases hq; exact ⟨rfl, rfl⟩
theorem nw_X11_16 : dNw RX11 16 (RX1, TX1, 4) := ⟨dmT1 60 rfl rfl, dmT1 61 rfl rfl, dmT1 3 rfl rfl⟩
theorem ob_X1_3 : dOb RX1 3 := ⟨dmT1 65 rfl rfl, dmT1 31 rfl rfl, dmT1 32 rfl rfl⟩
theorem nfl_X1_9 : dFl RX1 9 1 0 := ⟨_, rfl, by decide, dmT1 68 rfl rfl⟩
theorem nff_X1_0 : ∀ q : vw_C, vwCl[1]? = some q → (q.2.1 0).2.2.2 = true ∧ (q.2.1 0).1 = RX1 := fun q hq => by cases hq; exact ⟨rfl, rfl⟩
theorem cn_X1_15 : Cond.classLink RX1 15 "[[I" ∈ dWs := dmT1 66 rfl rfl
theorem nfl_X1_17 : dFl RX1 17 1 1 := ⟨_, rfl, by decide, dmT1 72 rfl rfl⟩
theorem nff_X1_1 : ∀ q : vw_C, vwCl[1]? = some q → (q.2.1 1).2.2.2 = true ∧ (q.2.1 1).1 = RX1 := fun q hq => by cases hq; exact ⟨rfl, rfl⟩
theorem nfl_X1_20 : dFl RX1 20 1 3 := ⟨_, rfl, by decide, dmT1 80 rfl rfl⟩
theorem nff_X1_3 : ∀ q : vw_C, vwCl[1]? = some q → (q.2.1 3).2.2.2 = true ∧ (q.2.1 3).1 = RX1 := fun q hq => by cases hq; exact ⟨rfl, rfl⟩
set_option maxRecDepth 20000 in
set_option maxHeartbeats 4000000 in
theorem i_C_20 : TI 18 117 1 yX1_init cX1_init 1 [.ref 3] (dXP XC grC 4 [(0, 0), (1, 0)]) (dH0 1) (dXP XC grC 22 [(3, 3), (3, 1), (3, 0), (0, 0), (1, 0)]) (dH0 1) := by
  refine TI_of [.ref 3] (by decide) rfl (fun _ => rfl) (fun _ => Nat.le_of_ble_eq_true rfl) ?_
  show BA 18 117 1 RX1 cX1_init 1 0 [.ref 3] [] (dXP XC grC 4 [(0, 0), (1, 0)]) (dH0 1) 0 0 (dXP XC grC 22 [(3, 3), (3, 1), (3, 0), (0, 0), (1, 0)]) (dH0 1)
  refine N_aload_n dX1_init_0 rfl rfl ?_
  refine N_objInit dX1_init_1 ob_X1_3 (Nat.le_of_ble_eq_true rfl) (Nat.le_of_ble_eq_true rfl) ?_
  refine N_aload_n dX1_init_4 rfl rfl ?_
  refine N_iconst dX1_init_5 ic_3 ?_
  refine N_newaI (N := 3) dX1_init_6 ac_int (by decide) (by decide) (Nat.le_of_ble_eq_true rfl) rfl (Nat.le_of_ble_eq_true rfl) dGrC (by decide +kernel) (by funext i; rfl) (Nat.le_of_ble_eq_true rfl) (Nat.le_of_ble_eq_true rfl) rfl rfl ?_
  refine N_putF dX1_init_8 nfl_X1_9 nff_X1_0 rfl rfl rfl ?_
  refine N_aload_n dX1_init_11 rfl rfl ?_
  refine N_bipush dX1_init_12 bp_7 ?_
  refine N_iconst dX1_init_14 ic_5 ?_
  refine N_mna (N := 7) (M := 5) dX1_init_15 cn_X1_15 ac_int (by decide) (by decide) (by decide) (by decide) (Nat.le_of_ble_eq_true rfl) (Nat.le_of_ble_eq_true rfl) (Nat.le_of_ble_eq_true rfl) rfl (by decide +kernel) (Nat.le_of_ble_eq_true rfl) (by decide) dGrC (by decide) (fun i hi => by rcases (show i = 0 ∨ i = 1 ∨ i = 2 ∨ i = 3 ∨ i = 4 ∨ i = 5 ∨ i = 6 by omega) with rfl | rfl | rfl | rfl | rfl | rfl | rfl <;> (funext i; rfl)) (Nat.le_of_ble_eq_true rfl) (Nat.le_of_ble_eq_true rfl) rfl rfl (fun b h1 h2 => (by decide +kernel : ∀ b, b < 13 → 5 ≤ b → ([(3, 0), (0, 0), (1, 0)] : List (Nat × Nat)).all (fun q => XC.2 1 q.1 q.2 != some b) = true) b h2 h1) ?_
  refine N_putF dX1_init_19 nfl_X1_17 nff_X1_1 rfl rfl rfl ?_
  refine N_aload_n dX1_init_22 rfl rfl ?_
  refine N_bipush dX1_init_23 bp_8 ?_
  refine N_bipush dX1_init_25 bp_8 ?_
  refine N_mna (N := 8) (M := 8) dX1_init_27 cn_X1_15 ac_int (by decide) (by decide) (by decide) (by decide) (Nat.le_of_ble_eq_true rfl) (Nat.le_of_ble_eq_true rfl) (Nat.le_of_ble_eq_true rfl) rfl (by decide +kernel) (Nat.le_of_ble_eq_true rfl) (by decide) dGrC (by decide) (fun i hi => by rcases (show i = 0 ∨ i = 1 ∨ i = 2 ∨ i = 3 ∨ i = 4 ∨ i = 5 ∨ i = 6 ∨ i = 7 by omega) with rfl | rfl | rfl | rfl | rfl | rfl | rfl | rfl <;> (funext i; rfl)) (Nat.le_of_ble_eq_true rfl) (Nat.le_of_ble_eq_true rfl) rfl rfl (fun b h1 h2 => (by decide +kernel : ∀ b, b < 22 → 13 ≤ b → ([(3, 1), (3, 0), (0, 0), (1, 0)] : List (Nat × Nat)).all (fun q => XC.2 1 q.1 q.2 != some b) = true) b h2 h1) ?_
  refine N_putF dX1_init_31 nfl_X1_20 nff_X1_3 rfl rfl rfl ?_
  exact N_return dX1_init_34
theorem nmw_X1_init : dMw yX1_init cX1_init 1 none 0 := ⟨dmT1 64 rfl rfl, dmT1 3 rfl rfl, ⟨by decide, by decide, by decide +kernel⟩, by decide⟩
theorem nmi_X1_init : Cond.instanceMethod yX1_init ∈ dWs := dmT1 63 rfl rfl
theorem nfl_X11_19 : dFl RX11 19 11 1 := ⟨_, rfl, by decide, dmT2 66 rfl rfl⟩
theorem nff_X11_1 : ∀ q : vw_C, vwCl[11]? = some q → (q.2.1 1).2.2.2 = true ∧ (q.2.1 1).1 = RX11 := fun q hq => by cases hq; exact ⟨rfl, rfl⟩
set_option maxRecDepth 20000 in
set_option maxHeartbeats 4000000 in
theorem i_C_31 : TI 18 117 1 yX1_init cX1_init 1 [.ref 22] (dXP XC grC 23 [(0, 1), (3, 3), (3, 1), (3, 0), (0, 0), (1, 0)]) (dH0 1) (dXP XC grC 41 [(22, 3), (22, 1), (22, 0), (0, 1), (3, 3), (3, 1), (3, 0), (0, 0), (1, 0)]) (dH0 1) := by
  refine TI_of [.ref 22] (by decide) rfl (fun _ => rfl) (fun _ => Nat.le_of_ble_eq_true rfl) ?_
  show BA 18 117 1 RX1 cX1_init 1 0 [.ref 22] [] (dXP XC grC 23 [(0, 1), (3, 3), (3, 1), (3, 0), (0, 0), (1, 0)]) (dH0 1) 0 0 (dXP XC grC 41 [(22, 3), (22, 1), (22, 0), (0, 1), (3, 3), (3, 1), (3, 0), (0, 0), (1, 0)]) (dH0 1)
  refine N_aload_n dX1_init_0 rfl rfl ?_
  refine N_objInit dX1_init_1 ob_X1_3 (Nat.le_of_ble_eq_true rfl) (Nat.le_of_ble_eq_true rfl) ?_
  refine N_aload_n dX1_init_4 rfl rfl ?_
  refine N_iconst dX1_init_5 ic_3 ?_
  refine N_newaI (N := 3) dX1_init_6 ac_int (by decide) (by decide) (Nat.le_of_ble_eq_true rfl) rfl (Nat.le_of_ble_eq_true rfl) dGrC (by decide +kernel) (by funext i; rfl) (Nat.le_of_ble_eq_true rfl) (Nat.le_of_ble_eq_true rfl) rfl rfl ?_
  refine N_putF dX1_init_8 nfl_X1_9 nff_X1_0 rfl rfl rfl ?_
  refine N_aload_n dX1_init_11 rfl rfl ?_
  refine N_bipush dX1_init_12 bp_7 ?_
  refine N_iconst dX1_init_14 ic_5 ?_
  refine N_mna (N := 7) (M := 5) dX1_init_15 cn_X1_15 ac_int (by decide) (by decide) (by decide) (by decide) (Nat.le_of_ble_eq_true rfl) (Nat.le_of_ble_eq_true rfl) (Nat.le_of_ble_eq_true rfl) rfl (by decide +kernel) (Nat.le_of_ble_eq_true rfl) (by decide) dGrC (by decide) (fun i hi => by rcases (show i = 0 ∨ i = 1 ∨ i = 2 ∨ i = 3 ∨ i = 4 ∨ i = 5 ∨ i = 6 by omega) with rfl | rfl | rfl | rfl | rfl | rfl | rfl <;> (funext i; rfl)) (Nat.le_of_ble_eq_true rfl) (Nat.le_of_ble_eq_true rfl) rfl rfl (fun b h1 h2 => (by decide +kernel : ∀ b, b < 32 → 24 ≤ b → ([(22, 0), (0, 1), (3, 3), (3, 1), (3, 0), (0, 0), (1, 0)] : List (Nat × Nat)).all (fun q => XC.2 1 q.1 q.2 != some b) = true) b h2 h1) ?_
  refine N_putF dX1_init_19 nfl_X1_17 nff_X1_1 rfl rfl rfl ?_
  refine N_aload_n dX1_init_22 rfl rfl ?_
  refine N_bipush dX1_init_23 bp_8 ?_
  refine N_bipush dX1_init_25 bp_8 ?_
  refine N_mna (N := 8) (M := 8) dX1_init_27 cn_X1_15 ac_int (by decide) (by decide) (by decide) (by decide) (Nat.le_of_ble_eq_true rfl) (Nat.le_of_ble_eq_true rfl) (Nat.le_of_ble_eq_true rfl) rfl (by decide +kernel) (Nat.le_of_ble_eq_true rfl) (by decide) dGrC (by decide) (fun i hi => by rcases (show i = 0 ∨ i = 1 ∨ i = 2 ∨ i = 3 ∨ i = 4 ∨ i = 5 ∨ i = 6 ∨ i = 7 by omega) with rfl | rfl | rfl | rfl | rfl | rfl | rfl | rfl <;> (funext i; rfl)) (Nat.le_of_ble_eq_true rfl) (Nat.le_of_ble_eq_true rfl) rfl rfl (fun b h1 h2 => (by decide +kernel : ∀ b, b < 41 → 32 ≤ b → ([(22, 1), (22, 0), (0, 1), (3, 3), (3, 1), (3, 0), (0, 0), (1, 0)] : List (Nat × Nat)).all (fun q => XC.2 1 q.1 q.2 != some b) = true) b h2 h1) ?_
  refine N_putF dX1_init_31 nfl_X1_20 nff_X1_3 rfl rfl rfl ?_
  exact N_return dX1_init_34
theorem nfl_X11_23 : dFl RX11 23 11 2 := ⟨_, rfl, by decide, dmT2 67 rfl rfl⟩
theorem nff_X11_2 : ∀ q : vw_C, vwCl[11]? = some q → (q.2.1 2).2.2.2 = true ∧ (q.2.1 2).1 = RX11 := fun q hq => by cases hq; exact ⟨rfl, rfl⟩
theorem nw_X11_26 : dNw RX11 26 (RX2, TX2, 3) := ⟨dmT1 90 rfl rfl, dmT1 91 rfl rfl, dmT1 4 rfl rfl⟩
theorem ob_X2_3 : dOb RX2 3 := ⟨dmT1 95 rfl rfl, dmT1 31 rfl rfl, dmT1 32 rfl rfl⟩
theorem nfl_X2_9 : dFl RX2 9 2 0 := ⟨_, rfl, by decide, dmT1 96 rfl rfl⟩
theorem nff_X2_0 : ∀ q : vw_C, vwCl[2]? = some q → (q.2.1 0).2.2.2 = true ∧ (q.2.1 0).1 = RX2 := fun q hq => by cases hq; exact ⟨rfl, rfl⟩
theorem nfl_X2_15 : dFl RX2 15 2 1 := ⟨_, rfl, by decide, dmT1 97 rfl rfl⟩
theorem nff_X2_1 : ∀ q : vw_C, vwCl[2]? = some q → (q.2.1 1).2.2.2 = true ∧ (q.2.1 1).1 = RX2 := fun q hq => by cases hq; exact ⟨rfl, rfl⟩
set_option maxRecDepth 20000 in
set_option maxHeartbeats 4000000 in
theorem i_C_50 : TI 0 0 1 yX2_init cX2_init 3 [.ref 41, .ref 1, .ref 22] (dXP XC grC 42 [(0, 2), (22, 3), (22, 1), (22, 0), (0, 1), (3, 3), (3, 1), (3, 0), (0, 0), (1, 0)]) (dH0 1) (dXP XC grC 42 [(41, 1), (41, 0), (0, 2), (22, 3), (22, 1), (22, 0), (0, 1), (3, 3), (3, 1), (3, 0), (0, 0), (1, 0)]) (dH0 1) := by
  refine TI_of [.ref 41, .ref 1, .ref 22] (by decide) rfl (fun _ => rfl) (fun _ => Nat.le_of_ble_eq_true rfl) ?_
  show BA 0 0 1 RX2 cX2_init 3 0 [.ref 41, .ref 1, .ref 22] [] (dXP XC grC 42 [(0, 2), (22, 3), (22, 1), (22, 0), (0, 1), (3, 3), (3, 1), (3, 0), (0, 0), (1, 0)]) (dH0 1) 0 0 (dXP XC grC 42 [(41, 1), (41, 0), (0, 2), (22, 3), (22, 1), (22, 0), (0, 1), (3, 3), (3, 1), (3, 0), (0, 0), (1, 0)]) (dH0 1)
  refine N_aload_n dX2_init_0 rfl rfl ?_
  refine N_objInit dX2_init_1 ob_X2_3 (Nat.le_of_ble_eq_true rfl) (Nat.le_of_ble_eq_true rfl) ?_
  refine N_aload_n dX2_init_4 rfl rfl ?_
  refine N_aload_n dX2_init_5 rfl rfl ?_
  refine N_putF dX2_init_6 nfl_X2_9 nff_X2_0 rfl rfl rfl ?_
  refine N_aload_n dX2_init_9 rfl rfl ?_
  refine N_aload_n dX2_init_10 rfl rfl ?_
  refine N_putF dX2_init_11 nfl_X2_15 nff_X2_1 rfl rfl rfl ?_
  exact N_return dX2_init_14
theorem nmw_X2_init : dMw yX2_init cX2_init 3 none 2 := ⟨dmT1 94 rfl rfl, dmT1 4 rfl rfl, ⟨by decide, by decide, by decide +kernel⟩, by decide⟩
theorem nmi_X2_init : Cond.instanceMethod yX2_init ∈ dWs := dmT1 93 rfl rfl
theorem nl_X11_28 : Cond.methodLink RX11 28 yX2_init ∈ dWs := dmT1 92 rfl rfl
theorem nfl_X11_31 : dFl RX11 31 11 3 := ⟨_, rfl, by decide, dmT2 68 rfl rfl⟩
theorem nff_X11_3 : ∀ q : vw_C, vwCl[11]? = some q → (q.2.1 3).2.2.2 = true ∧ (q.2.1 3).1 = RX11 := fun q hq => by cases hq; exact ⟨rfl, rfl⟩
theorem nw_X11_35 : dNw RX11 35 (RX5, TX5, 7) := ⟨dmT1 106 rfl rfl, dmT1 107 rfl rfl, dmT1 5 rfl rfl⟩
theorem ob_X5_3 : dOb RX5 3 := ⟨dmT1 111 rfl rfl, dmT1 31 rfl rfl, dmT1 32 rfl rfl⟩
theorem nfl_X5_9 : dFl RX5 9 5 0 := ⟨_, rfl, by decide, dmT1 113 rfl rfl⟩
theorem nff_X5_0 : ∀ q : vw_C, vwCl[5]? = some q → (q.2.1 0).2.2.2 = true ∧ (q.2.1 0).1 = RX5 := fun q hq => by cases hq; exact ⟨rfl, rfl⟩
theorem nfl_X5_15 : dFl RX5 15 5 2 := ⟨_, rfl, by decide, dmT1 117 rfl rfl⟩
theorem nfw_X5_2 : dFw 5 2 := fun q hq => by cases hq; rfl
theorem cn_X5_19 : Cond.classLink RX5 19 "[[I" ∈ dWs := dmT1 112 rfl rfl
theorem nfl_X5_21 : dFl RX5 21 5 4 := ⟨_, rfl, by decide, dmT1 121 rfl rfl⟩
theorem nff_X5_4 : ∀ q : vw_C, vwCl[5]? = some q → (q.2.1 4).2.2.2 = true ∧ (q.2.1 4).1 = RX5 := fun q hq => by cases hq; exact ⟨rfl, rfl⟩
theorem nfl_X5_24 : dFl RX5 24 5 5 := ⟨_, rfl, by decide, dmT1 122 rfl rfl⟩
theorem nff_X5_5 : ∀ q : vw_C, vwCl[5]? = some q → (q.2.1 5).2.2.2 = true ∧ (q.2.1 5).1 = RX5 := fun q hq => by cases hq; exact ⟨rfl, rfl⟩
theorem nfl_X5_27 : dFl RX5 27 5 6 := ⟨_, rfl, by decide, dmT1 123 rfl rfl⟩
theorem nff_X5_6 : ∀ q : vw_C, vwCl[5]? = some q → (q.2.1 6).2.2.2 = true ∧ (q.2.1 6).1 = RX5 := fun q hq => by cases hq; exact ⟨rfl, rfl⟩
theorem nfl_X5_30 : dFl RX5 30 5 3 := ⟨_, rfl, by decide, dmT1 120 rfl rfl⟩
theorem nff_X5_3 : ∀ q : vw_C, vwCl[5]? = some q → (q.2.1 3).2.2.2 = true ∧ (q.2.1 3).1 = RX5 := fun q hq => by cases hq; exact ⟨rfl, rfl⟩
set_option maxRecDepth 20000 in
set_option maxHeartbeats 4000000 in
theorem i_C_65 : TI 9 1280 1 yX5_init cX5_init 2 [.ref 42, .ref 1] (dXP XC grC 43 [(0, 3), (41, 1), (41, 0), (0, 2), (22, 3), (22, 1), (22, 0), (0, 1), (3, 3), (3, 1), (3, 0), (0, 0), (1, 0)]) (dH0 1) (dXP XC grC 52 [(42, 3), (42, 6), (42, 5), (42, 4), (42, 0), (0, 3), (41, 1), (41, 0), (0, 2), (22, 3), (22, 1), (22, 0), (0, 1), (3, 3), (3, 1), (3, 0), (0, 0), (1, 0)]) (dPut (dH0 1) 42 2 (-1)) := by
  refine TI_of [.ref 42, .ref 1] (by decide) rfl (fun _ => rfl) (fun _ => Nat.le_of_ble_eq_true rfl) ?_
  show BA 9 1280 1 RX5 cX5_init 2 0 [.ref 42, .ref 1] [] (dXP XC grC 43 [(0, 3), (41, 1), (41, 0), (0, 2), (22, 3), (22, 1), (22, 0), (0, 1), (3, 3), (3, 1), (3, 0), (0, 0), (1, 0)]) (dH0 1) 0 0 (dXP XC grC 52 [(42, 3), (42, 6), (42, 5), (42, 4), (42, 0), (0, 3), (41, 1), (41, 0), (0, 2), (22, 3), (22, 1), (22, 0), (0, 1), (3, 3), (3, 1), (3, 0), (0, 0), (1, 0)]) (dPut (dH0 1) 42 2 (-1))
  refine N_aload_n dX5_init_0 rfl rfl ?_
  refine N_objInit dX5_init_1 ob_X5_3 (Nat.le_of_ble_eq_true rfl) (Nat.le_of_ble_eq_true rfl) ?_
  refine N_aload_n dX5_init_4 rfl rfl ?_
  refine N_bipush dX5_init_5 bp_6 ?_
  refine N_newaI (N := 6) dX5_init_7 ac_int (by decide) (by decide) (Nat.le_of_ble_eq_true rfl) rfl (Nat.le_of_ble_eq_true rfl) dGrC (by decide +kernel) (by funext i; rfl) (Nat.le_of_ble_eq_true rfl) (Nat.le_of_ble_eq_true rfl) rfl rfl ?_
  refine N_putF dX5_init_9 nfl_X5_9 nff_X5_0 rfl rfl rfl ?_
  refine N_aload_n dX5_init_12 rfl rfl ?_
  refine N_iconst dX5_init_13 ic_m1 ?_
  refine N_putI dX5_init_14 nfl_X5_15 nfw_X5_2 rfl rfl ?_
  refine N_aload_n dX5_init_17 rfl rfl ?_
  refine N_iconst dX5_init_18 ic_5 ?_
  refine N_sipush dX5_init_19 sp_240 ?_
  refine N_mna (N := 5) (M := 240) dX5_init_22 cn_X5_19 ac_int (by decide) (by decide) (by decide) (by decide) (Nat.le_of_ble_eq_true rfl) (Nat.le_of_ble_eq_true rfl) (Nat.le_of_ble_eq_true rfl) rfl (by decide +kernel) (Nat.le_of_ble_eq_true rfl) (by decide) dGrC (by decide) (fun i hi => by rcases (show i = 0 ∨ i = 1 ∨ i = 2 ∨ i = 3 ∨ i = 4 by omega) with rfl | rfl | rfl | rfl | rfl <;> (funext i; rfl)) (Nat.le_of_ble_eq_true rfl) (Nat.le_of_ble_eq_true rfl) rfl rfl (fun b h1 h2 => (by decide +kernel : ∀ b, b < 50 → 44 ≤ b → ([(42, 0), (0, 3), (41, 1), (41, 0), (0, 2), (22, 3), (22, 1), (22, 0), (0, 1), (3, 3), (3, 1), (3, 0), (0, 0), (1, 0)] : List (Nat × Nat)).all (fun q => XC.2 1 q.1 q.2 != some b) = true) b h2 h1) ?_
  refine N_putF dX5_init_26 nfl_X5_21 nff_X5_4 rfl rfl rfl ?_
  refine N_aload_n dX5_init_29 rfl rfl ?_
  refine N_iconst dX5_init_30 ic_5 ?_
  refine N_newaI (N := 5) dX5_init_31 ac_int (by decide) (by decide) (Nat.le_of_ble_eq_true rfl) rfl (Nat.le_of_ble_eq_true rfl) dGrC (by decide +kernel) (by funext i; rfl) (Nat.le_of_ble_eq_true rfl) (Nat.le_of_ble_eq_true rfl) rfl rfl ?_
  refine N_putF dX5_init_33 nfl_X5_24 nff_X5_5 rfl rfl rfl ?_
  refine N_aload_n dX5_init_36 rfl rfl ?_
  refine N_bipush dX5_init_37 bp_64 ?_
  refine N_newaI (N := 64) dX5_init_39 ac_int (by decide) (by decide) (Nat.le_of_ble_eq_true rfl) rfl (Nat.le_of_ble_eq_true rfl) dGrC (by decide +kernel) (by funext i; rfl) (Nat.le_of_ble_eq_true rfl) (Nat.le_of_ble_eq_true rfl) rfl rfl ?_
  refine N_putF dX5_init_41 nfl_X5_27 nff_X5_6 rfl rfl rfl ?_
  refine N_aload_n dX5_init_44 rfl rfl ?_
  refine N_aload_n dX5_init_45 rfl rfl ?_
  refine N_putF dX5_init_46 nfl_X5_30 nff_X5_3 rfl rfl rfl ?_
  exact N_return dX5_init_49
theorem nmw_X5_init : dMw yX5_init cX5_init 2 none 1 := ⟨dmT1 110 rfl rfl, dmT1 5 rfl rfl, ⟨by decide, by decide, by decide +kernel⟩, by decide⟩
theorem nmi_X5_init : Cond.instanceMethod yX5_init ∈ dWs := dmT1 109 rfl rfl
theorem nl_X11_37 : Cond.methodLink RX11 37 yX5_init ∈ dWs := dmT1 108 rfl rfl
theorem nfl_X11_40 : dFl RX11 40 11 4 := ⟨_, rfl, by decide, dmT2 69 rfl rfl⟩
theorem nff_X11_4 : ∀ q : vw_C, vwCl[11]? = some q → (q.2.1 4).2.2.2 = true ∧ (q.2.1 4).1 = RX11 := fun q hq => by cases hq; exact ⟨rfl, rfl⟩
theorem nw_X11_44 : dNw RX11 44 (RX3, TX3, 5) := ⟨dmT1 139 rfl rfl, dmT1 140 rfl rfl, dmT1 6 rfl rfl⟩
theorem ob_X3_3 : dOb RX3 3 := ⟨dmT1 144 rfl rfl, dmT1 31 rfl rfl, dmT1 32 rfl rfl⟩
theorem cn_X3_11 : Cond.classLink RX3 11 "[[I" ∈ dWs := dmT1 145 rfl rfl
theorem nfl_X3_13 : dFl RX3 13 3 2 := ⟨_, rfl, by decide, dmT1 149 rfl rfl⟩
theorem nff_X3_2 : ∀ q : vw_C, vwCl[3]? = some q → (q.2.1 2).2.2.2 = true ∧ (q.2.1 2).1 = RX3 := fun q hq => by cases hq; exact ⟨rfl, rfl⟩
theorem nfl_X3_16 : dFl RX3 16 3 3 := ⟨_, rfl, by decide, dmT1 150 rfl rfl⟩
theorem nff_X3_3 : ∀ q : vw_C, vwCl[3]? = some q → (q.2.1 3).2.2.2 = true ∧ (q.2.1 3).1 = RX3 := fun q hq => by cases hq; exact ⟨rfl, rfl⟩
theorem nfl_X3_19 : dFl RX3 19 3 4 := ⟨_, rfl, by decide, dmT1 151 rfl rfl⟩
theorem nff_X3_4 : ∀ q : vw_C, vwCl[3]? = some q → (q.2.1 4).2.2.2 = true ∧ (q.2.1 4).1 = RX3 := fun q hq => by cases hq; exact ⟨rfl, rfl⟩
theorem nfl_X3_23 : dFl RX3 23 3 1 := ⟨_, rfl, by decide, dmT1 148 rfl rfl⟩
theorem nff_X3_1 : ∀ q : vw_C, vwCl[3]? = some q → (q.2.1 1).2.2.2 = true ∧ (q.2.1 1).1 = RX3 := fun q hq => by cases hq; exact ⟨rfl, rfl⟩
set_option maxRecDepth 20000 in
set_option maxHeartbeats 4000000 in
theorem i_C_80 : TI 13 175 1 yX3_init cX3_init 2 [.ref 52, .ref 1] (dXP XC grC 53 [(0, 4), (42, 3), (42, 6), (42, 5), (42, 4), (42, 0), (0, 3), (41, 1), (41, 0), (0, 2), (22, 3), (22, 1), (22, 0), (0, 1), (3, 3), (3, 1), (3, 0), (0, 0), (1, 0)]) (dPut (dH0 1) 42 2 (-1)) (dXP XC grC 66 [(52, 1), (52, 4), (52, 3), (52, 2), (0, 4), (42, 3), (42, 6), (42, 5), (42, 4), (42, 0), (0, 3), (41, 1), (41, 0), (0, 2), (22, 3), (22, 1), (22, 0), (0, 1), (3, 3), (3, 1), (3, 0), (0, 0), (1, 0)]) (dPut (dH0 1) 42 2 (-1)) := by
  refine TI_of [.ref 52, .ref 1] (by decide) rfl (fun _ => rfl) (fun _ => Nat.le_of_ble_eq_true rfl) ?_
  show BA 13 175 1 RX3 cX3_init 2 0 [.ref 52, .ref 1] [] (dXP XC grC 53 [(0, 4), (42, 3), (42, 6), (42, 5), (42, 4), (42, 0), (0, 3), (41, 1), (41, 0), (0, 2), (22, 3), (22, 1), (22, 0), (0, 1), (3, 3), (3, 1), (3, 0), (0, 0), (1, 0)]) (dPut (dH0 1) 42 2 (-1)) 0 0 (dXP XC grC 66 [(52, 1), (52, 4), (52, 3), (52, 2), (0, 4), (42, 3), (42, 6), (42, 5), (42, 4), (42, 0), (0, 3), (41, 1), (41, 0), (0, 2), (22, 3), (22, 1), (22, 0), (0, 1), (3, 3), (3, 1), (3, 0), (0, 0), (1, 0)]) (dPut (dH0 1) 42 2 (-1))
  refine N_aload_n dX3_init_0 rfl rfl ?_
  refine N_objInit dX3_init_1 ob_X3_3 (Nat.le_of_ble_eq_true rfl) (Nat.le_of_ble_eq_true rfl) ?_
  refine N_aload_n dX3_init_4 rfl rfl ?_
  refine N_iconst dX3_init_5 ic_5 ?_
  refine N_bipush dX3_init_6 bp_16 ?_
  refine N_mna (N := 5) (M := 16) dX3_init_8 cn_X3_11 ac_int (by decide) (by decide) (by decide) (by decide) (Nat.le_of_ble_eq_true rfl) (Nat.le_of_ble_eq_true rfl) (Nat.le_of_ble_eq_true rfl) rfl (by decide +kernel) (Nat.le_of_ble_eq_true rfl) (by decide) dGrC (by decide) (fun i hi => by rcases (show i = 0 ∨ i = 1 ∨ i = 2 ∨ i = 3 ∨ i = 4 by omega) with rfl | rfl | rfl | rfl | rfl <;> (funext i; rfl)) (Nat.le_of_ble_eq_true rfl) (Nat.le_of_ble_eq_true rfl) rfl rfl (fun b h1 h2 => (by decide +kernel : ∀ b, b < 59 → 53 ≤ b → ([(0, 4), (42, 3), (42, 6), (42, 5), (42, 4), (42, 0), (0, 3), (41, 1), (41, 0), (0, 2), (22, 3), (22, 1), (22, 0), (0, 1), (3, 3), (3, 1), (3, 0), (0, 0), (1, 0)] : List (Nat × Nat)).all (fun q => XC.2 1 q.1 q.2 != some b) = true) b h2 h1) ?_
  refine N_putF dX3_init_12 nfl_X3_13 nff_X3_2 rfl rfl rfl ?_
  refine N_aload_n dX3_init_15 rfl rfl ?_
  refine N_iconst dX3_init_16 ic_5 ?_
  refine N_bipush dX3_init_17 bp_16 ?_
  refine N_mna (N := 5) (M := 16) dX3_init_19 cn_X3_11 ac_int (by decide) (by decide) (by decide) (by decide) (Nat.le_of_ble_eq_true rfl) (Nat.le_of_ble_eq_true rfl) (Nat.le_of_ble_eq_true rfl) rfl (by decide +kernel) (Nat.le_of_ble_eq_true rfl) (by decide) dGrC (by decide) (fun i hi => by rcases (show i = 0 ∨ i = 1 ∨ i = 2 ∨ i = 3 ∨ i = 4 by omega) with rfl | rfl | rfl | rfl | rfl <;> (funext i; rfl)) (Nat.le_of_ble_eq_true rfl) (Nat.le_of_ble_eq_true rfl) rfl rfl (fun b h1 h2 => (by decide +kernel : ∀ b, b < 65 → 59 ≤ b → ([(52, 2), (0, 4), (42, 3), (42, 6), (42, 5), (42, 4), (42, 0), (0, 3), (41, 1), (41, 0), (0, 2), (22, 3), (22, 1), (22, 0), (0, 1), (3, 3), (3, 1), (3, 0), (0, 0), (1, 0)] : List (Nat × Nat)).all (fun q => XC.2 1 q.1 q.2 != some b) = true) b h2 h1) ?_
  refine N_putF dX3_init_23 nfl_X3_16 nff_X3_3 rfl rfl rfl ?_
  refine N_aload_n dX3_init_26 rfl rfl ?_
  refine N_iconst dX3_init_27 ic_5 ?_
  refine N_newaI (N := 5) dX3_init_28 ac_int (by decide) (by decide) (Nat.le_of_ble_eq_true rfl) rfl (Nat.le_of_ble_eq_true rfl) dGrC (by decide +kernel) (by funext i; rfl) (Nat.le_of_ble_eq_true rfl) (Nat.le_of_ble_eq_true rfl) rfl rfl ?_
  refine N_putF dX3_init_30 nfl_X3_19 nff_X3_4 rfl rfl rfl ?_
  refine N_aload_n dX3_init_33 rfl rfl ?_
  refine N_aload_n dX3_init_34 rfl rfl ?_
  refine N_putF dX3_init_35 nfl_X3_23 nff_X3_1 rfl rfl rfl ?_
  exact N_return dX3_init_38
theorem nmw_X3_init : dMw yX3_init cX3_init 2 none 1 := ⟨dmT1 143 rfl rfl, dmT1 6 rfl rfl, ⟨by decide, by decide, by decide +kernel⟩, by decide⟩
theorem nmi_X3_init : Cond.instanceMethod yX3_init ∈ dWs := dmT1 142 rfl rfl
theorem nl_X11_46 : Cond.methodLink RX11 46 yX3_init ∈ dWs := dmT1 141 rfl rfl
theorem nfl_X11_47 : dFl RX11 47 11 5 := ⟨_, rfl, by decide, dmT2 70 rfl rfl⟩
theorem nff_X11_5 : ∀ q : vw_C, vwCl[11]? = some q → (q.2.1 5).2.2.2 = true ∧ (q.2.1 5).1 = RX11 := fun q hq => by cases hq; exact ⟨rfl, rfl⟩
theorem nw_X11_51 : dNw RX11 51 (RX8, TX8, 3) := ⟨dmT1 163 rfl rfl, dmT1 164 rfl rfl, dmT1 7 rfl rfl⟩
theorem ob_X8_5 : dOb RX8 5 := ⟨dmT1 168 rfl rfl, dmT1 31 rfl rfl, dmT1 32 rfl rfl⟩
theorem nfl_X8_11 : dFl RX8 11 8 2 := ⟨_, rfl, by decide, dmT1 171 rfl rfl⟩
theorem nff_X8_2 : ∀ q : vw_C, vwCl[8]? = some q → (q.2.1 2).2.2.2 = true ∧ (q.2.1 2).1 = RX8 := fun q hq => by cases hq; exact ⟨rfl, rfl⟩
theorem nfl_X8_15 : dFl RX8 15 8 0 := ⟨_, rfl, by decide, dmT1 169 rfl rfl⟩
theorem nff_X8_0 : ∀ q : vw_C, vwCl[8]? = some q → (q.2.1 0).2.2.2 = true ∧ (q.2.1 0).1 = RX8 := fun q hq => by cases hq; exact ⟨rfl, rfl⟩
theorem nfl_X8_19 : dFl RX8 19 8 1 := ⟨_, rfl, by decide, dmT1 170 rfl rfl⟩
theorem nff_X8_1 : ∀ q : vw_C, vwCl[8]? = some q → (q.2.1 1).2.2.2 = true ∧ (q.2.1 1).1 = RX8 := fun q hq => by cases hq; exact ⟨rfl, rfl⟩
set_option maxRecDepth 20000 in
set_option maxHeartbeats 4000000 in
theorem i_C_99 : TI 1 28 1 yX8_init cX8_init 3 [.ref 66, .ref 3, .ref 42] (dXP XC grC 67 [(0, 5), (52, 1), (52, 4), (52, 3), (52, 2), (0, 4), (42, 3), (42, 6), (42, 5), (42, 4), (42, 0), (0, 3), (41, 1), (41, 0), (0, 2), (22, 3), (22, 1), (22, 0), (0, 1), (3, 3), (3, 1), (3, 0), (0, 0), (1, 0)]) (dPut (dH0 1) 42 2 (-1)) (dXP XC grC 68 [(66, 1), (66, 0), (66, 2), (0, 5), (52, 1), (52, 4), (52, 3), (52, 2), (0, 4), (42, 3), (42, 6), (42, 5), (42, 4), (42, 0), (0, 3), (41, 1), (41, 0), (0, 2), (22, 3), (22, 1), (22, 0), (0, 1), (3, 3), (3, 1), (3, 0), (0, 0), (1, 0)]) (dPut (dPut (dH0 1) 42 2 (-1)) 67 0 (-1)) := by
  refine TI_of [.ref 66, .ref 3, .ref 42] (by decide) rfl (fun _ => rfl) (fun _ => Nat.le_of_ble_eq_true rfl) ?_
  show BA 1 28 1 RX8 cX8_init 3 0 [.ref 66, .ref 3, .ref 42] [] (dXP XC grC 67 [(0, 5), (52, 1), (52, 4), (52, 3), (52, 2), (0, 4), (42, 3), (42, 6), (42, 5), (42, 4), (42, 0), (0, 3), (41, 1), (41, 0), (0, 2), (22, 3), (22, 1), (22, 0), (0, 1), (3, 3), (3, 1), (3, 0), (0, 0), (1, 0)]) (dPut (dH0 1) 42 2 (-1)) 0 0 (dXP XC grC 68 [(66, 1), (66, 0), (66, 2), (0, 5), (52, 1), (52, 4), (52, 3), (52, 2), (0, 4), (42, 3), (42, 6), (42, 5), (42, 4), (42, 0), (0, 3), (41, 1), (41, 0), (0, 2), (22, 3), (22, 1), (22, 0), (0, 1), (3, 3), (3, 1), (3, 0), (0, 0), (1, 0)]) (dPut (dPut (dH0 1) 42 2 (-1)) 67 0 (-1))
  refine N_aload_n dX8_init_0 rfl rfl ?_
  refine N_objInit dX8_init_1 ob_X8_5 (Nat.le_of_ble_eq_true rfl) (Nat.le_of_ble_eq_true rfl) ?_
  refine N_aload_n dX8_init_4 rfl rfl ?_
  refine N_bipush dX8_init_5 bp_28 ?_
  refine N_newaI (N := 28) dX8_init_7 ac_int (by decide) (by decide) (Nat.le_of_ble_eq_true rfl) rfl (Nat.le_of_ble_eq_true rfl) dGrC (by decide +kernel) (by funext i; rfl) (Nat.le_of_ble_eq_true rfl) (Nat.le_of_ble_eq_true rfl) rfl rfl ?_
  refine N_putF dX8_init_9 nfl_X8_11 nff_X8_2 rfl rfl rfl ?_
  refine N_aload_n dX8_init_12 rfl rfl ?_
  refine N_aload_n dX8_init_13 rfl rfl ?_
  refine N_putF dX8_init_14 nfl_X8_15 nff_X8_0 rfl rfl rfl ?_
  refine N_aload_n dX8_init_17 rfl rfl ?_
  refine N_aload_n dX8_init_18 rfl rfl ?_
  refine N_putF dX8_init_19 nfl_X8_19 nff_X8_1 rfl rfl rfl ?_
  refine N_aload_n dX8_init_22 rfl rfl ?_
  refine N_getR (b := 67) dX8_init_23 nfl_X8_11 rfl rfl rfl ?_
  refine N_iconst dX8_init_26 ic_0 ?_
  refine N_iconst dX8_init_27 ic_m1 ?_
  refine N_iast dX8_init_28 rfl (by decide) di_0 ?_
  exact N_return dX8_init_29
theorem nmw_X8_init : dMw yX8_init cX8_init 3 none 2 := ⟨dmT1 167 rfl rfl, dmT1 7 rfl rfl, ⟨by decide, by decide, by decide +kernel⟩, by decide⟩
theorem nmi_X8_init : Cond.instanceMethod yX8_init ∈ dWs := dmT1 166 rfl rfl
theorem nl_X11_53 : Cond.methodLink RX11 53 yX8_init ∈ dWs := dmT1 165 rfl rfl
theorem nfl_X11_56 : dFl RX11 56 11 6 := ⟨_, rfl, by decide, dmT2 71 rfl rfl⟩
theorem nff_X11_6 : ∀ q : vw_C, vwCl[11]? = some q → (q.2.1 6).2.2.2 = true ∧ (q.2.1 6).1 = RX11 := fun q hq => by cases hq; exact ⟨rfl, rfl⟩
set_option maxRecDepth 20000 in
set_option maxHeartbeats 4000000 in
theorem i_C_118 : TI 1 28 1 yX8_init cX8_init 3 [.ref 68, .ref 3, .ref 42] (dXP XC grC 69 [(0, 6), (66, 1), (66, 0), (66, 2), (0, 5), (52, 1), (52, 4), (52, 3), (52, 2), (0, 4), (42, 3), (42, 6), (42, 5), (42, 4), (42, 0), (0, 3), (41, 1), (41, 0), (0, 2), (22, 3), (22, 1), (22, 0), (0, 1), (3, 3), (3, 1), (3, 0), (0, 0), (1, 0)]) (dPut (dPut (dH0 1) 42 2 (-1)) 67 0 (-1)) (dXP XC grC 70 [(68, 1), (68, 0), (68, 2), (0, 6), (66, 1), (66, 0), (66, 2), (0, 5), (52, 1), (52, 4), (52, 3), (52, 2), (0, 4), (42, 3), (42, 6), (42, 5), (42, 4), (42, 0), (0, 3), (41, 1), (41, 0), (0, 2), (22, 3), (22, 1), (22, 0), (0, 1), (3, 3), (3, 1), (3, 0), (0, 0), (1, 0)]) (dPut (dPut (dPut (dH0 1) 42 2 (-1)) 67 0 (-1)) 69 0 (-1)) := by
  refine TI_of [.ref 68, .ref 3, .ref 42] (by decide) rfl (fun _ => rfl) (fun _ => Nat.le_of_ble_eq_true rfl) ?_
  show BA 1 28 1 RX8 cX8_init 3 0 [.ref 68, .ref 3, .ref 42] [] (dXP XC grC 69 [(0, 6), (66, 1), (66, 0), (66, 2), (0, 5), (52, 1), (52, 4), (52, 3), (52, 2), (0, 4), (42, 3), (42, 6), (42, 5), (42, 4), (42, 0), (0, 3), (41, 1), (41, 0), (0, 2), (22, 3), (22, 1), (22, 0), (0, 1), (3, 3), (3, 1), (3, 0), (0, 0), (1, 0)]) (dPut (dPut (dH0 1) 42 2 (-1)) 67 0 (-1)) 0 0 (dXP XC grC 70 [(68, 1), (68, 0), (68, 2), (0, 6), (66, 1), (66, 0), (66, 2), (0, 5), (52, 1), (52, 4), (52, 3), (52, 2), (0, 4), (42, 3), (42, 6), (42, 5), (42, 4), (42, 0), (0, 3), (41, 1), (41, 0), (0, 2), (22, 3), (22, 1), (22, 0), (0, 1), (3, 3), (3, 1), (3, 0), (0, 0), (1, 0)]) (dPut (dPut (dPut (dH0 1) 42 2 (-1)) 67 0 (-1)) 69 0 (-1))
  refine N_aload_n dX8_init_0 rfl rfl ?_
  refine N_objInit dX8_init_1 ob_X8_5 (Nat.le_of_ble_eq_true rfl) (Nat.le_of_ble_eq_true rfl) ?_
  refine N_aload_n dX8_init_4 rfl rfl ?_
  refine N_bipush dX8_init_5 bp_28 ?_
  refine N_newaI (N := 28) dX8_init_7 ac_int (by decide) (by decide) (Nat.le_of_ble_eq_true rfl) rfl (Nat.le_of_ble_eq_true rfl) dGrC (by decide +kernel) (by funext i; rfl) (Nat.le_of_ble_eq_true rfl) (Nat.le_of_ble_eq_true rfl) rfl rfl ?_
  refine N_putF dX8_init_9 nfl_X8_11 nff_X8_2 rfl rfl rfl ?_
  refine N_aload_n dX8_init_12 rfl rfl ?_
  refine N_aload_n dX8_init_13 rfl rfl ?_
  refine N_putF dX8_init_14 nfl_X8_15 nff_X8_0 rfl rfl rfl ?_
  refine N_aload_n dX8_init_17 rfl rfl ?_
  refine N_aload_n dX8_init_18 rfl rfl ?_
  refine N_putF dX8_init_19 nfl_X8_19 nff_X8_1 rfl rfl rfl ?_
  refine N_aload_n dX8_init_22 rfl rfl ?_
  refine N_getR (b := 69) dX8_init_23 nfl_X8_11 rfl rfl rfl ?_
  refine N_iconst dX8_init_26 ic_0 ?_
  refine N_iconst dX8_init_27 ic_m1 ?_
  refine N_iast dX8_init_28 rfl (by decide) di_0 ?_
  exact N_return dX8_init_29
theorem nfl_X11_60 : dFl RX11 60 11 7 := ⟨_, rfl, by decide, dmT2 72 rfl rfl⟩
theorem nff_X11_7 : ∀ q : vw_C, vwCl[11]? = some q → (q.2.1 7).2.2.2 = true ∧ (q.2.1 7).1 = RX11 := fun q hq => by cases hq; exact ⟨rfl, rfl⟩
theorem nw_X11_63 : dNw RX11 63 (RX0, TX0, 3) := ⟨dmT1 180 rfl rfl, dmT1 181 rfl rfl, dmT1 8 rfl rfl⟩
theorem ob_X0_3 : dOb RX0 3 := ⟨dmT1 185 rfl rfl, dmT1 31 rfl rfl, dmT1 32 rfl rfl⟩
theorem nfl_X0_13 : dFl RX0 13 0 1 := ⟨_, rfl, by decide, dmT1 188 rfl rfl⟩
theorem nff_X0_1 : ∀ q : vw_C, vwCl[0]? = some q → (q.2.1 1).2.2.2 = true ∧ (q.2.1 1).1 = RX0 := fun q hq => by cases hq; exact ⟨rfl, rfl⟩
set_option maxRecDepth 20000 in
set_option maxHeartbeats 4000000 in
theorem i_C_129 : TI 1 1120 1 yX0_init cX0_init 1 [.ref 70] (dXP XC grC 71 [(0, 7), (68, 1), (68, 0), (68, 2), (0, 6), (66, 1), (66, 0), (66, 2), (0, 5), (52, 1), (52, 4), (52, 3), (52, 2), (0, 4), (42, 3), (42, 6), (42, 5), (42, 4), (42, 0), (0, 3), (41, 1), (41, 0), (0, 2), (22, 3), (22, 1), (22, 0), (0, 1), (3, 3), (3, 1), (3, 0), (0, 0), (1, 0)]) (dPut (dPut (dPut (dH0 1) 42 2 (-1)) 67 0 (-1)) 69 0 (-1)) (dXP XC grC 72 [(70, 1), (0, 7), (68, 1), (68, 0), (68, 2), (0, 6), (66, 1), (66, 0), (66, 2), (0, 5), (52, 1), (52, 4), (52, 3), (52, 2), (0, 4), (42, 3), (42, 6), (42, 5), (42, 4), (42, 0), (0, 3), (41, 1), (41, 0), (0, 2), (22, 3), (22, 1), (22, 0), (0, 1), (3, 3), (3, 1), (3, 0), (0, 0), (1, 0)]) (dPut (dPut (dPut (dH0 1) 42 2 (-1)) 67 0 (-1)) 69 0 (-1)) := by
  refine TI_of [.ref 70] (by decide) rfl (fun _ => rfl) (fun _ => Nat.le_of_ble_eq_true rfl) ?_
  show BA 1 1120 1 RX0 cX0_init 1 0 [.ref 70] [] (dXP XC grC 71 [(0, 7), (68, 1), (68, 0), (68, 2), (0, 6), (66, 1), (66, 0), (66, 2), (0, 5), (52, 1), (52, 4), (52, 3), (52, 2), (0, 4), (42, 3), (42, 6), (42, 5), (42, 4), (42, 0), (0, 3), (41, 1), (41, 0), (0, 2), (22, 3), (22, 1), (22, 0), (0, 1), (3, 3), (3, 1), (3, 0), (0, 0), (1, 0)]) (dPut (dPut (dPut (dH0 1) 42 2 (-1)) 67 0 (-1)) 69 0 (-1)) 0 0 (dXP XC grC 72 [(70, 1), (0, 7), (68, 1), (68, 0), (68, 2), (0, 6), (66, 1), (66, 0), (66, 2), (0, 5), (52, 1), (52, 4), (52, 3), (52, 2), (0, 4), (42, 3), (42, 6), (42, 5), (42, 4), (42, 0), (0, 3), (41, 1), (41, 0), (0, 2), (22, 3), (22, 1), (22, 0), (0, 1), (3, 3), (3, 1), (3, 0), (0, 0), (1, 0)]) (dPut (dPut (dPut (dH0 1) 42 2 (-1)) 67 0 (-1)) 69 0 (-1))
  refine N_aload_n dX0_init_0 rfl rfl ?_
  refine N_objInit dX0_init_1 ob_X0_3 (Nat.le_of_ble_eq_true rfl) (Nat.le_of_ble_eq_true rfl) ?_
  refine N_aload_n dX0_init_4 rfl rfl ?_
  refine N_sipush dX0_init_5 sp_1120 ?_
  refine N_newaI (N := 1120) dX0_init_8 ac_int (by decide) (by decide) (Nat.le_of_ble_eq_true rfl) rfl (Nat.le_of_ble_eq_true rfl) dGrC (by decide +kernel) (by funext i; rfl) (Nat.le_of_ble_eq_true rfl) (Nat.le_of_ble_eq_true rfl) rfl rfl ?_
  refine N_putF dX0_init_10 nfl_X0_13 nff_X0_1 rfl rfl rfl ?_
  exact N_return dX0_init_13
theorem nmw_X0_init : dMw yX0_init cX0_init 1 none 0 := ⟨dmT1 184 rfl rfl, dmT1 8 rfl rfl, ⟨by decide, by decide, by decide +kernel⟩, by decide⟩
theorem nmi_X0_init : Cond.instanceMethod yX0_init ∈ dWs := dmT1 183 rfl rfl
theorem nfl_X11_66 : dFl RX11 66 11 8 := ⟨_, rfl, by decide, dmT2 73 rfl rfl⟩
theorem nff_X11_8 : ∀ q : vw_C, vwCl[11]? = some q → (q.2.1 8).2.2.2 = true ∧ (q.2.1 8).1 = RX11 := fun q hq => by cases hq; exact ⟨rfl, rfl⟩
theorem nw_X11_70 : dNw RX11 70 (RX4, TX4, 1) := ⟨dmT1 197 rfl rfl, dmT1 198 rfl rfl, dmT1 9 rfl rfl⟩
theorem ob_X4_3 : dOb RX4 3 := ⟨dmT1 202 rfl rfl, dmT1 31 rfl rfl, dmT1 32 rfl rfl⟩
theorem nfl_X4_11 : dFl RX4 11 4 0 := ⟨_, rfl, by decide, dmT1 203 rfl rfl⟩
theorem nff_X4_0 : ∀ q : vw_C, vwCl[4]? = some q → (q.2.1 0).2.2.2 = true ∧ (q.2.1 0).1 = RX4 := fun q hq => by cases hq; exact ⟨rfl, rfl⟩
set_option maxRecDepth 20000 in
set_option maxHeartbeats 4000000 in
theorem i_C_140 : TI 1 300 1 yX4_init cX4_init 1 [.ref 72] (dXP XC grC 73 [(0, 8), (70, 1), (0, 7), (68, 1), (68, 0), (68, 2), (0, 6), (66, 1), (66, 0), (66, 2), (0, 5), (52, 1), (52, 4), (52, 3), (52, 2), (0, 4), (42, 3), (42, 6), (42, 5), (42, 4), (42, 0), (0, 3), (41, 1), (41, 0), (0, 2), (22, 3), (22, 1), (22, 0), (0, 1), (3, 3), (3, 1), (3, 0), (0, 0), (1, 0)]) (dPut (dPut (dPut (dH0 1) 42 2 (-1)) 67 0 (-1)) 69 0 (-1)) (dXP XC grC 74 [(72, 0), (0, 8), (70, 1), (0, 7), (68, 1), (68, 0), (68, 2), (0, 6), (66, 1), (66, 0), (66, 2), (0, 5), (52, 1), (52, 4), (52, 3), (52, 2), (0, 4), (42, 3), (42, 6), (42, 5), (42, 4), (42, 0), (0, 3), (41, 1), (41, 0), (0, 2), (22, 3), (22, 1), (22, 0), (0, 1), (3, 3), (3, 1), (3, 0), (0, 0), (1, 0)]) (dPut (dPut (dPut (dH0 1) 42 2 (-1)) 67 0 (-1)) 69 0 (-1)) := by
  refine TI_of [.ref 72] (by decide) rfl (fun _ => rfl) (fun _ => Nat.le_of_ble_eq_true rfl) ?_
  show BA 1 300 1 RX4 cX4_init 1 0 [.ref 72] [] (dXP XC grC 73 [(0, 8), (70, 1), (0, 7), (68, 1), (68, 0), (68, 2), (0, 6), (66, 1), (66, 0), (66, 2), (0, 5), (52, 1), (52, 4), (52, 3), (52, 2), (0, 4), (42, 3), (42, 6), (42, 5), (42, 4), (42, 0), (0, 3), (41, 1), (41, 0), (0, 2), (22, 3), (22, 1), (22, 0), (0, 1), (3, 3), (3, 1), (3, 0), (0, 0), (1, 0)]) (dPut (dPut (dPut (dH0 1) 42 2 (-1)) 67 0 (-1)) 69 0 (-1)) 0 0 (dXP XC grC 74 [(72, 0), (0, 8), (70, 1), (0, 7), (68, 1), (68, 0), (68, 2), (0, 6), (66, 1), (66, 0), (66, 2), (0, 5), (52, 1), (52, 4), (52, 3), (52, 2), (0, 4), (42, 3), (42, 6), (42, 5), (42, 4), (42, 0), (0, 3), (41, 1), (41, 0), (0, 2), (22, 3), (22, 1), (22, 0), (0, 1), (3, 3), (3, 1), (3, 0), (0, 0), (1, 0)]) (dPut (dPut (dPut (dH0 1) 42 2 (-1)) 67 0 (-1)) 69 0 (-1))
  refine N_aload_n dX4_init_0 rfl rfl ?_
  refine N_objInit dX4_init_1 ob_X4_3 (Nat.le_of_ble_eq_true rfl) (Nat.le_of_ble_eq_true rfl) ?_
  refine N_aload_n dX4_init_4 rfl rfl ?_
  refine N_sipush dX4_init_5 sp_300 ?_
  refine N_newaI (N := 300) dX4_init_8 ac_int (by decide) (by decide) (Nat.le_of_ble_eq_true rfl) rfl (Nat.le_of_ble_eq_true rfl) dGrC (by decide +kernel) (by funext i; rfl) (Nat.le_of_ble_eq_true rfl) (Nat.le_of_ble_eq_true rfl) rfl rfl ?_
  refine N_putF dX4_init_10 nfl_X4_11 nff_X4_0 rfl rfl rfl ?_
  exact N_return dX4_init_13
theorem nmw_X4_init : dMw yX4_init cX4_init 1 none 0 := ⟨dmT1 201 rfl rfl, dmT1 9 rfl rfl, ⟨by decide, by decide, by decide +kernel⟩, by decide⟩
theorem nmi_X4_init : Cond.instanceMethod yX4_init ∈ dWs := dmT1 200 rfl rfl
theorem nfl_X11_73 : dFl RX11 73 11 9 := ⟨_, rfl, by decide, dmT2 74 rfl rfl⟩
theorem nff_X11_9 : ∀ q : vw_C, vwCl[11]? = some q → (q.2.1 9).2.2.2 = true ∧ (q.2.1 9).1 = RX11 := fun q hq => by cases hq; exact ⟨rfl, rfl⟩
theorem nfl_X11_77 : dFl RX11 77 11 10 := ⟨_, rfl, by decide, dmT2 75 rfl rfl⟩
theorem nff_X11_10 : ∀ q : vw_C, vwCl[11]? = some q → (q.2.1 10).2.2.2 = true ∧ (q.2.1 10).1 = RX11 := fun q hq => by cases hq; exact ⟨rfl, rfl⟩
set_option maxRecDepth 20000 in
set_option maxHeartbeats 4000000 in
theorem i_C_159 : TI 1 300 1 yX4_init cX4_init 1 [.ref 75] (dXP XC grC 76 [(0, 10), (0, 9), (72, 0), (0, 8), (70, 1), (0, 7), (68, 1), (68, 0), (68, 2), (0, 6), (66, 1), (66, 0), (66, 2), (0, 5), (52, 1), (52, 4), (52, 3), (52, 2), (0, 4), (42, 3), (42, 6), (42, 5), (42, 4), (42, 0), (0, 3), (41, 1), (41, 0), (0, 2), (22, 3), (22, 1), (22, 0), (0, 1), (3, 3), (3, 1), (3, 0), (0, 0), (1, 0)]) (dPut (dPut (dPut (dH0 1) 42 2 (-1)) 67 0 (-1)) 69 0 (-1)) (dXP XC grC 77 [(75, 0), (0, 10), (0, 9), (72, 0), (0, 8), (70, 1), (0, 7), (68, 1), (68, 0), (68, 2), (0, 6), (66, 1), (66, 0), (66, 2), (0, 5), (52, 1), (52, 4), (52, 3), (52, 2), (0, 4), (42, 3), (42, 6), (42, 5), (42, 4), (42, 0), (0, 3), (41, 1), (41, 0), (0, 2), (22, 3), (22, 1), (22, 0), (0, 1), (3, 3), (3, 1), (3, 0), (0, 0), (1, 0)]) (dPut (dPut (dPut (dH0 1) 42 2 (-1)) 67 0 (-1)) 69 0 (-1)) := by
  refine TI_of [.ref 75] (by decide) rfl (fun _ => rfl) (fun _ => Nat.le_of_ble_eq_true rfl) ?_
  show BA 1 300 1 RX4 cX4_init 1 0 [.ref 75] [] (dXP XC grC 76 [(0, 10), (0, 9), (72, 0), (0, 8), (70, 1), (0, 7), (68, 1), (68, 0), (68, 2), (0, 6), (66, 1), (66, 0), (66, 2), (0, 5), (52, 1), (52, 4), (52, 3), (52, 2), (0, 4), (42, 3), (42, 6), (42, 5), (42, 4), (42, 0), (0, 3), (41, 1), (41, 0), (0, 2), (22, 3), (22, 1), (22, 0), (0, 1), (3, 3), (3, 1), (3, 0), (0, 0), (1, 0)]) (dPut (dPut (dPut (dH0 1) 42 2 (-1)) 67 0 (-1)) 69 0 (-1)) 0 0 (dXP XC grC 77 [(75, 0), (0, 10), (0, 9), (72, 0), (0, 8), (70, 1), (0, 7), (68, 1), (68, 0), (68, 2), (0, 6), (66, 1), (66, 0), (66, 2), (0, 5), (52, 1), (52, 4), (52, 3), (52, 2), (0, 4), (42, 3), (42, 6), (42, 5), (42, 4), (42, 0), (0, 3), (41, 1), (41, 0), (0, 2), (22, 3), (22, 1), (22, 0), (0, 1), (3, 3), (3, 1), (3, 0), (0, 0), (1, 0)]) (dPut (dPut (dPut (dH0 1) 42 2 (-1)) 67 0 (-1)) 69 0 (-1))
  refine N_aload_n dX4_init_0 rfl rfl ?_
  refine N_objInit dX4_init_1 ob_X4_3 (Nat.le_of_ble_eq_true rfl) (Nat.le_of_ble_eq_true rfl) ?_
  refine N_aload_n dX4_init_4 rfl rfl ?_
  refine N_sipush dX4_init_5 sp_300 ?_
  refine N_newaI (N := 300) dX4_init_8 ac_int (by decide) (by decide) (Nat.le_of_ble_eq_true rfl) rfl (Nat.le_of_ble_eq_true rfl) dGrC (by decide +kernel) (by funext i; rfl) (Nat.le_of_ble_eq_true rfl) (Nat.le_of_ble_eq_true rfl) rfl rfl ?_
  refine N_putF dX4_init_10 nfl_X4_11 nff_X4_0 rfl rfl rfl ?_
  exact N_return dX4_init_13
theorem nfl_X11_81 : dFl RX11 81 11 11 := ⟨_, rfl, by decide, dmT2 76 rfl rfl⟩
theorem nff_X11_11 : ∀ q : vw_C, vwCl[11]? = some q → (q.2.1 11).2.2.2 = true ∧ (q.2.1 11).1 = RX11 := fun q hq => by cases hq; exact ⟨rfl, rfl⟩
theorem nw_X11_84 : dNw RX11 84 (RX10, TX10, 12) := ⟨dmT1 207 rfl rfl, dmT1 208 rfl rfl, dmT1 10 rfl rfl⟩
theorem ob_X10_3 : dOb RX10 3 := ⟨dmT1 212 rfl rfl, dmT1 31 rfl rfl, dmT1 32 rfl rfl⟩
theorem nfl_X10_11 : dFl RX10 11 10 5 := ⟨_, rfl, by decide, dmT1 222 rfl rfl⟩
theorem nff_X10_5 : ∀ q : vw_C, vwCl[10]? = some q → (q.2.1 5).2.2.2 = true ∧ (q.2.1 5).1 = RX10 := fun q hq => by cases hq; exact ⟨rfl, rfl⟩
theorem nfl_X10_15 : dFl RX10 15 10 6 := ⟨_, rfl, by decide, dmT1 223 rfl rfl⟩
theorem nff_X10_6 : ∀ q : vw_C, vwCl[10]? = some q → (q.2.1 6).2.2.2 = true ∧ (q.2.1 6).1 = RX10 := fun q hq => by cases hq; exact ⟨rfl, rfl⟩
theorem nfl_X10_18 : dFl RX10 18 10 7 := ⟨_, rfl, by decide, dmT1 224 rfl rfl⟩
theorem nff_X10_7 : ∀ q : vw_C, vwCl[10]? = some q → (q.2.1 7).2.2.2 = true ∧ (q.2.1 7).1 = RX10 := fun q hq => by cases hq; exact ⟨rfl, rfl⟩
theorem nfl_X10_22 : dFl RX10 22 10 8 := ⟨_, rfl, by decide, dmT1 225 rfl rfl⟩
theorem nff_X10_8 : ∀ q : vw_C, vwCl[10]? = some q → (q.2.1 8).2.2.2 = true ∧ (q.2.1 8).1 = RX10 := fun q hq => by cases hq; exact ⟨rfl, rfl⟩
theorem nfl_X10_25 : dFl RX10 25 10 9 := ⟨_, rfl, by decide, dmT1 226 rfl rfl⟩
theorem nff_X10_9 : ∀ q : vw_C, vwCl[10]? = some q → (q.2.1 9).2.2.2 = true ∧ (q.2.1 9).1 = RX10 := fun q hq => by cases hq; exact ⟨rfl, rfl⟩
theorem nfl_X10_28 : dFl RX10 28 10 4 := ⟨_, rfl, by decide, dmT1 221 rfl rfl⟩
theorem nff_X10_4 : ∀ q : vw_C, vwCl[10]? = some q → (q.2.1 4).2.2.2 = true ∧ (q.2.1 4).1 = RX10 := fun q hq => by cases hq; exact ⟨rfl, rfl⟩
set_option maxRecDepth 20000 in
set_option maxHeartbeats 4000000 in
theorem i_C_174 : TI 5 44 1 yX10_init cX10_init 2 [.ref 77, .ref 3] (dXP XC grC 78 [(0, 11), (75, 0), (0, 10), (0, 9), (72, 0), (0, 8), (70, 1), (0, 7), (68, 1), (68, 0), (68, 2), (0, 6), (66, 1), (66, 0), (66, 2), (0, 5), (52, 1), (52, 4), (52, 3), (52, 2), (0, 4), (42, 3), (42, 6), (42, 5), (42, 4), (42, 0), (0, 3), (41, 1), (41, 0), (0, 2), (22, 3), (22, 1), (22, 0), (0, 1), (3, 3), (3, 1), (3, 0), (0, 0), (1, 0)]) (dPut (dPut (dPut (dH0 1) 42 2 (-1)) 67 0 (-1)) 69 0 (-1)) (dXP XC grC 83 [(77, 4), (77, 9), (77, 8), (77, 7), (77, 6), (77, 5), (0, 11), (75, 0), (0, 10), (0, 9), (72, 0), (0, 8), (70, 1), (0, 7), (68, 1), (68, 0), (68, 2), (0, 6), (66, 1), (66, 0), (66, 2), (0, 5), (52, 1), (52, 4), (52, 3), (52, 2), (0, 4), (42, 3), (42, 6), (42, 5), (42, 4), (42, 0), (0, 3), (41, 1), (41, 0), (0, 2), (22, 3), (22, 1), (22, 0), (0, 1), (3, 3), (3, 1), (3, 0), (0, 0), (1, 0)]) (dPut (dPut (dPut (dH0 1) 42 2 (-1)) 67 0 (-1)) 69 0 (-1)) := by
  refine TI_of [.ref 77, .ref 3] (by decide) rfl (fun _ => rfl) (fun _ => Nat.le_of_ble_eq_true rfl) ?_
  show BA 5 44 1 RX10 cX10_init 2 0 [.ref 77, .ref 3] [] (dXP XC grC 78 [(0, 11), (75, 0), (0, 10), (0, 9), (72, 0), (0, 8), (70, 1), (0, 7), (68, 1), (68, 0), (68, 2), (0, 6), (66, 1), (66, 0), (66, 2), (0, 5), (52, 1), (52, 4), (52, 3), (52, 2), (0, 4), (42, 3), (42, 6), (42, 5), (42, 4), (42, 0), (0, 3), (41, 1), (41, 0), (0, 2), (22, 3), (22, 1), (22, 0), (0, 1), (3, 3), (3, 1), (3, 0), (0, 0), (1, 0)]) (dPut (dPut (dPut (dH0 1) 42 2 (-1)) 67 0 (-1)) 69 0 (-1)) 0 0 (dXP XC grC 83 [(77, 4), (77, 9), (77, 8), (77, 7), (77, 6), (77, 5), (0, 11), (75, 0), (0, 10), (0, 9), (72, 0), (0, 8), (70, 1), (0, 7), (68, 1), (68, 0), (68, 2), (0, 6), (66, 1), (66, 0), (66, 2), (0, 5), (52, 1), (52, 4), (52, 3), (52, 2), (0, 4), (42, 3), (42, 6), (42, 5), (42, 4), (42, 0), (0, 3), (41, 1), (41, 0), (0, 2), (22, 3), (22, 1), (22, 0), (0, 1), (3, 3), (3, 1), (3, 0), (0, 0), (1, 0)]) (dPut (dPut (dPut (dH0 1) 42 2 (-1)) 67 0 (-1)) 69 0 (-1))
  refine N_aload_n dX10_init_0 rfl rfl ?_
  refine N_objInit dX10_init_1 ob_X10_3 (Nat.le_of_ble_eq_true rfl) (Nat.le_of_ble_eq_true rfl) ?_
  refine N_aload_n dX10_init_4 rfl rfl ?_
  refine N_bipush dX10_init_5 bp_10 ?_
  refine N_newaI (N := 10) dX10_init_7 ac_int (by decide) (by decide) (Nat.le_of_ble_eq_true rfl) rfl (Nat.le_of_ble_eq_true rfl) dGrC (by decide +kernel) (by funext i; rfl) (Nat.le_of_ble_eq_true rfl) (Nat.le_of_ble_eq_true rfl) rfl rfl ?_
  refine N_putF dX10_init_9 nfl_X10_11 nff_X10_5 rfl rfl rfl ?_
  refine N_aload_n dX10_init_12 rfl rfl ?_
  refine N_bipush dX10_init_13 bp_10 ?_
  refine N_newaI (N := 10) dX10_init_15 ac_int (by decide) (by decide) (Nat.le_of_ble_eq_true rfl) rfl (Nat.le_of_ble_eq_true rfl) dGrC (by decide +kernel) (by funext i; rfl) (Nat.le_of_ble_eq_true rfl) (Nat.le_of_ble_eq_true rfl) rfl rfl ?_
  refine N_putF dX10_init_17 nfl_X10_15 nff_X10_6 rfl rfl rfl ?_
  refine N_aload_n dX10_init_20 rfl rfl ?_
  refine N_bipush dX10_init_21 bp_10 ?_
  refine N_newaZ (N := 10) dX10_init_23 ac_boolean (by decide) (by decide) (Nat.le_of_ble_eq_true rfl) rfl (Nat.le_of_ble_eq_true rfl) dGrC (by decide +kernel) (by funext i; rfl) (Nat.le_of_ble_eq_true rfl) (Nat.le_of_ble_eq_true rfl) rfl rfl ?_
  refine N_putF dX10_init_25 nfl_X10_18 nff_X10_7 rfl rfl rfl ?_
  refine N_aload_n dX10_init_28 rfl rfl ?_
  refine N_bipush dX10_init_29 bp_7 ?_
  refine N_newaI (N := 7) dX10_init_31 ac_int (by decide) (by decide) (Nat.le_of_ble_eq_true rfl) rfl (Nat.le_of_ble_eq_true rfl) dGrC (by decide +kernel) (by funext i; rfl) (Nat.le_of_ble_eq_true rfl) (Nat.le_of_ble_eq_true rfl) rfl rfl ?_
  refine N_putF dX10_init_33 nfl_X10_22 nff_X10_8 rfl rfl rfl ?_
  refine N_aload_n dX10_init_36 rfl rfl ?_
  refine N_bipush dX10_init_37 bp_7 ?_
  refine N_newaI (N := 7) dX10_init_39 ac_int (by decide) (by decide) (Nat.le_of_ble_eq_true rfl) rfl (Nat.le_of_ble_eq_true rfl) dGrC (by decide +kernel) (by funext i; rfl) (Nat.le_of_ble_eq_true rfl) (Nat.le_of_ble_eq_true rfl) rfl rfl ?_
  refine N_putF dX10_init_41 nfl_X10_25 nff_X10_9 rfl rfl rfl ?_
  refine N_aload_n dX10_init_44 rfl rfl ?_
  refine N_aload_n dX10_init_45 rfl rfl ?_
  refine N_putF dX10_init_46 nfl_X10_28 nff_X10_4 rfl rfl rfl ?_
  exact N_return dX10_init_49
theorem nmw_X10_init : dMw yX10_init cX10_init 2 none 1 := ⟨dmT1 211 rfl rfl, dmT1 10 rfl rfl, ⟨by decide, by decide, by decide +kernel⟩, by decide⟩
theorem nmi_X10_init : Cond.instanceMethod yX10_init ∈ dWs := dmT1 210 rfl rfl
theorem nl_X11_86 : Cond.methodLink RX11 86 yX10_init ∈ dWs := dmT1 209 rfl rfl
theorem nfl_X11_89 : dFl RX11 89 11 12 := ⟨_, rfl, by decide, dmT2 77 rfl rfl⟩
theorem nff_X11_12 : ∀ q : vw_C, vwCl[11]? = some q → (q.2.1 12).2.2.2 = true ∧ (q.2.1 12).1 = RX11 := fun q hq => by cases hq; exact ⟨rfl, rfl⟩
theorem nw_X11_93 : dNw RX11 93 (RX7, TX7, 6) := ⟨dmT2 15 rfl rfl, dmT2 16 rfl rfl, dmT1 11 rfl rfl⟩
theorem ob_X7_3 : dOb RX7 3 := ⟨dmT2 20 rfl rfl, dmT1 31 rfl rfl, dmT1 32 rfl rfl⟩
theorem nfl_X7_9 : dFl RX7 9 7 3 := ⟨_, rfl, by decide, dmT2 27 rfl rfl⟩
theorem nff_X7_3 : ∀ q : vw_C, vwCl[7]? = some q → (q.2.1 3).2.2.2 = true ∧ (q.2.1 3).1 = RX7 := fun q hq => by cases hq; exact ⟨rfl, rfl⟩
theorem nfl_X7_15 : dFl RX7 15 7 4 := ⟨_, rfl, by decide, dmT2 28 rfl rfl⟩
theorem nff_X7_4 : ∀ q : vw_C, vwCl[7]? = some q → (q.2.1 4).2.2.2 = true ∧ (q.2.1 4).1 = RX7 := fun q hq => by cases hq; exact ⟨rfl, rfl⟩
set_option maxRecDepth 20000 in
set_option maxHeartbeats 4000000 in
theorem i_C_193 : TI 0 0 1 yX7_init cX7_init 3 [.ref 83, .ref 3, .ref 66] (dXP XC grC 84 [(0, 12), (77, 4), (77, 9), (77, 8), (77, 7), (77, 6), (77, 5), (0, 11), (75, 0), (0, 10), (0, 9), (72, 0), (0, 8), (70, 1), (0, 7), (68, 1), (68, 0), (68, 2), (0, 6), (66, 1), (66, 0), (66, 2), (0, 5), (52, 1), (52, 4), (52, 3), (52, 2), (0, 4), (42, 3), (42, 6), (42, 5), (42, 4), (42, 0), (0, 3), (41, 1), (41, 0), (0, 2), (22, 3), (22, 1), (22, 0), (0, 1), (3, 3), (3, 1), (3, 0), (0, 0), (1, 0)]) (dPut (dPut (dPut (dH0 1) 42 2 (-1)) 67 0 (-1)) 69 0 (-1)) (dXP XC grC 84 [(83, 4), (83, 3), (0, 12), (77, 4), (77, 9), (77, 8), (77, 7), (77, 6), (77, 5), (0, 11), (75, 0), (0, 10), (0, 9), (72, 0), (0, 8), (70, 1), (0, 7), (68, 1), (68, 0), (68, 2), (0, 6), (66, 1), (66, 0), (66, 2), (0, 5), (52, 1), (52, 4), (52, 3), (52, 2), (0, 4), (42, 3), (42, 6), (42, 5), (42, 4), (42, 0), (0, 3), (41, 1), (41, 0), (0, 2), (22, 3), (22, 1), (22, 0), (0, 1), (3, 3), (3, 1), (3, 0), (0, 0), (1, 0)]) (dPut (dPut (dPut (dH0 1) 42 2 (-1)) 67 0 (-1)) 69 0 (-1)) := by
  refine TI_of [.ref 83, .ref 3, .ref 66] (by decide) rfl (fun _ => rfl) (fun _ => Nat.le_of_ble_eq_true rfl) ?_
  show BA 0 0 1 RX7 cX7_init 3 0 [.ref 83, .ref 3, .ref 66] [] (dXP XC grC 84 [(0, 12), (77, 4), (77, 9), (77, 8), (77, 7), (77, 6), (77, 5), (0, 11), (75, 0), (0, 10), (0, 9), (72, 0), (0, 8), (70, 1), (0, 7), (68, 1), (68, 0), (68, 2), (0, 6), (66, 1), (66, 0), (66, 2), (0, 5), (52, 1), (52, 4), (52, 3), (52, 2), (0, 4), (42, 3), (42, 6), (42, 5), (42, 4), (42, 0), (0, 3), (41, 1), (41, 0), (0, 2), (22, 3), (22, 1), (22, 0), (0, 1), (3, 3), (3, 1), (3, 0), (0, 0), (1, 0)]) (dPut (dPut (dPut (dH0 1) 42 2 (-1)) 67 0 (-1)) 69 0 (-1)) 0 0 (dXP XC grC 84 [(83, 4), (83, 3), (0, 12), (77, 4), (77, 9), (77, 8), (77, 7), (77, 6), (77, 5), (0, 11), (75, 0), (0, 10), (0, 9), (72, 0), (0, 8), (70, 1), (0, 7), (68, 1), (68, 0), (68, 2), (0, 6), (66, 1), (66, 0), (66, 2), (0, 5), (52, 1), (52, 4), (52, 3), (52, 2), (0, 4), (42, 3), (42, 6), (42, 5), (42, 4), (42, 0), (0, 3), (41, 1), (41, 0), (0, 2), (22, 3), (22, 1), (22, 0), (0, 1), (3, 3), (3, 1), (3, 0), (0, 0), (1, 0)]) (dPut (dPut (dPut (dH0 1) 42 2 (-1)) 67 0 (-1)) 69 0 (-1))
  refine N_aload_n dX7_init_0 rfl rfl ?_
  refine N_objInit dX7_init_1 ob_X7_3 (Nat.le_of_ble_eq_true rfl) (Nat.le_of_ble_eq_true rfl) ?_
  refine N_aload_n dX7_init_4 rfl rfl ?_
  refine N_aload_n dX7_init_5 rfl rfl ?_
  refine N_putF dX7_init_6 nfl_X7_9 nff_X7_3 rfl rfl rfl ?_
  refine N_aload_n dX7_init_9 rfl rfl ?_
  refine N_aload_n dX7_init_10 rfl rfl ?_
  refine N_putF dX7_init_11 nfl_X7_15 nff_X7_4 rfl rfl rfl ?_
  exact N_return dX7_init_14
theorem nmw_X7_init : dMw yX7_init cX7_init 3 none 2 := ⟨dmT2 19 rfl rfl, dmT1 11 rfl rfl, ⟨by decide, by decide, by decide +kernel⟩, by decide⟩
theorem nmi_X7_init : Cond.instanceMethod yX7_init ∈ dWs := dmT2 18 rfl rfl
theorem nl_X11_95 : Cond.methodLink RX11 95 yX7_init ∈ dWs := dmT2 17 rfl rfl
theorem nfl_X11_98 : dFl RX11 98 11 13 := ⟨_, rfl, by decide, dmT2 78 rfl rfl⟩
theorem nff_X11_13 : ∀ q : vw_C, vwCl[11]? = some q → (q.2.1 13).2.2.2 = true ∧ (q.2.1 13).1 = RX11 := fun q hq => by cases hq; exact ⟨rfl, rfl⟩
theorem nw_X11_102 : dNw RX11 102 (RX6, TX6, 5) := ⟨dmT2 43 rfl rfl, dmT2 44 rfl rfl, dmT1 12 rfl rfl⟩
theorem ob_X6_3 : dOb RX6 3 := ⟨dmT2 48 rfl rfl, dmT1 31 rfl rfl, dmT1 32 rfl rfl⟩
theorem nfl_X6_9 : dFl RX6 9 6 2 := ⟨_, rfl, by decide, dmT2 51 rfl rfl⟩
theorem nff_X6_2 : ∀ q : vw_C, vwCl[6]? = some q → (q.2.1 2).2.2.2 = true ∧ (q.2.1 2).1 = RX6 := fun q hq => by cases hq; exact ⟨rfl, rfl⟩
theorem nfl_X6_15 : dFl RX6 15 6 0 := ⟨_, rfl, by decide, dmT2 49 rfl rfl⟩
theorem nff_X6_0 : ∀ q : vw_C, vwCl[6]? = some q → (q.2.1 0).2.2.2 = true ∧ (q.2.1 0).1 = RX6 := fun q hq => by cases hq; exact ⟨rfl, rfl⟩
theorem nfl_X6_19 : dFl RX6 19 6 1 := ⟨_, rfl, by decide, dmT2 50 rfl rfl⟩
theorem nff_X6_1 : ∀ q : vw_C, vwCl[6]? = some q → (q.2.1 1).2.2.2 = true ∧ (q.2.1 1).1 = RX6 := fun q hq => by cases hq; exact ⟨rfl, rfl⟩
set_option maxRecDepth 20000 in
set_option maxHeartbeats 4000000 in
theorem i_C_212 : TI 1 7 1 yX6_init cX6_init 3 [.ref 84, .ref 3, .ref 66] (dXP XC grC 85 [(0, 13), (83, 4), (83, 3), (0, 12), (77, 4), (77, 9), (77, 8), (77, 7), (77, 6), (77, 5), (0, 11), (75, 0), (0, 10), (0, 9), (72, 0), (0, 8), (70, 1), (0, 7), (68, 1), (68, 0), (68, 2), (0, 6), (66, 1), (66, 0), (66, 2), (0, 5), (52, 1), (52, 4), (52, 3), (52, 2), (0, 4), (42, 3), (42, 6), (42, 5), (42, 4), (42, 0), (0, 3), (41, 1), (41, 0), (0, 2), (22, 3), (22, 1), (22, 0), (0, 1), (3, 3), (3, 1), (3, 0), (0, 0), (1, 0)]) (dPut (dPut (dPut (dH0 1) 42 2 (-1)) 67 0 (-1)) 69 0 (-1)) (dXP XC grC 86 [(84, 1), (84, 0), (84, 2), (0, 13), (83, 4), (83, 3), (0, 12), (77, 4), (77, 9), (77, 8), (77, 7), (77, 6), (77, 5), (0, 11), (75, 0), (0, 10), (0, 9), (72, 0), (0, 8), (70, 1), (0, 7), (68, 1), (68, 0), (68, 2), (0, 6), (66, 1), (66, 0), (66, 2), (0, 5), (52, 1), (52, 4), (52, 3), (52, 2), (0, 4), (42, 3), (42, 6), (42, 5), (42, 4), (42, 0), (0, 3), (41, 1), (41, 0), (0, 2), (22, 3), (22, 1), (22, 0), (0, 1), (3, 3), (3, 1), (3, 0), (0, 0), (1, 0)]) (dPut (dPut (dPut (dH0 1) 42 2 (-1)) 67 0 (-1)) 69 0 (-1)) := by
  refine TI_of [.ref 84, .ref 3, .ref 66] (by decide) rfl (fun _ => rfl) (fun _ => Nat.le_of_ble_eq_true rfl) ?_
  show BA 1 7 1 RX6 cX6_init 3 0 [.ref 84, .ref 3, .ref 66] [] (dXP XC grC 85 [(0, 13), (83, 4), (83, 3), (0, 12), (77, 4), (77, 9), (77, 8), (77, 7), (77, 6), (77, 5), (0, 11), (75, 0), (0, 10), (0, 9), (72, 0), (0, 8), (70, 1), (0, 7), (68, 1), (68, 0), (68, 2), (0, 6), (66, 1), (66, 0), (66, 2), (0, 5), (52, 1), (52, 4), (52, 3), (52, 2), (0, 4), (42, 3), (42, 6), (42, 5), (42, 4), (42, 0), (0, 3), (41, 1), (41, 0), (0, 2), (22, 3), (22, 1), (22, 0), (0, 1), (3, 3), (3, 1), (3, 0), (0, 0), (1, 0)]) (dPut (dPut (dPut (dH0 1) 42 2 (-1)) 67 0 (-1)) 69 0 (-1)) 0 0 (dXP XC grC 86 [(84, 1), (84, 0), (84, 2), (0, 13), (83, 4), (83, 3), (0, 12), (77, 4), (77, 9), (77, 8), (77, 7), (77, 6), (77, 5), (0, 11), (75, 0), (0, 10), (0, 9), (72, 0), (0, 8), (70, 1), (0, 7), (68, 1), (68, 0), (68, 2), (0, 6), (66, 1), (66, 0), (66, 2), (0, 5), (52, 1), (52, 4), (52, 3), (52, 2), (0, 4), (42, 3), (42, 6), (42, 5), (42, 4), (42, 0), (0, 3), (41, 1), (41, 0), (0, 2), (22, 3), (22, 1), (22, 0), (0, 1), (3, 3), (3, 1), (3, 0), (0, 0), (1, 0)]) (dPut (dPut (dPut (dH0 1) 42 2 (-1)) 67 0 (-1)) 69 0 (-1))
  refine N_aload_n dX6_init_0 rfl rfl ?_
  refine N_objInit dX6_init_1 ob_X6_3 (Nat.le_of_ble_eq_true rfl) (Nat.le_of_ble_eq_true rfl) ?_
  refine N_aload_n dX6_init_4 rfl rfl ?_
  refine N_bipush dX6_init_5 bp_7 ?_
  refine N_newaI (N := 7) dX6_init_7 ac_int (by decide) (by decide) (Nat.le_of_ble_eq_true rfl) rfl (Nat.le_of_ble_eq_true rfl) dGrC (by decide +kernel) (by funext i; rfl) (Nat.le_of_ble_eq_true rfl) (Nat.le_of_ble_eq_true rfl) rfl rfl ?_
  refine N_putF dX6_init_9 nfl_X6_9 nff_X6_2 rfl rfl rfl ?_
  refine N_aload_n dX6_init_12 rfl rfl ?_
  refine N_aload_n dX6_init_13 rfl rfl ?_
  refine N_putF dX6_init_14 nfl_X6_15 nff_X6_0 rfl rfl rfl ?_
  refine N_aload_n dX6_init_17 rfl rfl ?_
  refine N_aload_n dX6_init_18 rfl rfl ?_
  refine N_putF dX6_init_19 nfl_X6_19 nff_X6_1 rfl rfl rfl ?_
  exact N_return dX6_init_22
theorem nmw_X6_init : dMw yX6_init cX6_init 3 none 2 := ⟨dmT2 47 rfl rfl, dmT1 12 rfl rfl, ⟨by decide, by decide, by decide +kernel⟩, by decide⟩
theorem nmi_X6_init : Cond.instanceMethod yX6_init ∈ dWs := dmT2 46 rfl rfl
theorem nl_X11_104 : Cond.methodLink RX11 104 yX6_init ∈ dWs := dmT2 45 rfl rfl
theorem nfl_X11_105 : dFl RX11 105 11 14 := ⟨_, rfl, by decide, dmT2 79 rfl rfl⟩
theorem nff_X11_14 : ∀ q : vw_C, vwCl[11]? = some q → (q.2.1 14).2.2.2 = true ∧ (q.2.1 14).1 = RX11 := fun q hq => by cases hq; exact ⟨rfl, rfl⟩
theorem nfl_X11_109 : dFl RX11 109 11 16 := ⟨_, rfl, by decide, dmT2 81 rfl rfl⟩
theorem nfw_X11_16 : dFw 11 16 := fun q hq => by cases hq; rfl
set_option maxRecDepth 20000 in
set_option maxHeartbeats 4000000 in
theorem i_C : TI 85 3845 2 yX11_init cX11_init 1 [.ref 0] (dXP XC grC 1 []) (dH0 1) (dXP XC grC 86 [(0, 14), (84, 1), (84, 0), (84, 2), (0, 13), (83, 4), (83, 3), (0, 12), (77, 4), (77, 9), (77, 8), (77, 7), (77, 6), (77, 5), (0, 11), (75, 0), (0, 10), (0, 9), (72, 0), (0, 8), (70, 1), (0, 7), (68, 1), (68, 0), (68, 2), (0, 6), (66, 1), (66, 0), (66, 2), (0, 5), (52, 1), (52, 4), (52, 3), (52, 2), (0, 4), (42, 3), (42, 6), (42, 5), (42, 4), (42, 0), (0, 3), (41, 1), (41, 0), (0, 2), (22, 3), (22, 1), (22, 0), (0, 1), (3, 3), (3, 1), (3, 0), (0, 0), (1, 0)]) (dPut (dPut (dPut (dPut (dH0 1) 42 2 (-1)) 67 0 (-1)) 69 0 (-1)) 0 16 2) := by
  refine TI_of [.ref 0] (by decide) rfl (fun _ => rfl) (fun _ => Nat.le_of_ble_eq_true rfl) ?_
  show BA 85 3845 2 RX11 cX11_init 1 0 [.ref 0] [] (dXP XC grC 1 []) (dH0 1) 0 0 (dXP XC grC 86 [(0, 14), (84, 1), (84, 0), (84, 2), (0, 13), (83, 4), (83, 3), (0, 12), (77, 4), (77, 9), (77, 8), (77, 7), (77, 6), (77, 5), (0, 11), (75, 0), (0, 10), (0, 9), (72, 0), (0, 8), (70, 1), (0, 7), (68, 1), (68, 0), (68, 2), (0, 6), (66, 1), (66, 0), (66, 2), (0, 5), (52, 1), (52, 4), (52, 3), (52, 2), (0, 4), (42, 3), (42, 6), (42, 5), (42, 4), (42, 0), (0, 3), (41, 1), (41, 0), (0, 2), (22, 3), (22, 1), (22, 0), (0, 1), (3, 3), (3, 1), (3, 0), (0, 0), (1, 0)]) (dPut (dPut (dPut (dPut (dH0 1) 42 2 (-1)) 67 0 (-1)) 69 0 (-1)) 0 16 2)
  refine N_aload_n dX11_init_0 rfl rfl ?_
  refine N_objInit dX11_init_1 ob_X11_1 (Nat.le_of_ble_eq_true rfl) (Nat.le_of_ble_eq_true rfl) ?_
  refine N_aload_n dX11_init_4 rfl rfl ?_
  refine N_new (q := (RX9, TX9, 4)) dX11_init_5 rfl nw_X11_7 rfl (Nat.le_of_ble_eq_true rfl) dGrC (by decide +kernel) (by decide +kernel) (fun _ => ⟨rfl, rfl⟩) (Nat.le_of_ble_eq_true rfl) (Nat.le_of_ble_eq_true rfl) rfl rfl ?_
  refine N_dup dX11_init_8 rfl ?_
  refine N_callIN (st := [.ref 1, .ref 0]) dX11_init_9 (by decide +kernel) nmw_X9_init nmi_X9_init rfl i_C_9 (Nat.le_of_ble_eq_true rfl) rfl rfl (Nat.le_of_ble_eq_true rfl) (Nat.le_of_ble_eq_true rfl) (Nat.le_of_ble_eq_true rfl) (Nat.le_of_ble_eq_true rfl) (Nat.le_of_ble_eq_true rfl) rfl rfl ?_
  refine N_putF dX11_init_12 nfl_X11_10 nff_X11_0 rfl rfl rfl ?_
  refine N_aload_n dX11_init_15 rfl rfl ?_
  refine N_new (q := (RX1, TX1, 4)) dX11_init_16 rfl nw_X11_16 rfl (Nat.le_of_ble_eq_true rfl) dGrC (by decide +kernel) (by decide +kernel) (fun _ => ⟨rfl, rfl⟩) (Nat.le_of_ble_eq_true rfl) (Nat.le_of_ble_eq_true rfl) rfl rfl ?_
  refine N_dup dX11_init_19 rfl ?_
  refine N_callIN (st := [.ref 3, .ref 0]) dX11_init_20 (by decide +kernel) nmw_X1_init nmi_X1_init rfl i_C_20 (Nat.le_of_ble_eq_true rfl) rfl rfl (Nat.le_of_ble_eq_true rfl) (Nat.le_of_ble_eq_true rfl) (Nat.le_of_ble_eq_true rfl) (Nat.le_of_ble_eq_true rfl) (Nat.le_of_ble_eq_true rfl) rfl rfl ?_
  refine N_putF dX11_init_23 nfl_X11_19 nff_X11_1 rfl rfl rfl ?_
  refine N_aload_n dX11_init_26 rfl rfl ?_
  refine N_new (q := (RX1, TX1, 4)) dX11_init_27 rfl nw_X11_16 rfl (Nat.le_of_ble_eq_true rfl) dGrC (by decide +kernel) (by decide +kernel) (fun _ => ⟨rfl, rfl⟩) (Nat.le_of_ble_eq_true rfl) (Nat.le_of_ble_eq_true rfl) rfl rfl ?_
  refine N_dup dX11_init_30 rfl ?_
  refine N_callIN (st := [.ref 22, .ref 0]) dX11_init_31 (by decide +kernel) nmw_X1_init nmi_X1_init rfl i_C_31 (Nat.le_of_ble_eq_true rfl) rfl rfl (Nat.le_of_ble_eq_true rfl) (Nat.le_of_ble_eq_true rfl) (Nat.le_of_ble_eq_true rfl) (Nat.le_of_ble_eq_true rfl) (Nat.le_of_ble_eq_true rfl) rfl rfl ?_
  refine N_putF dX11_init_34 nfl_X11_23 nff_X11_2 rfl rfl rfl ?_
  refine N_aload_n dX11_init_37 rfl rfl ?_
  refine N_new (q := (RX2, TX2, 3)) dX11_init_38 rfl nw_X11_26 rfl (Nat.le_of_ble_eq_true rfl) dGrC (by decide +kernel) (by decide +kernel) (fun _ => ⟨rfl, rfl⟩) (Nat.le_of_ble_eq_true rfl) (Nat.le_of_ble_eq_true rfl) rfl rfl ?_
  refine N_dup dX11_init_41 rfl ?_
  refine N_aload_n dX11_init_42 rfl rfl ?_
  refine N_getR (b := 1) dX11_init_43 nfl_X11_10 rfl rfl rfl ?_
  refine N_aload_n dX11_init_46 rfl rfl ?_
  refine N_getR (b := 22) dX11_init_47 nfl_X11_23 rfl rfl rfl ?_
  refine N_callI (st := [.ref 41, .ref 0]) dX11_init_50 nl_X11_28 nmw_X2_init nmi_X2_init rfl i_C_50 (Nat.le_of_ble_eq_true rfl) rfl rfl (Nat.le_of_ble_eq_true rfl) (Nat.le_of_ble_eq_true rfl) (Nat.le_of_ble_eq_true rfl) (Nat.le_of_ble_eq_true rfl) (Nat.le_of_ble_eq_true rfl) rfl rfl ?_
  refine N_putF dX11_init_53 nfl_X11_31 nff_X11_3 rfl rfl rfl ?_
  refine N_aload_n dX11_init_56 rfl rfl ?_
  refine N_new (q := (RX5, TX5, 7)) dX11_init_57 rfl nw_X11_35 rfl (Nat.le_of_ble_eq_true rfl) dGrC (by decide +kernel) (by decide +kernel) (fun _ => ⟨rfl, rfl⟩) (Nat.le_of_ble_eq_true rfl) (Nat.le_of_ble_eq_true rfl) rfl rfl ?_
  refine N_dup dX11_init_60 rfl ?_
  refine N_aload_n dX11_init_61 rfl rfl ?_
  refine N_getR (b := 1) dX11_init_62 nfl_X11_10 rfl rfl rfl ?_
  refine N_callI (st := [.ref 42, .ref 0]) dX11_init_65 nl_X11_37 nmw_X5_init nmi_X5_init rfl i_C_65 (Nat.le_of_ble_eq_true rfl) rfl rfl (Nat.le_of_ble_eq_true rfl) (Nat.le_of_ble_eq_true rfl) (Nat.le_of_ble_eq_true rfl) (Nat.le_of_ble_eq_true rfl) (Nat.le_of_ble_eq_true rfl) rfl rfl ?_
  refine N_putF dX11_init_68 nfl_X11_40 nff_X11_4 rfl rfl rfl ?_
  refine N_aload_n dX11_init_71 rfl rfl ?_
  refine N_new (q := (RX3, TX3, 5)) dX11_init_72 rfl nw_X11_44 rfl (Nat.le_of_ble_eq_true rfl) dGrC (by decide +kernel) (by decide +kernel) (fun _ => ⟨rfl, rfl⟩) (Nat.le_of_ble_eq_true rfl) (Nat.le_of_ble_eq_true rfl) rfl rfl ?_
  refine N_dup dX11_init_75 rfl ?_
  refine N_aload_n dX11_init_76 rfl rfl ?_
  refine N_getR (b := 1) dX11_init_77 nfl_X11_10 rfl rfl rfl ?_
  refine N_callI (st := [.ref 52, .ref 0]) dX11_init_80 nl_X11_46 nmw_X3_init nmi_X3_init rfl i_C_80 (Nat.le_of_ble_eq_true rfl) rfl rfl (Nat.le_of_ble_eq_true rfl) (Nat.le_of_ble_eq_true rfl) (Nat.le_of_ble_eq_true rfl) (Nat.le_of_ble_eq_true rfl) (Nat.le_of_ble_eq_true rfl) rfl rfl ?_
  refine N_putF dX11_init_83 nfl_X11_47 nff_X11_5 rfl rfl rfl ?_
  refine N_aload_n dX11_init_86 rfl rfl ?_
  refine N_new (q := (RX8, TX8, 3)) dX11_init_87 rfl nw_X11_51 rfl (Nat.le_of_ble_eq_true rfl) dGrC (by decide +kernel) (by decide +kernel) (fun _ => ⟨rfl, rfl⟩) (Nat.le_of_ble_eq_true rfl) (Nat.le_of_ble_eq_true rfl) rfl rfl ?_
  refine N_dup dX11_init_90 rfl ?_
  refine N_aload_n dX11_init_91 rfl rfl ?_
  refine N_getR (b := 3) dX11_init_92 nfl_X11_19 rfl rfl rfl ?_
  refine N_aload_n dX11_init_95 rfl rfl ?_
  refine N_getR (b := 42) dX11_init_96 nfl_X11_40 rfl rfl rfl ?_
  refine N_callI (st := [.ref 66, .ref 0]) dX11_init_99 nl_X11_53 nmw_X8_init nmi_X8_init rfl i_C_99 (Nat.le_of_ble_eq_true rfl) rfl rfl (Nat.le_of_ble_eq_true rfl) (Nat.le_of_ble_eq_true rfl) (Nat.le_of_ble_eq_true rfl) (Nat.le_of_ble_eq_true rfl) (Nat.le_of_ble_eq_true rfl) rfl rfl ?_
  refine N_putF dX11_init_102 nfl_X11_56 nff_X11_6 rfl rfl rfl ?_
  refine N_aload_n dX11_init_105 rfl rfl ?_
  refine N_new (q := (RX8, TX8, 3)) dX11_init_106 rfl nw_X11_51 rfl (Nat.le_of_ble_eq_true rfl) dGrC (by decide +kernel) (by decide +kernel) (fun _ => ⟨rfl, rfl⟩) (Nat.le_of_ble_eq_true rfl) (Nat.le_of_ble_eq_true rfl) rfl rfl ?_
  refine N_dup dX11_init_109 rfl ?_
  refine N_aload_n dX11_init_110 rfl rfl ?_
  refine N_getR (b := 3) dX11_init_111 nfl_X11_19 rfl rfl rfl ?_
  refine N_aload_n dX11_init_114 rfl rfl ?_
  refine N_getR (b := 42) dX11_init_115 nfl_X11_40 rfl rfl rfl ?_
  refine N_callI (st := [.ref 68, .ref 0]) dX11_init_118 nl_X11_53 nmw_X8_init nmi_X8_init rfl i_C_118 (Nat.le_of_ble_eq_true rfl) rfl rfl (Nat.le_of_ble_eq_true rfl) (Nat.le_of_ble_eq_true rfl) (Nat.le_of_ble_eq_true rfl) (Nat.le_of_ble_eq_true rfl) (Nat.le_of_ble_eq_true rfl) rfl rfl ?_
  refine N_putF dX11_init_121 nfl_X11_60 nff_X11_7 rfl rfl rfl ?_
  refine N_aload_n dX11_init_124 rfl rfl ?_
  refine N_new (q := (RX0, TX0, 3)) dX11_init_125 rfl nw_X11_63 rfl (Nat.le_of_ble_eq_true rfl) dGrC (by decide +kernel) (by decide +kernel) (fun _ => ⟨rfl, rfl⟩) (Nat.le_of_ble_eq_true rfl) (Nat.le_of_ble_eq_true rfl) rfl rfl ?_
  refine N_dup dX11_init_128 rfl ?_
  refine N_callIN (st := [.ref 70, .ref 0]) dX11_init_129 (by decide +kernel) nmw_X0_init nmi_X0_init rfl i_C_129 (Nat.le_of_ble_eq_true rfl) rfl rfl (Nat.le_of_ble_eq_true rfl) (Nat.le_of_ble_eq_true rfl) (Nat.le_of_ble_eq_true rfl) (Nat.le_of_ble_eq_true rfl) (Nat.le_of_ble_eq_true rfl) rfl rfl ?_
  refine N_putF dX11_init_132 nfl_X11_66 nff_X11_8 rfl rfl rfl ?_
  refine N_aload_n dX11_init_135 rfl rfl ?_
  refine N_new (q := (RX4, TX4, 1)) dX11_init_136 rfl nw_X11_70 rfl (Nat.le_of_ble_eq_true rfl) dGrC (by decide +kernel) (by decide +kernel) (fun _ => ⟨rfl, rfl⟩) (Nat.le_of_ble_eq_true rfl) (Nat.le_of_ble_eq_true rfl) rfl rfl ?_
  refine N_dup dX11_init_139 rfl ?_
  refine N_callIN (st := [.ref 72, .ref 0]) dX11_init_140 (by decide +kernel) nmw_X4_init nmi_X4_init rfl i_C_140 (Nat.le_of_ble_eq_true rfl) rfl rfl (Nat.le_of_ble_eq_true rfl) (Nat.le_of_ble_eq_true rfl) (Nat.le_of_ble_eq_true rfl) (Nat.le_of_ble_eq_true rfl) (Nat.le_of_ble_eq_true rfl) rfl rfl ?_
  refine N_putF dX11_init_143 nfl_X11_73 nff_X11_9 rfl rfl rfl ?_
  refine N_aload_n dX11_init_146 rfl rfl ?_
  refine N_bipush dX11_init_147 bp_28 ?_
  refine N_newaI (N := 28) dX11_init_149 ac_int (by decide) (by decide) (Nat.le_of_ble_eq_true rfl) rfl (Nat.le_of_ble_eq_true rfl) dGrC (by decide +kernel) (by funext i; rfl) (Nat.le_of_ble_eq_true rfl) (Nat.le_of_ble_eq_true rfl) rfl rfl ?_
  refine N_putF dX11_init_151 nfl_X11_77 nff_X11_10 rfl rfl rfl ?_
  refine N_aload_n dX11_init_154 rfl rfl ?_
  refine N_new (q := (RX4, TX4, 1)) dX11_init_155 rfl nw_X11_70 rfl (Nat.le_of_ble_eq_true rfl) dGrC (by decide +kernel) (by decide +kernel) (fun _ => ⟨rfl, rfl⟩) (Nat.le_of_ble_eq_true rfl) (Nat.le_of_ble_eq_true rfl) rfl rfl ?_
  refine N_dup dX11_init_158 rfl ?_
  refine N_callIN (st := [.ref 75, .ref 0]) dX11_init_159 (by decide +kernel) nmw_X4_init nmi_X4_init rfl i_C_159 (Nat.le_of_ble_eq_true rfl) rfl rfl (Nat.le_of_ble_eq_true rfl) (Nat.le_of_ble_eq_true rfl) (Nat.le_of_ble_eq_true rfl) (Nat.le_of_ble_eq_true rfl) (Nat.le_of_ble_eq_true rfl) rfl rfl ?_
  refine N_putF dX11_init_162 nfl_X11_81 nff_X11_11 rfl rfl rfl ?_
  refine N_aload_n dX11_init_165 rfl rfl ?_
  refine N_new (q := (RX10, TX10, 12)) dX11_init_166 rfl nw_X11_84 rfl (Nat.le_of_ble_eq_true rfl) dGrC (by decide +kernel) (by decide +kernel) (fun _ => ⟨rfl, rfl⟩) (Nat.le_of_ble_eq_true rfl) (Nat.le_of_ble_eq_true rfl) rfl rfl ?_
  refine N_dup dX11_init_169 rfl ?_
  refine N_aload_n dX11_init_170 rfl rfl ?_
  refine N_getR (b := 3) dX11_init_171 nfl_X11_19 rfl rfl rfl ?_
  refine N_callI (st := [.ref 77, .ref 0]) dX11_init_174 nl_X11_86 nmw_X10_init nmi_X10_init rfl i_C_174 (Nat.le_of_ble_eq_true rfl) rfl rfl (Nat.le_of_ble_eq_true rfl) (Nat.le_of_ble_eq_true rfl) (Nat.le_of_ble_eq_true rfl) (Nat.le_of_ble_eq_true rfl) (Nat.le_of_ble_eq_true rfl) rfl rfl ?_
  refine N_putF dX11_init_177 nfl_X11_89 nff_X11_12 rfl rfl rfl ?_
  refine N_aload_n dX11_init_180 rfl rfl ?_
  refine N_new (q := (RX7, TX7, 6)) dX11_init_181 rfl nw_X11_93 rfl (Nat.le_of_ble_eq_true rfl) dGrC (by decide +kernel) (by decide +kernel) (fun _ => ⟨rfl, rfl⟩) (Nat.le_of_ble_eq_true rfl) (Nat.le_of_ble_eq_true rfl) rfl rfl ?_
  refine N_dup dX11_init_184 rfl ?_
  refine N_aload_n dX11_init_185 rfl rfl ?_
  refine N_getR (b := 3) dX11_init_186 nfl_X11_19 rfl rfl rfl ?_
  refine N_aload_n dX11_init_189 rfl rfl ?_
  refine N_getR (b := 66) dX11_init_190 nfl_X11_56 rfl rfl rfl ?_
  refine N_callI (st := [.ref 83, .ref 0]) dX11_init_193 nl_X11_95 nmw_X7_init nmi_X7_init rfl i_C_193 (Nat.le_of_ble_eq_true rfl) rfl rfl (Nat.le_of_ble_eq_true rfl) (Nat.le_of_ble_eq_true rfl) (Nat.le_of_ble_eq_true rfl) (Nat.le_of_ble_eq_true rfl) (Nat.le_of_ble_eq_true rfl) rfl rfl ?_
  refine N_putF dX11_init_196 nfl_X11_98 nff_X11_13 rfl rfl rfl ?_
  refine N_aload_n dX11_init_199 rfl rfl ?_
  refine N_new (q := (RX6, TX6, 5)) dX11_init_200 rfl nw_X11_102 rfl (Nat.le_of_ble_eq_true rfl) dGrC (by decide +kernel) (by decide +kernel) (fun _ => ⟨rfl, rfl⟩) (Nat.le_of_ble_eq_true rfl) (Nat.le_of_ble_eq_true rfl) rfl rfl ?_
  refine N_dup dX11_init_203 rfl ?_
  refine N_aload_n dX11_init_204 rfl rfl ?_
  refine N_getR (b := 3) dX11_init_205 nfl_X11_19 rfl rfl rfl ?_
  refine N_aload_n dX11_init_208 rfl rfl ?_
  refine N_getR (b := 66) dX11_init_209 nfl_X11_56 rfl rfl rfl ?_
  refine N_callI (st := [.ref 84, .ref 0]) dX11_init_212 nl_X11_104 nmw_X6_init nmi_X6_init rfl i_C_212 (Nat.le_of_ble_eq_true rfl) rfl rfl (Nat.le_of_ble_eq_true rfl) (Nat.le_of_ble_eq_true rfl) (Nat.le_of_ble_eq_true rfl) (Nat.le_of_ble_eq_true rfl) (Nat.le_of_ble_eq_true rfl) rfl rfl ?_
  refine N_putF dX11_init_215 nfl_X11_105 nff_X11_14 rfl rfl rfl ?_
  refine N_aload_n dX11_init_218 rfl rfl ?_
  refine N_iconst dX11_init_219 ic_2 ?_
  refine N_putI dX11_init_220 nfl_X11_109 nfw_X11_16 rfl rfl ?_
  exact N_return dX11_init_223
theorem ob_X12_3 : dOb RX12 3 := ⟨dmT5 236 rfl rfl, dmT1 31 rfl rfl, dmT1 32 rfl rfl⟩
theorem nfl_X12_9 : dFl RX12 9 12 1 := ⟨_, rfl, by decide, dmT6 0 rfl rfl⟩
theorem nff_X12_1 : ∀ q : vw_C, vwCl[12]? = some q → (q.2.1 1).2.2.2 = true ∧ (q.2.1 1).1 = RX12 := fun q hq => by cases hq; exact ⟨rfl, rfl⟩
theorem nfl_X12_13 : dFl RX12 13 12 2 := ⟨_, rfl, by decide, dmT6 1 rfl rfl⟩
theorem nff_X12_2 : ∀ q : vw_C, vwCl[12]? = some q → (q.2.1 2).2.2.2 = true ∧ (q.2.1 2).1 = RX12 := fun q hq => by cases hq; exact ⟨rfl, rfl⟩
theorem nfl_X12_16 : dFl RX12 16 12 3 := ⟨_, rfl, by decide, dmT6 2 rfl rfl⟩
theorem nff_X12_3 : ∀ q : vw_C, vwCl[12]? = some q → (q.2.1 3).2.2.2 = true ∧ (q.2.1 3).1 = RX12 := fun q hq => by cases hq; exact ⟨rfl, rfl⟩
theorem nfl_X12_20 : dFl RX12 20 12 4 := ⟨_, rfl, by decide, dmT6 3 rfl rfl⟩
theorem nff_X12_4 : ∀ q : vw_C, vwCl[12]? = some q → (q.2.1 4).2.2.2 = true ∧ (q.2.1 4).1 = RX12 := fun q hq => by cases hq; exact ⟨rfl, rfl⟩
theorem nfl_X12_23 : dFl RX12 23 12 5 := ⟨_, rfl, by decide, dmT6 4 rfl rfl⟩
theorem nfw_X12_5 : dFw 12 5 := fun q hq => by cases hq; rfl
theorem nfl_X12_28 : dFl RX12 28 12 15 := ⟨_, rfl, by decide, dmT6 14 rfl rfl⟩
theorem nff_X12_15 : ∀ q : vw_C, vwCl[12]? = some q → (q.2.1 15).2.2.2 = true ∧ (q.2.1 15).1 = RX12 := fun q hq => by cases hq; exact ⟨rfl, rfl⟩
theorem nfl_X12_34 : dFl RX12 34 12 16 := ⟨_, rfl, by decide, dmT6 15 rfl rfl⟩
theorem nff_X12_16 : ∀ q : vw_C, vwCl[12]? = some q → (q.2.1 16).2.2.2 = true ∧ (q.2.1 16).1 = RX12 := fun q hq => by cases hq; exact ⟨rfl, rfl⟩
theorem nfl_X12_37 : dFl RX12 37 12 18 := ⟨_, rfl, by decide, dmT6 17 rfl rfl⟩
theorem nff_X12_18 : ∀ q : vw_C, vwCl[12]? = some q → (q.2.1 18).2.2.2 = true ∧ (q.2.1 18).1 = RX12 := fun q hq => by cases hq; exact ⟨rfl, rfl⟩
theorem nfl_X12_40 : dFl RX12 40 12 19 := ⟨_, rfl, by decide, dmT6 18 rfl rfl⟩
theorem nff_X12_19 : ∀ q : vw_C, vwCl[12]? = some q → (q.2.1 19).2.2.2 = true ∧ (q.2.1 19).1 = RX12 := fun q hq => by cases hq; exact ⟨rfl, rfl⟩
theorem nfl_X12_43 : dFl RX12 43 12 20 := ⟨_, rfl, by decide, dmT6 19 rfl rfl⟩
theorem nff_X12_20 : ∀ q : vw_C, vwCl[12]? = some q → (q.2.1 20).2.2.2 = true ∧ (q.2.1 20).1 = RX12 := fun q hq => by cases hq; exact ⟨rfl, rfl⟩
theorem nfl_X12_46 : dFl RX12 46 12 21 := ⟨_, rfl, by decide, dmT6 20 rfl rfl⟩
theorem nff_X12_21 : ∀ q : vw_C, vwCl[12]? = some q → (q.2.1 21).2.2.2 = true ∧ (q.2.1 21).1 = RX12 := fun q hq => by cases hq; exact ⟨rfl, rfl⟩
theorem nfl_X12_49 : dFl RX12 49 12 22 := ⟨_, rfl, by decide, dmT6 21 rfl rfl⟩
theorem nff_X12_22 : ∀ q : vw_C, vwCl[12]? = some q → (q.2.1 22).2.2.2 = true ∧ (q.2.1 22).1 = RX12 := fun q hq => by cases hq; exact ⟨rfl, rfl⟩
theorem nfl_X12_52 : dFl RX12 52 12 23 := ⟨_, rfl, by decide, dmT6 22 rfl rfl⟩
theorem nff_X12_23 : ∀ q : vw_C, vwCl[12]? = some q → (q.2.1 23).2.2.2 = true ∧ (q.2.1 23).1 = RX12 := fun q hq => by cases hq; exact ⟨rfl, rfl⟩
theorem nfl_X12_55 : dFl RX12 55 12 28 := ⟨_, rfl, by decide, dmT6 27 rfl rfl⟩
theorem nff_X12_28 : ∀ q : vw_C, vwCl[12]? = some q → (q.2.1 28).2.2.2 = true ∧ (q.2.1 28).1 = RX12 := fun q hq => by cases hq; exact ⟨rfl, rfl⟩
theorem nfl_X12_58 : dFl RX12 58 12 29 := ⟨_, rfl, by decide, dmT6 28 rfl rfl⟩
theorem nff_X12_29 : ∀ q : vw_C, vwCl[12]? = some q → (q.2.1 29).2.2.2 = true ∧ (q.2.1 29).1 = RX12 := fun q hq => by cases hq; exact ⟨rfl, rfl⟩
theorem nfl_X12_61 : dFl RX12 61 12 30 := ⟨_, rfl, by decide, dmT6 29 rfl rfl⟩
theorem nfw_X12_30 : dFw 12 30 := fun q hq => by cases hq; rfl
theorem nfl_X12_65 : dFl RX12 65 12 31 := ⟨_, rfl, by decide, dmT6 30 rfl rfl⟩
theorem nfw_X12_31 : dFw 12 31 := fun q hq => by cases hq; rfl
theorem nfl_X12_68 : dFl RX12 68 12 32 := ⟨_, rfl, by decide, dmT6 31 rfl rfl⟩
theorem nff_X12_32 : ∀ q : vw_C, vwCl[12]? = some q → (q.2.1 32).2.2.2 = true ∧ (q.2.1 32).1 = RX12 := fun q hq => by cases hq; exact ⟨rfl, rfl⟩
theorem nfl_X12_72 : dFl RX12 72 12 33 := ⟨_, rfl, by decide, dmT6 32 rfl rfl⟩
theorem nff_X12_33 : ∀ q : vw_C, vwCl[12]? = some q → (q.2.1 33).2.2.2 = true ∧ (q.2.1 33).1 = RX12 := fun q hq => by cases hq; exact ⟨rfl, rfl⟩
theorem nfl_X12_75 : dFl RX12 75 12 34 := ⟨_, rfl, by decide, dmT6 33 rfl rfl⟩
theorem nff_X12_34 : ∀ q : vw_C, vwCl[12]? = some q → (q.2.1 34).2.2.2 = true ∧ (q.2.1 34).1 = RX12 := fun q hq => by cases hq; exact ⟨rfl, rfl⟩
theorem nfl_X12_78 : dFl RX12 78 12 37 := ⟨_, rfl, by decide, dmT6 36 rfl rfl⟩
theorem nff_X12_37 : ∀ q : vw_C, vwCl[12]? = some q → (q.2.1 37).2.2.2 = true ∧ (q.2.1 37).1 = RX12 := fun q hq => by cases hq; exact ⟨rfl, rfl⟩
theorem nfl_X12_81 : dFl RX12 81 12 42 := ⟨_, rfl, by decide, dmT6 41 rfl rfl⟩
theorem nff_X12_42 : ∀ q : vw_C, vwCl[12]? = some q → (q.2.1 42).2.2.2 = true ∧ (q.2.1 42).1 = RX12 := fun q hq => by cases hq; exact ⟨rfl, rfl⟩
theorem nfl_X12_84 : dFl RX12 84 12 43 := ⟨_, rfl, by decide, dmT6 42 rfl rfl⟩
theorem nff_X12_43 : ∀ q : vw_C, vwCl[12]? = some q → (q.2.1 43).2.2.2 = true ∧ (q.2.1 43).1 = RX12 := fun q hq => by cases hq; exact ⟨rfl, rfl⟩
theorem nfl_X12_87 : dFl RX12 87 12 44 := ⟨_, rfl, by decide, dmT6 43 rfl rfl⟩
theorem nff_X12_44 : ∀ q : vw_C, vwCl[12]? = some q → (q.2.1 44).2.2.2 = true ∧ (q.2.1 44).1 = RX12 := fun q hq => by cases hq; exact ⟨rfl, rfl⟩
theorem nfl_X12_90 : dFl RX12 90 12 45 := ⟨_, rfl, by decide, dmT6 44 rfl rfl⟩
theorem nff_X12_45 : ∀ q : vw_C, vwCl[12]? = some q → (q.2.1 45).2.2.2 = true ∧ (q.2.1 45).1 = RX12 := fun q hq => by cases hq; exact ⟨rfl, rfl⟩
theorem nfl_X12_93 : dFl RX12 93 12 46 := ⟨_, rfl, by decide, dmT6 45 rfl rfl⟩
theorem nff_X12_46 : ∀ q : vw_C, vwCl[12]? = some q → (q.2.1 46).2.2.2 = true ∧ (q.2.1 46).1 = RX12 := fun q hq => by cases hq; exact ⟨rfl, rfl⟩
theorem nfl_X12_97 : dFl RX12 97 12 52 := ⟨_, rfl, by decide, dmT6 51 rfl rfl⟩
theorem nff_X12_52 : ∀ q : vw_C, vwCl[12]? = some q → (q.2.1 52).2.2.2 = true ∧ (q.2.1 52).1 = RX12 := fun q hq => by cases hq; exact ⟨rfl, rfl⟩
theorem nfl_X12_100 : dFl RX12 100 12 53 := ⟨_, rfl, by decide, dmT6 52 rfl rfl⟩
theorem nff_X12_53 : ∀ q : vw_C, vwCl[12]? = some q → (q.2.1 53).2.2.2 = true ∧ (q.2.1 53).1 = RX12 := fun q hq => by cases hq; exact ⟨rfl, rfl⟩
set_option maxRecDepth 20000 in
set_option maxHeartbeats 4000000 in
theorem i_M : TI 23 27225 1 yX12_init cX12_init 1 [.ref 0] (dXP XM [] 1 []) (dH0 1) (dXP XM [] 24 [(0, 53), (0, 52), (0, 46), (0, 45), (0, 44), (0, 43), (0, 42), (0, 37), (0, 34), (0, 33), (0, 32), (0, 29), (0, 28), (0, 23), (0, 22), (0, 21), (0, 20), (0, 19), (0, 18), (0, 16), (0, 15), (0, 5), (0, 4), (0, 3), (0, 2), (0, 1)]) (dPut (dPut (dH0 1) 0 30 (-1)) 0 31 2) := by
  refine TI_of [.ref 0] (by decide) rfl (fun _ => rfl) (fun _ => Nat.le_of_ble_eq_true rfl) ?_
  show BA 23 27225 1 RX12 cX12_init 1 0 [.ref 0] [] (dXP XM [] 1 []) (dH0 1) 0 0 (dXP XM [] 24 [(0, 53), (0, 52), (0, 46), (0, 45), (0, 44), (0, 43), (0, 42), (0, 37), (0, 34), (0, 33), (0, 32), (0, 29), (0, 28), (0, 23), (0, 22), (0, 21), (0, 20), (0, 19), (0, 18), (0, 16), (0, 15), (0, 5), (0, 4), (0, 3), (0, 2), (0, 1)]) (dPut (dPut (dH0 1) 0 30 (-1)) 0 31 2)
  refine N_aload_n dX12_init_0 rfl rfl ?_
  refine N_objInit dX12_init_1 ob_X12_3 (Nat.le_of_ble_eq_true rfl) (Nat.le_of_ble_eq_true rfl) ?_
  refine N_aload_n dX12_init_4 rfl rfl ?_
  refine N_sipush dX12_init_5 sp_240 ?_
  refine N_newaB (N := 240) dX12_init_8 ac_byte (by decide) (by decide) (Nat.le_of_ble_eq_true rfl) rfl (Nat.le_of_ble_eq_true rfl) dGrM (by decide +kernel) (by funext i; rfl) (Nat.le_of_ble_eq_true rfl) (Nat.le_of_ble_eq_true rfl) rfl rfl ?_
  refine N_putF dX12_init_10 nfl_X12_9 nff_X12_1 rfl rfl rfl ?_
  refine N_aload_n dX12_init_13 rfl rfl ?_
  refine N_sipush dX12_init_14 sp_960 ?_
  refine N_newaB (N := 960) dX12_init_17 ac_byte (by decide) (by decide) (Nat.le_of_ble_eq_true rfl) rfl (Nat.le_of_ble_eq_true rfl) dGrM (by decide +kernel) (by funext i; rfl) (Nat.le_of_ble_eq_true rfl) (Nat.le_of_ble_eq_true rfl) rfl rfl ?_
  refine N_putF dX12_init_19 nfl_X12_13 nff_X12_2 rfl rfl rfl ?_
  refine N_aload_n dX12_init_22 rfl rfl ?_
  refine N_iconst dX12_init_23 ic_4 ?_
  refine N_newaI (N := 4) dX12_init_24 ac_int (by decide) (by decide) (Nat.le_of_ble_eq_true rfl) rfl (Nat.le_of_ble_eq_true rfl) dGrM (by decide +kernel) (by funext i; rfl) (Nat.le_of_ble_eq_true rfl) (Nat.le_of_ble_eq_true rfl) rfl rfl ?_
  refine N_putF dX12_init_26 nfl_X12_16 nff_X12_3 rfl rfl rfl ?_
  refine N_aload_n dX12_init_29 rfl rfl ?_
  refine N_sipush dX12_init_30 sp_128 ?_
  refine N_newaI (N := 128) dX12_init_33 ac_int (by decide) (by decide) (Nat.le_of_ble_eq_true rfl) rfl (Nat.le_of_ble_eq_true rfl) dGrM (by decide +kernel) (by funext i; rfl) (Nat.le_of_ble_eq_true rfl) (Nat.le_of_ble_eq_true rfl) rfl rfl ?_
  refine N_putF dX12_init_35 nfl_X12_20 nff_X12_4 rfl rfl rfl ?_
  refine N_aload_n dX12_init_38 rfl rfl ?_
  refine N_aload_n dX12_init_39 rfl rfl ?_
  refine N_getR (b := 1) dX12_init_40 nfl_X12_9 rfl rfl rfl ?_
  refine N_putR dX12_init_43 nfl_X12_23 nfw_X12_5 rfl rfl rfl ?_
  refine N_aload_n dX12_init_46 rfl rfl ?_
  refine N_ldcS (j := 4) dX12_init_47 rfl rfl rfl ?_
  refine N_putF dX12_init_49 nfl_X12_28 nff_X12_15 rfl rfl rfl ?_
  refine N_aload_n dX12_init_52 rfl rfl ?_
  refine N_ldcS (j := 5) dX12_init_53 rfl rfl rfl ?_
  refine N_putF dX12_init_55 nfl_X12_34 nff_X12_16 rfl rfl rfl ?_
  refine N_aload_n dX12_init_58 rfl rfl ?_
  refine N_iconst dX12_init_59 ic_3 ?_
  refine N_newaI (N := 3) dX12_init_60 ac_int (by decide) (by decide) (Nat.le_of_ble_eq_true rfl) rfl (Nat.le_of_ble_eq_true rfl) dGrM (by decide +kernel) (by funext i; rfl) (Nat.le_of_ble_eq_true rfl) (Nat.le_of_ble_eq_true rfl) rfl rfl ?_
  refine N_putF dX12_init_62 nfl_X12_37 nff_X12_18 rfl rfl rfl ?_
  refine N_aload_n dX12_init_65 rfl rfl ?_
  refine N_iconst dX12_init_66 ic_3 ?_
  refine N_newaI (N := 3) dX12_init_67 ac_int (by decide) (by decide) (Nat.le_of_ble_eq_true rfl) rfl (Nat.le_of_ble_eq_true rfl) dGrM (by decide +kernel) (by funext i; rfl) (Nat.le_of_ble_eq_true rfl) (Nat.le_of_ble_eq_true rfl) rfl rfl ?_
  refine N_putF dX12_init_69 nfl_X12_40 nff_X12_19 rfl rfl rfl ?_
  refine N_aload_n dX12_init_72 rfl rfl ?_
  refine N_bipush dX12_init_73 bp_35 ?_
  refine N_newaI (N := 35) dX12_init_75 ac_int (by decide) (by decide) (Nat.le_of_ble_eq_true rfl) rfl (Nat.le_of_ble_eq_true rfl) dGrM (by decide +kernel) (by funext i; rfl) (Nat.le_of_ble_eq_true rfl) (Nat.le_of_ble_eq_true rfl) rfl rfl ?_
  refine N_putF dX12_init_77 nfl_X12_43 nff_X12_20 rfl rfl rfl ?_
  refine N_aload_n dX12_init_80 rfl rfl ?_
  refine N_bipush dX12_init_81 bp_35 ?_
  refine N_newaI (N := 35) dX12_init_83 ac_int (by decide) (by decide) (Nat.le_of_ble_eq_true rfl) rfl (Nat.le_of_ble_eq_true rfl) dGrM (by decide +kernel) (by funext i; rfl) (Nat.le_of_ble_eq_true rfl) (Nat.le_of_ble_eq_true rfl) rfl rfl ?_
  refine N_putF dX12_init_85 nfl_X12_46 nff_X12_21 rfl rfl rfl ?_
  refine N_aload_n dX12_init_88 rfl rfl ?_
  refine N_sipush dX12_init_89 sp_160 ?_
  refine N_newaI (N := 160) dX12_init_92 ac_int (by decide) (by decide) (Nat.le_of_ble_eq_true rfl) rfl (Nat.le_of_ble_eq_true rfl) dGrM (by decide +kernel) (by funext i; rfl) (Nat.le_of_ble_eq_true rfl) (Nat.le_of_ble_eq_true rfl) rfl rfl ?_
  refine N_putF dX12_init_94 nfl_X12_49 nff_X12_22 rfl rfl rfl ?_
  refine N_aload_n dX12_init_97 rfl rfl ?_
  refine N_iconst dX12_init_98 ic_5 ?_
  refine N_newaI (N := 5) dX12_init_99 ac_int (by decide) (by decide) (Nat.le_of_ble_eq_true rfl) rfl (Nat.le_of_ble_eq_true rfl) dGrM (by decide +kernel) (by funext i; rfl) (Nat.le_of_ble_eq_true rfl) (Nat.le_of_ble_eq_true rfl) rfl rfl ?_
  refine N_putF dX12_init_101 nfl_X12_52 nff_X12_23 rfl rfl rfl ?_
  refine N_aload_n dX12_init_104 rfl rfl ?_
  refine N_sipush dX12_init_105 sp_209 ?_
  refine N_newaI (N := 209) dX12_init_108 ac_int (by decide) (by decide) (Nat.le_of_ble_eq_true rfl) rfl (Nat.le_of_ble_eq_true rfl) dGrM (by decide +kernel) (by funext i; rfl) (Nat.le_of_ble_eq_true rfl) (Nat.le_of_ble_eq_true rfl) rfl rfl ?_
  refine N_putF dX12_init_110 nfl_X12_55 nff_X12_28 rfl rfl rfl ?_
  refine N_aload_n dX12_init_113 rfl rfl ?_
  refine N_sipush dX12_init_114 sp_209 ?_
  refine N_newaI (N := 209) dX12_init_117 ac_int (by decide) (by decide) (Nat.le_of_ble_eq_true rfl) rfl (Nat.le_of_ble_eq_true rfl) dGrM (by decide +kernel) (by funext i; rfl) (Nat.le_of_ble_eq_true rfl) (Nat.le_of_ble_eq_true rfl) rfl rfl ?_
  refine N_putF dX12_init_119 nfl_X12_58 nff_X12_29 rfl rfl rfl ?_
  refine N_aload_n dX12_init_122 rfl rfl ?_
  refine N_iconst dX12_init_123 ic_m1 ?_
  refine N_putI dX12_init_124 nfl_X12_61 nfw_X12_30 rfl rfl ?_
  refine N_aload_n dX12_init_127 rfl rfl ?_
  refine N_iconst dX12_init_128 ic_2 ?_
  refine N_putI dX12_init_129 nfl_X12_65 nfw_X12_31 rfl rfl ?_
  refine N_aload_n dX12_init_132 rfl rfl ?_
  refine N_sipush dX12_init_133 sp_8191 ?_
  refine N_newaJ (N := 8191) dX12_init_136 ac_long (by decide) (by decide) (Nat.le_of_ble_eq_true rfl) rfl (Nat.le_of_ble_eq_true rfl) dGrM (by decide +kernel) (by funext i; rfl) (Nat.le_of_ble_eq_true rfl) (Nat.le_of_ble_eq_true rfl) rfl rfl ?_
  refine N_putF dX12_init_138 nfl_X12_68 nff_X12_32 rfl rfl rfl ?_
  refine N_aload_n dX12_init_141 rfl rfl ?_
  refine N_sipush dX12_init_142 sp_8191 ?_
  refine N_newaI (N := 8191) dX12_init_145 ac_int (by decide) (by decide) (Nat.le_of_ble_eq_true rfl) rfl (Nat.le_of_ble_eq_true rfl) dGrM (by decide +kernel) (by funext i; rfl) (Nat.le_of_ble_eq_true rfl) (Nat.le_of_ble_eq_true rfl) rfl rfl ?_
  refine N_putF dX12_init_147 nfl_X12_72 nff_X12_33 rfl rfl rfl ?_
  refine N_aload_n dX12_init_150 rfl rfl ?_
  refine N_sipush dX12_init_151 sp_8360 ?_
  refine N_newaI (N := 8360) dX12_init_154 ac_int (by decide) (by decide) (Nat.le_of_ble_eq_true rfl) rfl (Nat.le_of_ble_eq_true rfl) dGrM (by decide +kernel) (by funext i; rfl) (Nat.le_of_ble_eq_true rfl) (Nat.le_of_ble_eq_true rfl) rfl rfl ?_
  refine N_putF dX12_init_156 nfl_X12_75 nff_X12_34 rfl rfl rfl ?_
  refine N_aload_n dX12_init_159 rfl rfl ?_
  refine N_sipush dX12_init_160 sp_232 ?_
  refine N_newaI (N := 232) dX12_init_163 ac_int (by decide) (by decide) (Nat.le_of_ble_eq_true rfl) rfl (Nat.le_of_ble_eq_true rfl) dGrM (by decide +kernel) (by funext i; rfl) (Nat.le_of_ble_eq_true rfl) (Nat.le_of_ble_eq_true rfl) rfl rfl ?_
  refine N_putF dX12_init_165 nfl_X12_78 nff_X12_37 rfl rfl rfl ?_
  refine N_aload_n dX12_init_168 rfl rfl ?_
  refine N_bipush dX12_init_169 bp_10 ?_
  refine N_newaI (N := 10) dX12_init_171 ac_int (by decide) (by decide) (Nat.le_of_ble_eq_true rfl) rfl (Nat.le_of_ble_eq_true rfl) dGrM (by decide +kernel) (by funext i; rfl) (Nat.le_of_ble_eq_true rfl) (Nat.le_of_ble_eq_true rfl) rfl rfl ?_
  refine N_putF dX12_init_173 nfl_X12_81 nff_X12_42 rfl rfl rfl ?_
  refine N_aload_n dX12_init_176 rfl rfl ?_
  refine N_bipush dX12_init_177 bp_10 ?_
  refine N_newaI (N := 10) dX12_init_179 ac_int (by decide) (by decide) (Nat.le_of_ble_eq_true rfl) rfl (Nat.le_of_ble_eq_true rfl) dGrM (by decide +kernel) (by funext i; rfl) (Nat.le_of_ble_eq_true rfl) (Nat.le_of_ble_eq_true rfl) rfl rfl ?_
  refine N_putF dX12_init_181 nfl_X12_84 nff_X12_43 rfl rfl rfl ?_
  refine N_aload_n dX12_init_184 rfl rfl ?_
  refine N_bipush dX12_init_185 bp_7 ?_
  refine N_newaI (N := 7) dX12_init_187 ac_int (by decide) (by decide) (Nat.le_of_ble_eq_true rfl) rfl (Nat.le_of_ble_eq_true rfl) dGrM (by decide +kernel) (by funext i; rfl) (Nat.le_of_ble_eq_true rfl) (Nat.le_of_ble_eq_true rfl) rfl rfl ?_
  refine N_putF dX12_init_189 nfl_X12_87 nff_X12_44 rfl rfl rfl ?_
  refine N_aload_n dX12_init_192 rfl rfl ?_
  refine N_bipush dX12_init_193 bp_7 ?_
  refine N_newaI (N := 7) dX12_init_195 ac_int (by decide) (by decide) (Nat.le_of_ble_eq_true rfl) rfl (Nat.le_of_ble_eq_true rfl) dGrM (by decide +kernel) (by funext i; rfl) (Nat.le_of_ble_eq_true rfl) (Nat.le_of_ble_eq_true rfl) rfl rfl ?_
  refine N_putF dX12_init_197 nfl_X12_90 nff_X12_45 rfl rfl rfl ?_
  refine N_aload_n dX12_init_200 rfl rfl ?_
  refine N_bipush dX12_init_201 bp_10 ?_
  refine N_newaZ (N := 10) dX12_init_203 ac_boolean (by decide) (by decide) (Nat.le_of_ble_eq_true rfl) rfl (Nat.le_of_ble_eq_true rfl) dGrM (by decide +kernel) (by funext i; rfl) (Nat.le_of_ble_eq_true rfl) (Nat.le_of_ble_eq_true rfl) rfl rfl ?_
  refine N_putF dX12_init_205 nfl_X12_93 nff_X12_46 rfl rfl rfl ?_
  refine N_aload_n dX12_init_208 rfl rfl ?_
  refine N_bipush dX12_init_209 bp_7 ?_
  refine N_newaI (N := 7) dX12_init_211 ac_int (by decide) (by decide) (Nat.le_of_ble_eq_true rfl) rfl (Nat.le_of_ble_eq_true rfl) dGrM (by decide +kernel) (by funext i; rfl) (Nat.le_of_ble_eq_true rfl) (Nat.le_of_ble_eq_true rfl) rfl rfl ?_
  refine N_putF dX12_init_213 nfl_X12_97 nff_X12_52 rfl rfl rfl ?_
  refine N_aload_n dX12_init_216 rfl rfl ?_
  refine N_sipush dX12_init_217 sp_209 ?_
  refine N_newaI (N := 209) dX12_init_220 ac_int (by decide) (by decide) (Nat.le_of_ble_eq_true rfl) rfl (Nat.le_of_ble_eq_true rfl) dGrM (by decide +kernel) (by funext i; rfl) (Nat.le_of_ble_eq_true rfl) (Nat.le_of_ble_eq_true rfl) rfl rfl ?_
  refine N_putF dX12_init_222 nfl_X12_100 nff_X12_53 rfl rfl rfl ?_
  exact N_return dX12_init_225
/-- the class, new -/
def hC0 : dH := (dPut (dPut (dPut (dPut (dH0 1) 42 2 (-1)) 67 0 (-1)) 69 0 (-1)) 0 16 2)
/-- its reference, new -/
def hM0 : dH := (dPut (dPut (dH0 1) 0 30 (-1)) 0 31 2)
def LC : List (Nat × Nat) := [(0, 14), (84, 1), (84, 0), (84, 2), (0, 13), (83, 4), (83, 3), (0, 12), (77, 4), (77, 9), (77, 8), (77, 7), (77, 6), (77, 5), (0, 11), (75, 0), (0, 10), (0, 9), (72, 0), (0, 8), (70, 1), (0, 7), (68, 1), (68, 0), (68, 2), (0, 6), (66, 1), (66, 0), (66, 2), (0, 5), (52, 1), (52, 4), (52, 3), (52, 2), (0, 4), (42, 3), (42, 6), (42, 5), (42, 4), (42, 0), (0, 3), (41, 1), (41, 0), (0, 2), (22, 3), (22, 1), (22, 0), (0, 1), (3, 3), (3, 1), (3, 0), (0, 0), (1, 0)]
theorem rfC_out : ∀ t a k, LC.contains (a, k) = false → dgr grC a = false → rfC t a k = none := by
  intro t a k h1 h2
  unfold rfC
  split <;> first | rfl | (exact absurd h1 (by decide)) | (exact absurd h2 (by decide))
theorem xC_new : dXP XC grC 86 LC = XC := by
  unfold dXP
  refine Prod.ext ?_ ?_
  · exact List.take_of_length_le (Nat.le_of_ble_eq_true rfl)
  · funext t a k
    show (if LC.contains (a, k) || (dgr grC a && decide (a < 86)) then rfC t a k else none) = rfC t a k
    cases h1 : LC.contains (a, k) with
    | true => rfl
    | false =>
      cases h2 : dgr grC a with
      | false => rw [rfC_out t a k h1 h2]; rfl
      | true =>
        by_cases h3 : a < 86
        · rw [decide_eq_true h3]; rfl
        · have h4 : ∀ q ∈ (grC : List (Nat × Nat)), q.1 < 86 := by decide
          obtain ⟨q, hq, he⟩ := List.any_eq_true.mp h2
          have he : q.1 = a := by simpa using he
          exact absurd (h4 q hq) (by omega)
def LM : List (Nat × Nat) := [(0, 53), (0, 52), (0, 46), (0, 45), (0, 44), (0, 43), (0, 42), (0, 37), (0, 34), (0, 33), (0, 32), (0, 29), (0, 28), (0, 23), (0, 22), (0, 21), (0, 20), (0, 19), (0, 18), (0, 16), (0, 15), (0, 5), (0, 4), (0, 3), (0, 2), (0, 1)]
theorem rfM_out : ∀ t a k, LM.contains (a, k) = false → dgr [] a = false → rfM t a k = none := by
  intro t a k h1 h2
  unfold rfM
  split <;> first | rfl | (exact absurd h1 (by decide)) | (exact absurd h2 (by decide))
theorem xM_new : dXP XM [] 24 LM = XM := by
  unfold dXP
  refine Prod.ext ?_ ?_
  · exact List.take_of_length_le (Nat.le_of_ble_eq_true rfl)
  · funext t a k
    show (if LM.contains (a, k) || (dgr [] a && decide (a < 24)) then rfM t a k else none) = rfM t a k
    cases h1 : LM.contains (a, k) with
    | true => rfl
    | false =>
      cases h2 : dgr [] a with
      | false => rw [rfM_out t a k h1 h2]; rfl
      | true =>
        by_cases h3 : a < 24
        · rw [decide_eq_true h3]; rfl
        · have h4 : ∀ q ∈ ([] : List (Nat × Nat)), q.1 < 24 := by decide
          obtain ⟨q, hq, he⟩ := List.any_eq_true.mp h2
          have he : q.1 = a := by simpa using he
          exact absurd (h4 q hq) (by omega)
