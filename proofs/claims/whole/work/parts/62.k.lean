theorem sn_8 : dNw R_law 8 (RX11, TX11, 17) := ⟨dmT1 25 rfl rfl, dmT1 26 rfl rfl, dmT1 1 rfl rfl⟩
theorem sn_16 : dNw R_law 16 (RX12, TX12, 55) := ⟨dmT5 231 rfl rfl, dmT5 232 rfl rfl, dmT1 13 rfl rfl⟩
theorem si_15 : Cond.methodLink R_law 15 yX11_init ∈ dWs ∧ dMw yX11_init cX11_init 1 none 0 ∧ Cond.instanceMethod yX11_init ∈ dWs := ⟨dmT1 27 rfl rfl, ⟨dmT1 29 rfl rfl, dmT1 1 rfl rfl, ⟨by decide, by decide, by decide +kernel⟩, by decide⟩, dmT1 28 rfl rfl⟩
theorem si_18 : Cond.methodLink R_law 18 yX12_init ∈ dWs ∧ dMw yX12_init cX12_init 1 none 0 ∧ Cond.instanceMethod yX12_init ∈ dWs := ⟨dmT5 233 rfl rfl, ⟨dmT5 235 rfl rfl, dmT1 13 rfl rfl, ⟨by decide, by decide, by decide +kernel⟩, by decide⟩, dmT5 234 rfl rfl⟩
theorem dK_start {b : Nat} {s : State} (hts : ∀ w ∈ lw_tbl, w.before #[Value.ref b] s = true) (hao : va_AOA .int s) : ∃ (D : va_G) (cA : Nat → ClassId), ∀ r : Nat → Nat, va_K D vwCl (dTys (D, cA, r)) s := by
  obtain ⟨c0, i0, k0⟩ := u_known (C := RX0) (T := TX0) (N := 3) (n := 3) hts (fun w hw => (List.mem_filter.mp ((dCl_all 0 _ rfl).1 w hw)).1) (hts (.instantiable RX0 3) (List.mem_filter.mp (dmT1 181 rfl rfl : Cond.instantiable RX0 3 ∈ dWs)).1)
  obtain ⟨c1, i1, k1⟩ := u_known (C := RX1) (T := TX1) (N := 4) (n := 4) hts (fun w hw => (List.mem_filter.mp ((dCl_all 1 _ rfl).1 w hw)).1) (hts (.instantiable RX1 4) (List.mem_filter.mp (dmT1 61 rfl rfl : Cond.instantiable RX1 4 ∈ dWs)).1)
  obtain ⟨c2, i2, k2⟩ := u_known (C := RX2) (T := TX2) (N := 3) (n := 3) hts (fun w hw => (List.mem_filter.mp ((dCl_all 2 _ rfl).1 w hw)).1) (hts (.instantiable RX2 3) (List.mem_filter.mp (dmT1 91 rfl rfl : Cond.instantiable RX2 3 ∈ dWs)).1)
  obtain ⟨c3, i3, k3⟩ := u_known (C := RX3) (T := TX3) (N := 5) (n := 5) hts (fun w hw => (List.mem_filter.mp ((dCl_all 3 _ rfl).1 w hw)).1) (hts (.instantiable RX3 5) (List.mem_filter.mp (dmT1 140 rfl rfl : Cond.instantiable RX3 5 ∈ dWs)).1)
  obtain ⟨c4, i4, k4⟩ := u_known (C := RX4) (T := TX4) (N := 1) (n := 1) hts (fun w hw => (List.mem_filter.mp ((dCl_all 4 _ rfl).1 w hw)).1) (hts (.instantiable RX4 1) (List.mem_filter.mp (dmT1 198 rfl rfl : Cond.instantiable RX4 1 ∈ dWs)).1)
  obtain ⟨c5, i5, k5⟩ := u_known (C := RX5) (T := TX5) (N := 7) (n := 7) hts (fun w hw => (List.mem_filter.mp ((dCl_all 5 _ rfl).1 w hw)).1) (hts (.instantiable RX5 7) (List.mem_filter.mp (dmT1 107 rfl rfl : Cond.instantiable RX5 7 ∈ dWs)).1)
  obtain ⟨c6, i6, k6⟩ := u_known (C := RX6) (T := TX6) (N := 5) (n := 5) hts (fun w hw => (List.mem_filter.mp ((dCl_all 6 _ rfl).1 w hw)).1) (hts (.instantiable RX6 5) (List.mem_filter.mp (dmT2 44 rfl rfl : Cond.instantiable RX6 5 ∈ dWs)).1)
  obtain ⟨c7, i7, k7⟩ := u_known (C := RX7) (T := TX7) (N := 6) (n := 6) hts (fun w hw => (List.mem_filter.mp ((dCl_all 7 _ rfl).1 w hw)).1) (hts (.instantiable RX7 6) (List.mem_filter.mp (dmT2 16 rfl rfl : Cond.instantiable RX7 6 ∈ dWs)).1)
  obtain ⟨c8, i8, k8⟩ := u_known (C := RX8) (T := TX8) (N := 3) (n := 3) hts (fun w hw => (List.mem_filter.mp ((dCl_all 8 _ rfl).1 w hw)).1) (hts (.instantiable RX8 3) (List.mem_filter.mp (dmT1 164 rfl rfl : Cond.instantiable RX8 3 ∈ dWs)).1)
  obtain ⟨c9, i9, k9⟩ := u_known (C := RX9) (T := TX9) (N := 4) (n := 4) hts (fun w hw => (List.mem_filter.mp ((dCl_all 9 _ rfl).1 w hw)).1) (hts (.instantiable RX9 4) (List.mem_filter.mp (dmT1 34 rfl rfl : Cond.instantiable RX9 4 ∈ dWs)).1)
  obtain ⟨c10, i10, k10⟩ := u_known (C := RX10) (T := TX10) (N := 12) (n := 12) hts (fun w hw => (List.mem_filter.mp ((dCl_all 10 _ rfl).1 w hw)).1) (hts (.instantiable RX10 12) (List.mem_filter.mp (dmT1 208 rfl rfl : Cond.instantiable RX10 12 ∈ dWs)).1)
  obtain ⟨c11, i11, k11⟩ := u_known (C := RX11) (T := TX11) (N := 17) (n := 17) hts (fun w hw => (List.mem_filter.mp ((dCl_all 11 _ rfl).1 w hw)).1) (hts (.instantiable RX11 17) (List.mem_filter.mp (dmT1 26 rfl rfl : Cond.instantiable RX11 17 ∈ dWs)).1)
  obtain ⟨c12, i12, k12⟩ := u_known (C := RX12) (T := TX12) (N := 55) (n := 55) hts (fun w hw => (List.mem_filter.mp ((dCl_all 12 _ rfl).1 w hw)).1) (hts (.instantiable RX12 55) (List.mem_filter.mp (dmT5 232 rfl rfl : Cond.instantiable RX12 55 ∈ dWs)).1)
  obtain ⟨d0, e0, f0, g0, h0, j0⟩ := Cond.arrayClass_spec (hts (.arrayClass .int) (List.mem_filter.mp ac_int).1)
  obtain ⟨d1, e1, f1, g1, h1, j1⟩ := Cond.arrayClass_spec (hts (.arrayClass .byte) (List.mem_filter.mp ac_byte).1)
  obtain ⟨d2, e2, f2, g2, h2, j2⟩ := Cond.arrayClass_spec (hts (.arrayClass .boolean) (List.mem_filter.mp ac_boolean).1)
  obtain ⟨d3, e3, f3, g3, h3, j3⟩ := Cond.arrayClass_spec (hts (.arrayClass .long) (List.mem_filter.mp ac_long).1)
  obtain ⟨d4, e4, f4, g4, h4, j4⟩ := arrI_spec (args := #[]) hao
  refine ⟨(fun k => if k = 0 then c0 else if k = 1 then c1 else if k = 2 then c2 else if k = 3 then c3 else if k = 4 then c4 else if k = 5 then c5 else if k = 6 then c6 else if k = 7 then c7 else if k = 8 then c8 else if k = 9 then c9 else if k = 10 then c10 else if k = 11 then c11 else c12, fun k => if k = 0 then i0 else if k = 1 then i1 else if k = 2 then i2 else if k = 3 then i3 else if k = 4 then i4 else if k = 5 then i5 else if k = 6 then i6 else if k = 7 then i7 else if k = 8 then i8 else if k = 9 then i9 else if k = 10 then i10 else if k = 11 then i11 else i12), fun k => if k = 0 then d0 else if k = 1 then d1 else if k = 2 then d2 else if k = 3 then d3 else d4, fun r => ⟨fun k q hq => ?_, fun k q hq => ?_⟩⟩
  · match k, hq with
    | 0, hq => cases hq; exact k0
    | 1, hq => cases hq; exact k1
    | 2, hq => cases hq; exact k2
    | 3, hq => cases hq; exact k3
    | 4, hq => cases hq; exact k4
    | 5, hq => cases hq; exact k5
    | 6, hq => cases hq; exact k6
    | 7, hq => cases hq; exact k7
    | 8, hq => cases hq; exact k8
    | 9, hq => cases hq; exact k9
    | 10, hq => cases hq; exact k10
    | 11, hq => cases hq; exact k11
    | 12, hq => cases hq; exact k12
    | k + 13, hq => simp [vwCl] at hq
  · match k, hq with
    | 0, hq => cases hq; exact ⟨fun N z => ⟨(fun q hq => by cases hq), e0, h0, f0, j0⟩, g0⟩
    | 1, hq => cases hq; exact ⟨fun N z => ⟨(fun q hq => by cases hq), e1, h1, f1, j1⟩, g1⟩
    | 2, hq => cases hq; exact ⟨fun N z => ⟨(fun q hq => by cases hq), e2, h2, f2, j2⟩, g2⟩
    | 3, hq => cases hq; exact ⟨fun N z => ⟨(fun q hq => by cases hq), e3, h3, f3, j3⟩, g3⟩
    | 4, hq => cases hq; exact ⟨fun N z => ⟨(fun q hq => by cases hq), e4, h4, f4, j4⟩, g4⟩
    | k + 5, hq => simp [dTys] at hq
