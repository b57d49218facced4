/-! THE TWO WORLDS: the class (C) and its reference (M) -/
theorem dI_lt {i : Int32} {n : Nat} (h : dIn i n) : dI i < n := by
  have h1 := h.1
  have h2 := h.2
  show i.toInt.toNat < n
  omega
def shC : List dS := [.inl 11, .inl 9, .inr (0, 240), .inl 1, .inr (0, 3), .inr (4, 7), .inr (0, 5), .inr (0, 5), .inr (0, 5), .inr (0, 5), .inr (0, 5), .inr (0, 5), .inr (0, 5), .inr (4, 8), .inr (0, 8), .inr (0, 8), .inr (0, 8), .inr (0, 8), .inr (0, 8), .inr (0, 8), .inr (0, 8), .inr (0, 8), .inl 1, .inr (0, 3), .inr (4, 7), .inr (0, 5), .inr (0, 5), .inr (0, 5), .inr (0, 5), .inr (0, 5), .inr (0, 5), .inr (0, 5), .inr (4, 8), .inr (0, 8), .inr (0, 8), .inr (0, 8), .inr (0, 8), .inr (0, 8), .inr (0, 8), .inr (0, 8), .inr (0, 8), .inl 2, .inl 5, .inr (0, 6), .inr (4, 5), .inr (0, 240), .inr (0, 240), .inr (0, 240), .inr (0, 240), .inr (0, 240), .inr (0, 5), .inr (0, 64), .inl 3, .inr (4, 5), .inr (0, 16), .inr (0, 16), .inr (0, 16), .inr (0, 16), .inr (0, 16), .inr (4, 5), .inr (0, 16), .inr (0, 16), .inr (0, 16), .inr (0, 16), .inr (0, 16), .inr (0, 5), .inl 8, .inr (0, 28), .inl 8, .inr (0, 28), .inl 0, .inr (0, 1120), .inl 4, .inr (0, 300), .inr (0, 28), .inl 4, .inr (0, 300), .inl 10, .inr (0, 10), .inr (0, 10), .inr (2, 10), .inr (0, 7), .inr (0, 7), .inl 7, .inl 6, .inr (0, 7)]
def rfC (t a k : Nat) : Option Nat := match a, k with
  | 0, 0 => some 1
  | 0, 1 => some 3
  | 0, 2 => some 22
  | 0, 3 => some 41
  | 0, 4 => some 42
  | 0, 5 => some 52
  | 0, 6 => some 66
  | 0, 7 => some 68
  | 0, 8 => some 70
  | 0, 9 => some 72
  | 0, 10 => some 74
  | 0, 11 => some 75
  | 0, 12 => some 77
  | 0, 13 => some 83
  | 0, 14 => some 84
  | 1, 0 => some 2
  | 3, 0 => some 4
  | 3, 1 => some 5
  | 3, 3 => some 13
  | 22, 0 => some 23
  | 22, 1 => some 24
  | 22, 3 => some 32
  | 41, 0 => some 1
  | 41, 1 => some 22
  | 42, 0 => some 43
  | 42, 3 => some 1
  | 42, 4 => some 44
  | 42, 5 => some 50
  | 42, 6 => some 51
  | 52, 1 => some 1
  | 52, 2 => some 53
  | 52, 3 => some 59
  | 52, 4 => some 65
  | 66, 0 => some 3
  | 66, 1 => some 42
  | 66, 2 => some 67
  | 68, 0 => some 3
  | 68, 1 => some 42
  | 68, 2 => some 69
  | 70, 1 => some 71
  | 72, 0 => some 73
  | 75, 0 => some 76
  | 77, 4 => some 3
  | 77, 5 => some 78
  | 77, 6 => some 79
  | 77, 7 => some 80
  | 77, 8 => some 81
  | 77, 9 => some 82
  | 83, 3 => some 3
  | 83, 4 => some 66
  | 84, 0 => some 3
  | 84, 1 => some 66
  | 84, 2 => some 85
  | 5, i => if i < 7 then some (6 + i) else none
  | 13, i => if i < 8 then some (14 + i) else none
  | 24, i => if i < 7 then some (25 + i) else none
  | 32, i => if i < 8 then some (33 + i) else none
  | 44, i => if i < 5 then some (45 + i) else none
  | 53, i => if i < 5 then some (54 + i) else none
  | 59, i => if i < 5 then some (60 + i) else none
  | _, _ => none
abbrev XC : dX := (shC, rfC)
theorem shC_0 : XC.1[0]? = some (.inl 11) := rfl
theorem shC_1 : XC.1[1]? = some (.inl 9) := rfl
theorem shC_2 : XC.1[2]? = some (.inr (0, 240)) := rfl
theorem shC_3 : XC.1[3]? = some (.inl 1) := rfl
theorem shC_4 : XC.1[4]? = some (.inr (0, 3)) := rfl
theorem shC_5 : XC.1[5]? = some (.inr (4, 7)) := rfl
theorem shC_6 : XC.1[6]? = some (.inr (0, 5)) := rfl
theorem shC_7 : XC.1[7]? = some (.inr (0, 5)) := rfl
theorem shC_8 : XC.1[8]? = some (.inr (0, 5)) := rfl
theorem shC_9 : XC.1[9]? = some (.inr (0, 5)) := rfl
theorem shC_10 : XC.1[10]? = some (.inr (0, 5)) := rfl
theorem shC_11 : XC.1[11]? = some (.inr (0, 5)) := rfl
theorem shC_12 : XC.1[12]? = some (.inr (0, 5)) := rfl
theorem shC_13 : XC.1[13]? = some (.inr (4, 8)) := rfl
theorem shC_14 : XC.1[14]? = some (.inr (0, 8)) := rfl
theorem shC_15 : XC.1[15]? = some (.inr (0, 8)) := rfl
theorem shC_16 : XC.1[16]? = some (.inr (0, 8)) := rfl
theorem shC_17 : XC.1[17]? = some (.inr (0, 8)) := rfl
theorem shC_18 : XC.1[18]? = some (.inr (0, 8)) := rfl
theorem shC_19 : XC.1[19]? = some (.inr (0, 8)) := rfl
theorem shC_20 : XC.1[20]? = some (.inr (0, 8)) := rfl
theorem shC_21 : XC.1[21]? = some (.inr (0, 8)) := rfl
theorem shC_22 : XC.1[22]? = some (.inl 1) := rfl
theorem shC_23 : XC.1[23]? = some (.inr (0, 3)) := rfl
theorem shC_24 : XC.1[24]? = some (.inr (4, 7)) := rfl
theorem shC_25 : XC.1[25]? = some (.inr (0, 5)) := rfl
theorem shC_26 : XC.1[26]? = some (.inr (0, 5)) := rfl
theorem shC_27 : XC.1[27]? = some (.inr (0, 5)) := rfl
theorem shC_28 : XC.1[28]? = some (.inr (0, 5)) := rfl
theorem shC_29 : XC.1[29]? = some (.inr (0, 5)) := rfl
theorem shC_30 : XC.1[30]? = some (.inr (0, 5)) := rfl
theorem shC_31 : XC.1[31]? = some (.inr (0, 5)) := rfl
theorem shC_32 : XC.1[32]? = some (.inr (4, 8)) := rfl
theorem shC_33 : XC.1[33]? = some (.inr (0, 8)) := rfl
theorem shC_34 : XC.1[34]? = some (.inr (0, 8)) := rfl
theorem shC_35 : XC.1[35]? = some (.inr (0, 8)) := rfl
theorem shC_36 : XC.1[36]? = some (.inr (0, 8)) := rfl
theorem shC_37 : XC.1[37]? = some (.inr (0, 8)) := rfl
theorem shC_38 : XC.1[38]? = some (.inr (0, 8)) := rfl
theorem shC_39 : XC.1[39]? = some (.inr (0, 8)) := rfl
theorem shC_40 : XC.1[40]? = some (.inr (0, 8)) := rfl
theorem shC_41 : XC.1[41]? = some (.inl 2) := rfl
theorem shC_42 : XC.1[42]? = some (.inl 5) := rfl
theorem shC_43 : XC.1[43]? = some (.inr (0, 6)) := rfl
theorem shC_44 : XC.1[44]? = some (.inr (4, 5)) := rfl
theorem shC_45 : XC.1[45]? = some (.inr (0, 240)) := rfl
theorem shC_46 : XC.1[46]? = some (.inr (0, 240)) := rfl
theorem shC_47 : XC.1[47]? = some (.inr (0, 240)) := rfl
theorem shC_48 : XC.1[48]? = some (.inr (0, 240)) := rfl
theorem shC_49 : XC.1[49]? = some (.inr (0, 240)) := rfl
theorem shC_50 : XC.1[50]? = some (.inr (0, 5)) := rfl
theorem shC_51 : XC.1[51]? = some (.inr (0, 64)) := rfl
theorem shC_52 : XC.1[52]? = some (.inl 3) := rfl
theorem shC_53 : XC.1[53]? = some (.inr (4, 5)) := rfl
theorem shC_54 : XC.1[54]? = some (.inr (0, 16)) := rfl
theorem shC_55 : XC.1[55]? = some (.inr (0, 16)) := rfl
theorem shC_56 : XC.1[56]? = some (.inr (0, 16)) := rfl
theorem shC_57 : XC.1[57]? = some (.inr (0, 16)) := rfl
theorem shC_58 : XC.1[58]? = some (.inr (0, 16)) := rfl
theorem shC_59 : XC.1[59]? = some (.inr (4, 5)) := rfl
theorem shC_60 : XC.1[60]? = some (.inr (0, 16)) := rfl
theorem shC_61 : XC.1[61]? = some (.inr (0, 16)) := rfl
theorem shC_62 : XC.1[62]? = some (.inr (0, 16)) := rfl
theorem shC_63 : XC.1[63]? = some (.inr (0, 16)) := rfl
theorem shC_64 : XC.1[64]? = some (.inr (0, 16)) := rfl
theorem shC_65 : XC.1[65]? = some (.inr (0, 5)) := rfl
theorem shC_66 : XC.1[66]? = some (.inl 8) := rfl
theorem shC_67 : XC.1[67]? = some (.inr (0, 28)) := rfl
theorem shC_68 : XC.1[68]? = some (.inl 8) := rfl
theorem shC_69 : XC.1[69]? = some (.inr (0, 28)) := rfl
theorem shC_70 : XC.1[70]? = some (.inl 0) := rfl
theorem shC_71 : XC.1[71]? = some (.inr (0, 1120)) := rfl
theorem shC_72 : XC.1[72]? = some (.inl 4) := rfl
theorem shC_73 : XC.1[73]? = some (.inr (0, 300)) := rfl
theorem shC_74 : XC.1[74]? = some (.inr (0, 28)) := rfl
theorem shC_75 : XC.1[75]? = some (.inl 4) := rfl
theorem shC_76 : XC.1[76]? = some (.inr (0, 300)) := rfl
theorem shC_77 : XC.1[77]? = some (.inl 10) := rfl
theorem shC_78 : XC.1[78]? = some (.inr (0, 10)) := rfl
theorem shC_79 : XC.1[79]? = some (.inr (0, 10)) := rfl
theorem shC_80 : XC.1[80]? = some (.inr (2, 10)) := rfl
theorem shC_81 : XC.1[81]? = some (.inr (0, 7)) := rfl
theorem shC_82 : XC.1[82]? = some (.inr (0, 7)) := rfl
theorem shC_83 : XC.1[83]? = some (.inl 7) := rfl
theorem shC_84 : XC.1[84]? = some (.inl 6) := rfl
theorem shC_85 : XC.1[85]? = some (.inr (0, 7)) := rfl
theorem rfC_0_0 (u : Nat) : XC.2 u 0 0 = some 1 := rfl
theorem rfC_0_1 (u : Nat) : XC.2 u 0 1 = some 3 := rfl
theorem rfC_0_2 (u : Nat) : XC.2 u 0 2 = some 22 := rfl
theorem rfC_0_3 (u : Nat) : XC.2 u 0 3 = some 41 := rfl
theorem rfC_0_4 (u : Nat) : XC.2 u 0 4 = some 42 := rfl
theorem rfC_0_5 (u : Nat) : XC.2 u 0 5 = some 52 := rfl
theorem rfC_0_6 (u : Nat) : XC.2 u 0 6 = some 66 := rfl
theorem rfC_0_7 (u : Nat) : XC.2 u 0 7 = some 68 := rfl
theorem rfC_0_8 (u : Nat) : XC.2 u 0 8 = some 70 := rfl
theorem rfC_0_9 (u : Nat) : XC.2 u 0 9 = some 72 := rfl
theorem rfC_0_10 (u : Nat) : XC.2 u 0 10 = some 74 := rfl
theorem rfC_0_11 (u : Nat) : XC.2 u 0 11 = some 75 := rfl
theorem rfC_0_12 (u : Nat) : XC.2 u 0 12 = some 77 := rfl
theorem rfC_0_13 (u : Nat) : XC.2 u 0 13 = some 83 := rfl
theorem rfC_0_14 (u : Nat) : XC.2 u 0 14 = some 84 := rfl
theorem rfC_1_0 (u : Nat) : XC.2 u 1 0 = some 2 := rfl
theorem rfC_3_0 (u : Nat) : XC.2 u 3 0 = some 4 := rfl
theorem rfC_3_1 (u : Nat) : XC.2 u 3 1 = some 5 := rfl
theorem rfC_3_3 (u : Nat) : XC.2 u 3 3 = some 13 := rfl
theorem rfC_22_0 (u : Nat) : XC.2 u 22 0 = some 23 := rfl
theorem rfC_22_1 (u : Nat) : XC.2 u 22 1 = some 24 := rfl
theorem rfC_22_3 (u : Nat) : XC.2 u 22 3 = some 32 := rfl
theorem rfC_41_0 (u : Nat) : XC.2 u 41 0 = some 1 := rfl
theorem rfC_41_1 (u : Nat) : XC.2 u 41 1 = some 22 := rfl
theorem rfC_42_0 (u : Nat) : XC.2 u 42 0 = some 43 := rfl
theorem rfC_42_3 (u : Nat) : XC.2 u 42 3 = some 1 := rfl
theorem rfC_42_4 (u : Nat) : XC.2 u 42 4 = some 44 := rfl
theorem rfC_42_5 (u : Nat) : XC.2 u 42 5 = some 50 := rfl
theorem rfC_42_6 (u : Nat) : XC.2 u 42 6 = some 51 := rfl
theorem rfC_52_1 (u : Nat) : XC.2 u 52 1 = some 1 := rfl
theorem rfC_52_2 (u : Nat) : XC.2 u 52 2 = some 53 := rfl
theorem rfC_52_3 (u : Nat) : XC.2 u 52 3 = some 59 := rfl
theorem rfC_52_4 (u : Nat) : XC.2 u 52 4 = some 65 := rfl
theorem rfC_66_0 (u : Nat) : XC.2 u 66 0 = some 3 := rfl
theorem rfC_66_1 (u : Nat) : XC.2 u 66 1 = some 42 := rfl
theorem rfC_66_2 (u : Nat) : XC.2 u 66 2 = some 67 := rfl
theorem rfC_68_0 (u : Nat) : XC.2 u 68 0 = some 3 := rfl
theorem rfC_68_1 (u : Nat) : XC.2 u 68 1 = some 42 := rfl
theorem rfC_68_2 (u : Nat) : XC.2 u 68 2 = some 69 := rfl
theorem rfC_70_1 (u : Nat) : XC.2 u 70 1 = some 71 := rfl
theorem rfC_72_0 (u : Nat) : XC.2 u 72 0 = some 73 := rfl
theorem rfC_75_0 (u : Nat) : XC.2 u 75 0 = some 76 := rfl
theorem rfC_77_4 (u : Nat) : XC.2 u 77 4 = some 3 := rfl
theorem rfC_77_5 (u : Nat) : XC.2 u 77 5 = some 78 := rfl
theorem rfC_77_6 (u : Nat) : XC.2 u 77 6 = some 79 := rfl
theorem rfC_77_7 (u : Nat) : XC.2 u 77 7 = some 80 := rfl
theorem rfC_77_8 (u : Nat) : XC.2 u 77 8 = some 81 := rfl
theorem rfC_77_9 (u : Nat) : XC.2 u 77 9 = some 82 := rfl
theorem rfC_83_3 (u : Nat) : XC.2 u 83 3 = some 3 := rfl
theorem rfC_83_4 (u : Nat) : XC.2 u 83 4 = some 66 := rfl
theorem rfC_84_0 (u : Nat) : XC.2 u 84 0 = some 3 := rfl
theorem rfC_84_1 (u : Nat) : XC.2 u 84 1 = some 66 := rfl
theorem rfC_84_2 (u : Nat) : XC.2 u 84 2 = some 85 := rfl
theorem rowC_5 {i : Int32} (hi : dIn i 7) : XC.1[6 + dI i]? = some (.inr (0, 5)) := by
  have h : ∀ j, j < 7 → shC[6 + j]? = some (.inr (0, 5)) := by decide +kernel
  exact h (dI i) (dI_lt hi)
theorem rrC_5 (u : Nat) {i : Int32} (hi : dIn i 7) : XC.2 u 5 (dI i) = some (6 + dI i) := by
  have h : dI i < 7 := dI_lt hi
  show (if dI i < 7 then some (6 + dI i) else none) = _
  rw [if_pos h]
theorem rowC_13 {i : Int32} (hi : dIn i 8) : XC.1[14 + dI i]? = some (.inr (0, 8)) := by
  have h : ∀ j, j < 8 → shC[14 + j]? = some (.inr (0, 8)) := by decide +kernel
  exact h (dI i) (dI_lt hi)
theorem rrC_13 (u : Nat) {i : Int32} (hi : dIn i 8) : XC.2 u 13 (dI i) = some (14 + dI i) := by
  have h : dI i < 8 := dI_lt hi
  show (if dI i < 8 then some (14 + dI i) else none) = _
  rw [if_pos h]
theorem rowC_24 {i : Int32} (hi : dIn i 7) : XC.1[25 + dI i]? = some (.inr (0, 5)) := by
  have h : ∀ j, j < 7 → shC[25 + j]? = some (.inr (0, 5)) := by decide +kernel
  exact h (dI i) (dI_lt hi)
theorem rrC_24 (u : Nat) {i : Int32} (hi : dIn i 7) : XC.2 u 24 (dI i) = some (25 + dI i) := by
  have h : dI i < 7 := dI_lt hi
  show (if dI i < 7 then some (25 + dI i) else none) = _
  rw [if_pos h]
theorem rowC_32 {i : Int32} (hi : dIn i 8) : XC.1[33 + dI i]? = some (.inr (0, 8)) := by
  have h : ∀ j, j < 8 → shC[33 + j]? = some (.inr (0, 8)) := by decide +kernel
  exact h (dI i) (dI_lt hi)
theorem rrC_32 (u : Nat) {i : Int32} (hi : dIn i 8) : XC.2 u 32 (dI i) = some (33 + dI i) := by
  have h : dI i < 8 := dI_lt hi
  show (if dI i < 8 then some (33 + dI i) else none) = _
  rw [if_pos h]
theorem rowC_44 {i : Int32} (hi : dIn i 5) : XC.1[45 + dI i]? = some (.inr (0, 240)) := by
  have h : ∀ j, j < 5 → shC[45 + j]? = some (.inr (0, 240)) := by decide +kernel
  exact h (dI i) (dI_lt hi)
theorem rrC_44 (u : Nat) {i : Int32} (hi : dIn i 5) : XC.2 u 44 (dI i) = some (45 + dI i) := by
  have h : dI i < 5 := dI_lt hi
  show (if dI i < 5 then some (45 + dI i) else none) = _
  rw [if_pos h]
theorem rowC_53 {i : Int32} (hi : dIn i 5) : XC.1[54 + dI i]? = some (.inr (0, 16)) := by
  have h : ∀ j, j < 5 → shC[54 + j]? = some (.inr (0, 16)) := by decide +kernel
  exact h (dI i) (dI_lt hi)
theorem rrC_53 (u : Nat) {i : Int32} (hi : dIn i 5) : XC.2 u 53 (dI i) = some (54 + dI i) := by
  have h : dI i < 5 := dI_lt hi
  show (if dI i < 5 then some (54 + dI i) else none) = _
  rw [if_pos h]
theorem rowC_59 {i : Int32} (hi : dIn i 5) : XC.1[60 + dI i]? = some (.inr (0, 16)) := by
  have h : ∀ j, j < 5 → shC[60 + j]? = some (.inr (0, 16)) := by decide +kernel
  exact h (dI i) (dI_lt hi)
theorem rrC_59 (u : Nat) {i : Int32} (hi : dIn i 5) : XC.2 u 59 (dI i) = some (60 + dI i) := by
  have h : dI i < 5 := dI_lt hi
  show (if dI i < 5 then some (60 + dI i) else none) = _
  rw [if_pos h]
def shM : List dS := [.inl 12, .inr (1, 240), .inr (1, 960), .inr (0, 4), .inr (0, 128), .inr (0, 3), .inr (0, 3), .inr (0, 35), .inr (0, 35), .inr (0, 160), .inr (0, 5), .inr (0, 209), .inr (0, 209), .inr (3, 8191), .inr (0, 8191), .inr (0, 8360), .inr (0, 232), .inr (0, 10), .inr (0, 10), .inr (0, 7), .inr (0, 7), .inr (2, 10), .inr (0, 7), .inr (0, 209)]
def rfM (t a k : Nat) : Option Nat := match a, k with
  | 0, 5 => some t
  | 0, 1 => some 1
  | 0, 2 => some 2
  | 0, 3 => some 3
  | 0, 4 => some 4
  | 0, 15 => some 2004
  | 0, 16 => some 2005
  | 0, 18 => some 5
  | 0, 19 => some 6
  | 0, 20 => some 7
  | 0, 21 => some 8
  | 0, 22 => some 9
  | 0, 23 => some 10
  | 0, 28 => some 11
  | 0, 29 => some 12
  | 0, 32 => some 13
  | 0, 33 => some 14
  | 0, 34 => some 15
  | 0, 37 => some 16
  | 0, 42 => some 17
  | 0, 43 => some 18
  | 0, 44 => some 19
  | 0, 45 => some 20
  | 0, 46 => some 21
  | 0, 52 => some 22
  | 0, 53 => some 23
  | _, _ => none
abbrev XM : dX := (shM, rfM)
theorem shM_0 : XM.1[0]? = some (.inl 12) := rfl
theorem shM_1 : XM.1[1]? = some (.inr (1, 240)) := rfl
theorem shM_2 : XM.1[2]? = some (.inr (1, 960)) := rfl
theorem shM_3 : XM.1[3]? = some (.inr (0, 4)) := rfl
theorem shM_4 : XM.1[4]? = some (.inr (0, 128)) := rfl
theorem shM_5 : XM.1[5]? = some (.inr (0, 3)) := rfl
theorem shM_6 : XM.1[6]? = some (.inr (0, 3)) := rfl
theorem shM_7 : XM.1[7]? = some (.inr (0, 35)) := rfl
theorem shM_8 : XM.1[8]? = some (.inr (0, 35)) := rfl
theorem shM_9 : XM.1[9]? = some (.inr (0, 160)) := rfl
theorem shM_10 : XM.1[10]? = some (.inr (0, 5)) := rfl
theorem shM_11 : XM.1[11]? = some (.inr (0, 209)) := rfl
theorem shM_12 : XM.1[12]? = some (.inr (0, 209)) := rfl
theorem shM_13 : XM.1[13]? = some (.inr (3, 8191)) := rfl
theorem shM_14 : XM.1[14]? = some (.inr (0, 8191)) := rfl
theorem shM_15 : XM.1[15]? = some (.inr (0, 8360)) := rfl
theorem shM_16 : XM.1[16]? = some (.inr (0, 232)) := rfl
theorem shM_17 : XM.1[17]? = some (.inr (0, 10)) := rfl
theorem shM_18 : XM.1[18]? = some (.inr (0, 10)) := rfl
theorem shM_19 : XM.1[19]? = some (.inr (0, 7)) := rfl
theorem shM_20 : XM.1[20]? = some (.inr (0, 7)) := rfl
theorem shM_21 : XM.1[21]? = some (.inr (2, 10)) := rfl
theorem shM_22 : XM.1[22]? = some (.inr (0, 7)) := rfl
theorem shM_23 : XM.1[23]? = some (.inr (0, 209)) := rfl
theorem rfM_0_1 (u : Nat) : XM.2 u 0 1 = some 1 := rfl
theorem rfM_0_2 (u : Nat) : XM.2 u 0 2 = some 2 := rfl
theorem rfM_0_3 (u : Nat) : XM.2 u 0 3 = some 3 := rfl
theorem rfM_0_4 (u : Nat) : XM.2 u 0 4 = some 4 := rfl
theorem rfM_0_15 (u : Nat) : XM.2 u 0 15 = some 2004 := rfl
theorem rfM_0_16 (u : Nat) : XM.2 u 0 16 = some 2005 := rfl
theorem rfM_0_18 (u : Nat) : XM.2 u 0 18 = some 5 := rfl
theorem rfM_0_19 (u : Nat) : XM.2 u 0 19 = some 6 := rfl
theorem rfM_0_20 (u : Nat) : XM.2 u 0 20 = some 7 := rfl
theorem rfM_0_21 (u : Nat) : XM.2 u 0 21 = some 8 := rfl
theorem rfM_0_22 (u : Nat) : XM.2 u 0 22 = some 9 := rfl
theorem rfM_0_23 (u : Nat) : XM.2 u 0 23 = some 10 := rfl
theorem rfM_0_28 (u : Nat) : XM.2 u 0 28 = some 11 := rfl
theorem rfM_0_29 (u : Nat) : XM.2 u 0 29 = some 12 := rfl
theorem rfM_0_32 (u : Nat) : XM.2 u 0 32 = some 13 := rfl
theorem rfM_0_33 (u : Nat) : XM.2 u 0 33 = some 14 := rfl
theorem rfM_0_34 (u : Nat) : XM.2 u 0 34 = some 15 := rfl
theorem rfM_0_37 (u : Nat) : XM.2 u 0 37 = some 16 := rfl
theorem rfM_0_42 (u : Nat) : XM.2 u 0 42 = some 17 := rfl
theorem rfM_0_43 (u : Nat) : XM.2 u 0 43 = some 18 := rfl
theorem rfM_0_44 (u : Nat) : XM.2 u 0 44 = some 19 := rfl
theorem rfM_0_45 (u : Nat) : XM.2 u 0 45 = some 20 := rfl
theorem rfM_0_46 (u : Nat) : XM.2 u 0 46 = some 21 := rfl
theorem rfM_0_52 (u : Nat) : XM.2 u 0 52 = some 22 := rfl
theorem rfM_0_53 (u : Nat) : XM.2 u 0 53 = some 23 := rfl
theorem rfM_0_5 (u : Nat) : XM.2 u 0 5 = some u := rfl
theorem anyX1 (t : Nat) (ht : XC.1[t]? = some (.inl 1)) : t = 3 ∨ t = 22 := by
  have h : ∀ t, t < 86 → shC[t]? = some (.inl 1) → t = 3 ∨ t = 22 := by decide +kernel
  exact h t (List.getElem?_eq_some_iff.mp ht).1 ht
theorem rfX1_0 (u : Nat) {t : Nat} (ht : XC.1[t]? = some (.inl 1)) : XC.2 u t 0 = some (t + 1) := by
  rcases anyX1 t ht with rfl | rfl <;> rfl
theorem shX1_0 {t : Nat} (ht : XC.1[t]? = some (.inl 1)) : XC.1[t + 1]? = some (.inr (0, 3)) := by
  rcases anyX1 t ht with rfl | rfl <;> rfl
theorem rfX1_1 (u : Nat) {t : Nat} (ht : XC.1[t]? = some (.inl 1)) : XC.2 u t 1 = some (t + 2) := by
  rcases anyX1 t ht with rfl | rfl <;> rfl
theorem shX1_1 {t : Nat} (ht : XC.1[t]? = some (.inl 1)) : XC.1[t + 2]? = some (.inr (4, 7)) := by
  rcases anyX1 t ht with rfl | rfl <;> rfl
theorem rowX1_1 {t : Nat} (ht : XC.1[t]? = some (.inl 1)) {i : Int32} (hi : dIn i 7) : XC.1[t + 3 + dI i]? = some (.inr (0, 5)) := by
  rcases anyX1 t ht with rfl | rfl
  · exact rowC_5 hi
  · exact rowC_24 hi
theorem rrX1_1 (u : Nat) {t : Nat} (ht : XC.1[t]? = some (.inl 1)) {i : Int32} (hi : dIn i 7) : XC.2 u (t + 2) (dI i) = some (t + 3 + dI i) := by
  rcases anyX1 t ht with rfl | rfl
  · exact rrC_5 u hi
  · exact rrC_24 u hi
theorem rfX1_3 (u : Nat) {t : Nat} (ht : XC.1[t]? = some (.inl 1)) : XC.2 u t 3 = some (t + 10) := by
  rcases anyX1 t ht with rfl | rfl <;> rfl
theorem shX1_3 {t : Nat} (ht : XC.1[t]? = some (.inl 1)) : XC.1[t + 10]? = some (.inr (4, 8)) := by
  rcases anyX1 t ht with rfl | rfl <;> rfl
theorem rowX1_3 {t : Nat} (ht : XC.1[t]? = some (.inl 1)) {i : Int32} (hi : dIn i 8) : XC.1[t + 11 + dI i]? = some (.inr (0, 8)) := by
  rcases anyX1 t ht with rfl | rfl
  · exact rowC_13 hi
  · exact rowC_32 hi
theorem rrX1_3 (u : Nat) {t : Nat} (ht : XC.1[t]? = some (.inl 1)) {i : Int32} (hi : dIn i 8) : XC.2 u (t + 10) (dI i) = some (t + 11 + dI i) := by
  rcases anyX1 t ht with rfl | rfl
  · exact rrC_13 u hi
  · exact rrC_32 u hi
theorem anyX8 (t : Nat) (ht : XC.1[t]? = some (.inl 8)) : t = 66 ∨ t = 68 := by
  have h : ∀ t, t < 86 → shC[t]? = some (.inl 8) → t = 66 ∨ t = 68 := by decide +kernel
  exact h t (List.getElem?_eq_some_iff.mp ht).1 ht
theorem rfX8_0 (u : Nat) {t : Nat} (ht : XC.1[t]? = some (.inl 8)) : XC.2 u t 0 = some 3 := by
  rcases anyX8 t ht with rfl | rfl <;> rfl
theorem rfX8_1 (u : Nat) {t : Nat} (ht : XC.1[t]? = some (.inl 8)) : XC.2 u t 1 = some 42 := by
  rcases anyX8 t ht with rfl | rfl <;> rfl
theorem rfX8_2 (u : Nat) {t : Nat} (ht : XC.1[t]? = some (.inl 8)) : XC.2 u t 2 = some (t + 1) := by
  rcases anyX8 t ht with rfl | rfl <;> rfl
theorem shX8_2 {t : Nat} (ht : XC.1[t]? = some (.inl 8)) : XC.1[t + 1]? = some (.inr (0, 28)) := by
  rcases anyX8 t ht with rfl | rfl <;> rfl
theorem anyX4 (t : Nat) (ht : XC.1[t]? = some (.inl 4)) : t = 72 ∨ t = 75 := by
  have h : ∀ t, t < 86 → shC[t]? = some (.inl 4) → t = 72 ∨ t = 75 := by decide +kernel
  exact h t (List.getElem?_eq_some_iff.mp ht).1 ht
theorem rfX4_0 (u : Nat) {t : Nat} (ht : XC.1[t]? = some (.inl 4)) : XC.2 u t 0 = some (t + 1) := by
  rcases anyX4 t ht with rfl | rfl <;> rfl
theorem shX4_0 {t : Nat} (ht : XC.1[t]? = some (.inl 4)) : XC.1[t + 1]? = some (.inr (0, 300)) := by
  rcases anyX4 t ht with rfl | rfl <;> rfl
theorem ic_m8 : Int32.ofInt (-8) = (-8 : Int32) := by decide
theorem ic_m1 : Int32.ofInt (-1) = (-1 : Int32) := by decide
theorem ic_0 : Int32.ofInt (0) = (0 : Int32) := by decide
theorem ic_1 : Int32.ofInt (1) = (1 : Int32) := by decide
theorem ic_2 : Int32.ofInt (2) = (2 : Int32) := by decide
theorem ic_3 : Int32.ofInt (3) = (3 : Int32) := by decide
theorem ic_4 : Int32.ofInt (4) = (4 : Int32) := by decide
theorem ic_5 : Int32.ofInt (5) = (5 : Int32) := by decide
theorem ic_6 : Int32.ofInt (6) = (6 : Int32) := by decide
theorem bp_m124 : (Int8.ofInt (-124)).toInt32 = (-124 : Int32) := by decide
theorem bp_m100 : (Int8.ofInt (-100)).toInt32 = (-100 : Int32) := by decide
theorem bp_m63 : (Int8.ofInt (-63)).toInt32 = (-63 : Int32) := by decide
theorem bp_m59 : (Int8.ofInt (-59)).toInt32 = (-59 : Int32) := by decide
theorem bp_m38 : (Int8.ofInt (-38)).toInt32 = (-38 : Int32) := by decide
theorem bp_m33 : (Int8.ofInt (-33)).toInt32 = (-33 : Int32) := by decide
theorem bp_m2 : (Int8.ofInt (-2)).toInt32 = (-2 : Int32) := by decide
theorem bp_6 : (Int8.ofInt (6)).toInt32 = (6 : Int32) := by decide
theorem bp_7 : (Int8.ofInt (7)).toInt32 = (7 : Int32) := by decide
theorem bp_8 : (Int8.ofInt (8)).toInt32 = (8 : Int32) := by decide
theorem bp_9 : (Int8.ofInt (9)).toInt32 = (9 : Int32) := by decide
theorem bp_10 : (Int8.ofInt (10)).toInt32 = (10 : Int32) := by decide
theorem bp_14 : (Int8.ofInt (14)).toInt32 = (14 : Int32) := by decide
theorem bp_15 : (Int8.ofInt (15)).toInt32 = (15 : Int32) := by decide
theorem bp_16 : (Int8.ofInt (16)).toInt32 = (16 : Int32) := by decide
theorem bp_21 : (Int8.ofInt (21)).toInt32 = (21 : Int32) := by decide
theorem bp_22 : (Int8.ofInt (22)).toInt32 = (22 : Int32) := by decide
theorem bp_23 : (Int8.ofInt (23)).toInt32 = (23 : Int32) := by decide
theorem bp_24 : (Int8.ofInt (24)).toInt32 = (24 : Int32) := by decide
theorem bp_25 : (Int8.ofInt (25)).toInt32 = (25 : Int32) := by decide
theorem bp_26 : (Int8.ofInt (26)).toInt32 = (26 : Int32) := by decide
theorem bp_27 : (Int8.ofInt (27)).toInt32 = (27 : Int32) := by decide
theorem bp_28 : (Int8.ofInt (28)).toInt32 = (28 : Int32) := by decide
theorem bp_29 : (Int8.ofInt (29)).toInt32 = (29 : Int32) := by decide
theorem bp_30 : (Int8.ofInt (30)).toInt32 = (30 : Int32) := by decide
theorem bp_32 : (Int8.ofInt (32)).toInt32 = (32 : Int32) := by decide
theorem bp_33 : (Int8.ofInt (33)).toInt32 = (33 : Int32) := by decide
theorem bp_35 : (Int8.ofInt (35)).toInt32 = (35 : Int32) := by decide
theorem bp_38 : (Int8.ofInt (38)).toInt32 = (38 : Int32) := by decide
theorem bp_39 : (Int8.ofInt (39)).toInt32 = (39 : Int32) := by decide
theorem bp_40 : (Int8.ofInt (40)).toInt32 = (40 : Int32) := by decide
theorem bp_41 : (Int8.ofInt (41)).toInt32 = (41 : Int32) := by decide
theorem bp_42 : (Int8.ofInt (42)).toInt32 = (42 : Int32) := by decide
theorem bp_43 : (Int8.ofInt (43)).toInt32 = (43 : Int32) := by decide
theorem bp_45 : (Int8.ofInt (45)).toInt32 = (45 : Int32) := by decide
theorem bp_47 : (Int8.ofInt (47)).toInt32 = (47 : Int32) := by decide
theorem bp_48 : (Int8.ofInt (48)).toInt32 = (48 : Int32) := by decide
theorem bp_57 : (Int8.ofInt (57)).toInt32 = (57 : Int32) := by decide
theorem bp_58 : (Int8.ofInt (58)).toInt32 = (58 : Int32) := by decide
theorem bp_59 : (Int8.ofInt (59)).toInt32 = (59 : Int32) := by decide
theorem bp_60 : (Int8.ofInt (60)).toInt32 = (60 : Int32) := by decide
theorem bp_61 : (Int8.ofInt (61)).toInt32 = (61 : Int32) := by decide
theorem bp_62 : (Int8.ofInt (62)).toInt32 = (62 : Int32) := by decide
theorem bp_63 : (Int8.ofInt (63)).toInt32 = (63 : Int32) := by decide
theorem bp_64 : (Int8.ofInt (64)).toInt32 = (64 : Int32) := by decide
theorem bp_91 : (Int8.ofInt (91)).toInt32 = (91 : Int32) := by decide
theorem bp_93 : (Int8.ofInt (93)).toInt32 = (93 : Int32) := by decide
theorem bp_100 : (Int8.ofInt (100)).toInt32 = (100 : Int32) := by decide
theorem bp_104 : (Int8.ofInt (104)).toInt32 = (104 : Int32) := by decide
theorem bp_107 : (Int8.ofInt (107)).toInt32 = (107 : Int32) := by decide
theorem bp_110 : (Int8.ofInt (110)).toInt32 = (110 : Int32) := by decide
theorem bp_111 : (Int8.ofInt (111)).toInt32 = (111 : Int32) := by decide
theorem bp_112 : (Int8.ofInt (112)).toInt32 = (112 : Int32) := by decide
theorem bp_115 : (Int8.ofInt (115)).toInt32 = (115 : Int32) := by decide
theorem bp_116 : (Int8.ofInt (116)).toInt32 = (116 : Int32) := by decide
theorem bp_118 : (Int8.ofInt (118)).toInt32 = (118 : Int32) := by decide
theorem bp_121 : (Int8.ofInt (121)).toInt32 = (121 : Int32) := by decide
theorem bp_124 : (Int8.ofInt (124)).toInt32 = (124 : Int32) := by decide
theorem sp_128 : (Int16.ofInt (128)).toInt32 = (128 : Int32) := by decide
theorem sp_160 : (Int16.ofInt (160)).toInt32 = (160 : Int32) := by decide
theorem sp_177 : (Int16.ofInt (177)).toInt32 = (177 : Int32) := by decide
theorem sp_209 : (Int16.ofInt (209)).toInt32 = (209 : Int32) := by decide
theorem sp_232 : (Int16.ofInt (232)).toInt32 = (232 : Int32) := by decide
theorem sp_240 : (Int16.ofInt (240)).toInt32 = (240 : Int32) := by decide
theorem sp_255 : (Int16.ofInt (255)).toInt32 = (255 : Int32) := by decide
theorem sp_300 : (Int16.ofInt (300)).toInt32 = (300 : Int32) := by decide
theorem sp_960 : (Int16.ofInt (960)).toInt32 = (960 : Int32) := by decide
theorem sp_999 : (Int16.ofInt (999)).toInt32 = (999 : Int32) := by decide
theorem sp_1000 : (Int16.ofInt (1000)).toInt32 = (1000 : Int32) := by decide
theorem sp_1120 : (Int16.ofInt (1120)).toInt32 = (1120 : Int32) := by decide
theorem sp_8151 : (Int16.ofInt (8151)).toInt32 = (8151 : Int32) := by decide
theorem sp_8191 : (Int16.ofInt (8191)).toInt32 = (8191 : Int32) := by decide
theorem sp_8360 : (Int16.ofInt (8360)).toInt32 = (8360 : Int32) := by decide
theorem sp_9999 : (Int16.ofInt (9999)).toInt32 = (9999 : Int32) := by decide
theorem di_0 : dI (0 : Int32) = 0 := by decide
theorem di_1 : dI (1 : Int32) = 1 := by decide
theorem di_2 : dI (2 : Int32) = 2 := by decide
theorem di_3 : dI (3 : Int32) = 3 := by decide
theorem di_4 : dI (4 : Int32) = 4 := by decide
theorem di_5 : dI (5 : Int32) = 5 := by decide
theorem di_6 : dI (6 : Int32) = 6 := by decide
theorem di_7 : dI (7 : Int32) = 7 := by decide
theorem di_8 : dI (8 : Int32) = 8 := by decide
theorem di_9 : dI (9 : Int32) = 9 := by decide
theorem di_10 : dI (10 : Int32) = 10 := by decide
theorem di_11 : dI (11 : Int32) = 11 := by decide
theorem di_12 : dI (12 : Int32) = 12 := by decide
theorem di_13 : dI (13 : Int32) = 13 := by decide
theorem di_14 : dI (14 : Int32) = 14 := by decide
theorem di_15 : dI (15 : Int32) = 15 := by decide
theorem di_16 : dI (16 : Int32) = 16 := by decide
theorem di_17 : dI (17 : Int32) = 17 := by decide
theorem di_18 : dI (18 : Int32) = 18 := by decide
theorem di_19 : dI (19 : Int32) = 19 := by decide
theorem di_20 : dI (20 : Int32) = 20 := by decide
theorem di_21 : dI (21 : Int32) = 21 := by decide
theorem di_22 : dI (22 : Int32) = 22 := by decide
theorem di_23 : dI (23 : Int32) = 23 := by decide
theorem di_24 : dI (24 : Int32) = 24 := by decide
theorem di_25 : dI (25 : Int32) = 25 := by decide
theorem di_26 : dI (26 : Int32) = 26 := by decide
theorem di_27 : dI (27 : Int32) = 27 := by decide
theorem di_28 : dI (28 : Int32) = 28 := by decide
theorem di_29 : dI (29 : Int32) = 29 := by decide
theorem di_30 : dI (30 : Int32) = 30 := by decide
theorem di_31 : dI (31 : Int32) = 31 := by decide
theorem di_32 : dI (32 : Int32) = 32 := by decide
theorem di_33 : dI (33 : Int32) = 33 := by decide
theorem di_34 : dI (34 : Int32) = 34 := by decide
theorem di_35 : dI (35 : Int32) = 35 := by decide
theorem di_36 : dI (36 : Int32) = 36 := by decide
theorem di_37 : dI (37 : Int32) = 37 := by decide
theorem di_38 : dI (38 : Int32) = 38 := by decide
theorem di_39 : dI (39 : Int32) = 39 := by decide
theorem di_40 : dI (40 : Int32) = 40 := by decide
theorem di_41 : dI (41 : Int32) = 41 := by decide
theorem di_42 : dI (42 : Int32) = 42 := by decide
theorem di_43 : dI (43 : Int32) = 43 := by decide
theorem di_44 : dI (44 : Int32) = 44 := by decide
theorem di_45 : dI (45 : Int32) = 45 := by decide
theorem di_46 : dI (46 : Int32) = 46 := by decide
theorem di_47 : dI (47 : Int32) = 47 := by decide
theorem di_48 : dI (48 : Int32) = 48 := by decide
theorem di_49 : dI (49 : Int32) = 49 := by decide
theorem di_50 : dI (50 : Int32) = 50 := by decide
theorem di_51 : dI (51 : Int32) = 51 := by decide
theorem di_52 : dI (52 : Int32) = 52 := by decide
theorem di_53 : dI (53 : Int32) = 53 := by decide
theorem di_54 : dI (54 : Int32) = 54 := by decide
theorem di_55 : dI (55 : Int32) = 55 := by decide
theorem di_56 : dI (56 : Int32) = 56 := by decide
theorem di_57 : dI (57 : Int32) = 57 := by decide
theorem di_58 : dI (58 : Int32) = 58 := by decide
theorem di_59 : dI (59 : Int32) = 59 := by decide
theorem di_60 : dI (60 : Int32) = 60 := by decide
theorem di_61 : dI (61 : Int32) = 61 := by decide
theorem di_62 : dI (62 : Int32) = 62 := by decide
theorem di_63 : dI (63 : Int32) = 63 := by decide
theorem di_64 : dI (64 : Int32) = 64 := by decide
theorem di_65 : dI (65 : Int32) = 65 := by decide
theorem di_66 : dI (66 : Int32) = 66 := by decide
theorem di_67 : dI (67 : Int32) = 67 := by decide
theorem di_68 : dI (68 : Int32) = 68 := by decide
theorem di_69 : dI (69 : Int32) = 69 := by decide
theorem di_70 : dI (70 : Int32) = 70 := by decide
theorem di_71 : dI (71 : Int32) = 71 := by decide
theorem di_72 : dI (72 : Int32) = 72 := by decide
theorem di_73 : dI (73 : Int32) = 73 := by decide
theorem di_74 : dI (74 : Int32) = 74 := by decide
theorem di_75 : dI (75 : Int32) = 75 := by decide
theorem di_76 : dI (76 : Int32) = 76 := by decide
theorem di_77 : dI (77 : Int32) = 77 := by decide
theorem di_78 : dI (78 : Int32) = 78 := by decide
theorem di_79 : dI (79 : Int32) = 79 := by decide
theorem di_80 : dI (80 : Int32) = 80 := by decide
theorem di_81 : dI (81 : Int32) = 81 := by decide
theorem di_82 : dI (82 : Int32) = 82 := by decide
theorem di_83 : dI (83 : Int32) = 83 := by decide
theorem di_84 : dI (84 : Int32) = 84 := by decide
theorem di_85 : dI (85 : Int32) = 85 := by decide
theorem di_86 : dI (86 : Int32) = 86 := by decide
theorem di_87 : dI (87 : Int32) = 87 := by decide
theorem di_88 : dI (88 : Int32) = 88 := by decide
theorem di_89 : dI (89 : Int32) = 89 := by decide
theorem di_90 : dI (90 : Int32) = 90 := by decide
theorem di_91 : dI (91 : Int32) = 91 := by decide
theorem di_92 : dI (92 : Int32) = 92 := by decide
theorem di_93 : dI (93 : Int32) = 93 := by decide
theorem di_94 : dI (94 : Int32) = 94 := by decide
theorem di_95 : dI (95 : Int32) = 95 := by decide
theorem di_96 : dI (96 : Int32) = 96 := by decide
theorem di_97 : dI (97 : Int32) = 97 := by decide
theorem di_98 : dI (98 : Int32) = 98 := by decide
theorem di_99 : dI (99 : Int32) = 99 := by decide
theorem di_100 : dI (100 : Int32) = 100 := by decide
theorem di_101 : dI (101 : Int32) = 101 := by decide
theorem di_102 : dI (102 : Int32) = 102 := by decide
theorem di_103 : dI (103 : Int32) = 103 := by decide
theorem di_104 : dI (104 : Int32) = 104 := by decide
theorem di_105 : dI (105 : Int32) = 105 := by decide
theorem di_106 : dI (106 : Int32) = 106 := by decide
theorem di_107 : dI (107 : Int32) = 107 := by decide
theorem di_108 : dI (108 : Int32) = 108 := by decide
theorem di_109 : dI (109 : Int32) = 109 := by decide
theorem di_110 : dI (110 : Int32) = 110 := by decide
theorem di_111 : dI (111 : Int32) = 111 := by decide
theorem di_112 : dI (112 : Int32) = 112 := by decide
theorem di_113 : dI (113 : Int32) = 113 := by decide
theorem di_114 : dI (114 : Int32) = 114 := by decide
theorem di_115 : dI (115 : Int32) = 115 := by decide
theorem di_116 : dI (116 : Int32) = 116 := by decide
theorem di_117 : dI (117 : Int32) = 117 := by decide
theorem di_118 : dI (118 : Int32) = 118 := by decide
theorem di_119 : dI (119 : Int32) = 119 := by decide
theorem di_120 : dI (120 : Int32) = 120 := by decide
theorem di_121 : dI (121 : Int32) = 121 := by decide
theorem di_122 : dI (122 : Int32) = 122 := by decide
theorem di_123 : dI (123 : Int32) = 123 := by decide
theorem di_124 : dI (124 : Int32) = 124 := by decide
theorem di_125 : dI (125 : Int32) = 125 := by decide
theorem di_126 : dI (126 : Int32) = 126 := by decide
theorem di_127 : dI (127 : Int32) = 127 := by decide
theorem di_128 : dI (128 : Int32) = 128 := by decide
theorem di_129 : dI (129 : Int32) = 129 := by decide
theorem di_130 : dI (130 : Int32) = 130 := by decide
theorem di_131 : dI (131 : Int32) = 131 := by decide
theorem di_132 : dI (132 : Int32) = 132 := by decide
theorem di_133 : dI (133 : Int32) = 133 := by decide
theorem di_134 : dI (134 : Int32) = 134 := by decide
theorem di_135 : dI (135 : Int32) = 135 := by decide
theorem di_136 : dI (136 : Int32) = 136 := by decide
theorem di_137 : dI (137 : Int32) = 137 := by decide
theorem di_138 : dI (138 : Int32) = 138 := by decide
theorem di_139 : dI (139 : Int32) = 139 := by decide
theorem di_140 : dI (140 : Int32) = 140 := by decide
theorem di_141 : dI (141 : Int32) = 141 := by decide
theorem di_142 : dI (142 : Int32) = 142 := by decide
theorem di_143 : dI (143 : Int32) = 143 := by decide
theorem di_144 : dI (144 : Int32) = 144 := by decide
theorem di_145 : dI (145 : Int32) = 145 := by decide
theorem di_146 : dI (146 : Int32) = 146 := by decide
theorem di_147 : dI (147 : Int32) = 147 := by decide
theorem di_148 : dI (148 : Int32) = 148 := by decide
theorem di_149 : dI (149 : Int32) = 149 := by decide
theorem di_150 : dI (150 : Int32) = 150 := by decide
theorem di_151 : dI (151 : Int32) = 151 := by decide
theorem di_152 : dI (152 : Int32) = 152 := by decide
theorem di_153 : dI (153 : Int32) = 153 := by decide
theorem di_154 : dI (154 : Int32) = 154 := by decide
theorem di_155 : dI (155 : Int32) = 155 := by decide
theorem di_156 : dI (156 : Int32) = 156 := by decide
theorem di_157 : dI (157 : Int32) = 157 := by decide
theorem di_158 : dI (158 : Int32) = 158 := by decide
theorem di_159 : dI (159 : Int32) = 159 := by decide
theorem di_160 : dI (160 : Int32) = 160 := by decide
theorem di_161 : dI (161 : Int32) = 161 := by decide
theorem di_162 : dI (162 : Int32) = 162 := by decide
theorem di_163 : dI (163 : Int32) = 163 := by decide
theorem di_164 : dI (164 : Int32) = 164 := by decide
theorem di_165 : dI (165 : Int32) = 165 := by decide
theorem di_166 : dI (166 : Int32) = 166 := by decide
theorem di_167 : dI (167 : Int32) = 167 := by decide
theorem di_168 : dI (168 : Int32) = 168 := by decide
theorem di_169 : dI (169 : Int32) = 169 := by decide
theorem di_170 : dI (170 : Int32) = 170 := by decide
theorem di_171 : dI (171 : Int32) = 171 := by decide
theorem di_172 : dI (172 : Int32) = 172 := by decide
theorem di_173 : dI (173 : Int32) = 173 := by decide
theorem di_174 : dI (174 : Int32) = 174 := by decide
theorem di_175 : dI (175 : Int32) = 175 := by decide
theorem di_176 : dI (176 : Int32) = 176 := by decide
theorem di_177 : dI (177 : Int32) = 177 := by decide
theorem di_178 : dI (178 : Int32) = 178 := by decide
theorem di_179 : dI (179 : Int32) = 179 := by decide
theorem di_180 : dI (180 : Int32) = 180 := by decide
theorem di_181 : dI (181 : Int32) = 181 := by decide
theorem di_182 : dI (182 : Int32) = 182 := by decide
theorem di_183 : dI (183 : Int32) = 183 := by decide
theorem di_184 : dI (184 : Int32) = 184 := by decide
theorem di_185 : dI (185 : Int32) = 185 := by decide
theorem di_186 : dI (186 : Int32) = 186 := by decide
theorem di_187 : dI (187 : Int32) = 187 := by decide
theorem di_188 : dI (188 : Int32) = 188 := by decide
theorem di_189 : dI (189 : Int32) = 189 := by decide
theorem di_190 : dI (190 : Int32) = 190 := by decide
theorem di_191 : dI (191 : Int32) = 191 := by decide
theorem di_192 : dI (192 : Int32) = 192 := by decide
theorem di_193 : dI (193 : Int32) = 193 := by decide
theorem di_194 : dI (194 : Int32) = 194 := by decide
theorem di_195 : dI (195 : Int32) = 195 := by decide
theorem di_196 : dI (196 : Int32) = 196 := by decide
theorem di_197 : dI (197 : Int32) = 197 := by decide
theorem di_198 : dI (198 : Int32) = 198 := by decide
theorem di_199 : dI (199 : Int32) = 199 := by decide
theorem di_200 : dI (200 : Int32) = 200 := by decide
theorem di_201 : dI (201 : Int32) = 201 := by decide
theorem di_202 : dI (202 : Int32) = 202 := by decide
theorem di_203 : dI (203 : Int32) = 203 := by decide
theorem di_204 : dI (204 : Int32) = 204 := by decide
theorem di_205 : dI (205 : Int32) = 205 := by decide
theorem di_206 : dI (206 : Int32) = 206 := by decide
theorem di_207 : dI (207 : Int32) = 207 := by decide
theorem di_208 : dI (208 : Int32) = 208 := by decide
theorem di_209 : dI (209 : Int32) = 209 := by decide
theorem bi01 (b : Bool) : bi b = 0 ∨ bi b = 1 := by cases b <;> simp [bi]
theorem nar_bi (b : Bool) : narrow .boolean (.int (bi b)) = .int (bi b) := by cases b <;> rfl
def dFu : Nat := 20000
section BE
variable {α : Type} {X : dX} {D : Nat} {own : String} {cc : ByteArray} {nL : Nat} {rt : Option FieldType} {φ : α → Option Value × dH} {pc : Nat} {ls st : List Value} {h : dH} {o : Option α}
/-- the text names a heap, a number -/
theorem B_lh {E : dH} {f : dH → Option α} (K : ∀ h1 : dH, B X D own cc nL rt φ pc ls st h1 (f h1)) : B X D own cc nL rt φ pc ls st E ((some E).bind f) := K E
theorem B_lv {v : Int32} {f : Int32 → Option α} (K : ∀ v1 : Int32, B X D own cc nL rt φ pc ls (.int v1 :: st) h (f v1)) : B X D own cc nL rt φ pc ls (.int v :: st) h ((some v).bind f) := K v
theorem B_lj {v : Int64} {f : Int64 → Option α} (K : ∀ v1 : Int64, B X D own cc nL rt φ pc ls (.long v1 :: st) h (f v1)) : B X D own cc nL rt φ pc ls (.long v :: st) h ((some v).bind f) := K v
theorem B_lb {v : Bool} {f : Bool → Option α} (K : ∀ v1 : Bool, B X D own cc nL rt φ pc ls (.int (bi v1) :: st) h (f v1)) : B X D own cc nL rt φ pc ls (.int (bi v) :: st) h ((some v).bind f) := K v
theorem B_at0 (f : Int32 → Option α) {i : Int32} {a n j : Nat} (hd : decode cc pc = .ok (.iaload, 1)) (hs : X.1[a]? = some (.inr (0, n))) (hin : dIn i n) (hj : dI i = j) (K : B X D own cc nL rt φ (pc + 1) ls (.int (h.1 a j) :: st) h o) : B X D own cc nL rt φ pc ls (.int i :: .ref a :: st) h o := B_iald hd hs hin (by rw [hj]; exact K)
theorem L_iald {i : Int32} {a n j : Nat} (hd : decode cc pc = .ok (.iaload, 1)) (hs : X.1[a]? = some (.inr (0, n))) (hin : dIn i n) (hj : dI i = j) (K : B X D own cc nL rt φ (pc + 1) ls (.int (h.1 a j) :: st) h o) : B X D own cc nL rt φ pc ls (.int i :: .ref a :: st) h o := B_iald hd hs hin (by rw [hj]; exact K)
theorem L_iast {a n j : Nat} {i v : Int32} (hd : decode cc pc = .ok (.iastore, 1)) (hs : X.1[a]? = some (.inr (0, n))) (hin : dIn i n) (hj : dI i = j) (K : B X D own cc nL rt φ (pc + 1) ls st (dPut h a j v) o) : B X D own cc nL rt φ pc ls (.int v :: .int i :: .ref a :: st) h o := B_iast hd hs hin (by rw [hj]; exact K)
end BE
