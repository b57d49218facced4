/-! PURE: ITEMS of a CLAUSE -/
theorem sfind_sp (s : Int32) : ∀ (l : List Int32) (k : Nat), sfindF s l k = -1 ∨ ∃ j, j < l.length ∧ sfindF s l k = Int32.ofNat (k + j) ∧ s ∈ l := by
  intro l
  induction l with
  | nil => intro k; exact Or.inl rfl
  | cons b l ih =>
    intro k
    show (if b = s then Int32.ofNat k else sfindF s l (k + 1)) = -1 ∨ ∃ j, j < (b :: l).length ∧ (if b = s then Int32.ofNat k else sfindF s l (k + 1)) = Int32.ofNat (k + j) ∧ s ∈ b :: l
    by_cases q : b = s
    · rw [if_pos q]
      exact Or.inr ⟨0, Nat.zero_lt_succ _, rfl, by rw [q]; exact List.mem_cons_self⟩
    · rw [if_neg q]
      rcases ih (k + 1) with h | ⟨j, h1, h2, h3⟩
      · exact Or.inl h
      · exact Or.inr ⟨j + 1, by show j + 1 < l.length + 1; omega, by rw [h2]; congr 1; omega, List.mem_cons_of_mem _ h3⟩
/-- a kind of CLAUSE: its texts, its tables, where it goes -/
def IK (ks ks' lo hi len : Nat) (kind : Int32) (LO HI : Nat → Int) : Prop := (stx ks).length = len ∧ stx ks' = stx ks ∧ (1 ≤ len ∧ len ≤ 5) ∧ zln lo = len ∧ zln hi = len ∧ (∀ s ∈ stx ks, s ≠ -1 ∧ s ≠ 59) ∧ (∀ k, k < len → (dSt0 (1000 + lo) k).toInt = LO k ∧ (dSt0 (1000 + hi) k).toInt = HI k ∧ ∀ h : dH, f_X12_leastOf kind (Int32.ofNat k) h = dSt0 (1000 + lo) k ∧ f_X12_mostOf kind (Int32.ofNat k) h = dSt0 (1000 + hi) k)
def LOs (k : Nat) : Int := if k < 2 then 1 else 0
def HIs (k : Nat) : Int := if k < 2 then 60 else 9
def LOp (_k : Nat) : Int := 0
def HIp (k : Nat) : Int := if k = 2 then 3 else if k = 4 then 30 else 9
theorem IK_s : IK 0 6 0 1 3 115 LOs HIs := by
  refine ⟨rfl, rfl, by decide, rfl, rfl, by decide, fun k hk => ?_⟩
  rcases (show k = 0 ∨ k = 1 ∨ k = 2 by omega) with rfl | rfl | rfl <;> exact ⟨by decide, by decide, fun h => ⟨rfl, rfl⟩⟩
theorem IK_p : IK 1 7 3 4 5 112 LOp HIp := by
  refine ⟨rfl, rfl, by decide, rfl, rfl, by decide, fun k hk => ?_⟩
  rcases (show k = 0 ∨ k = 1 ∨ k = 2 ∨ k = 3 ∨ k = 4 by omega) with rfl | rfl | rfl | rfl | rfl <;> exact ⟨by decide, by decide, fun h => ⟨rfl, rfl⟩⟩
theorem all_told {x : Int32} {len : Nat} (hl : len ≤ 5) (hz : ∀ q, len ≤ q → q < 7 → bI x q = false) (hc : cnt x = len) : ∀ q, q < len → bI x q = true := by
  have h0 := Bool.toNat_le (bI x 0)
  have h1 := Bool.toNat_le (bI x 1)
  have h2 := Bool.toNat_le (bI x 2)
  have h3 := Bool.toNat_le (bI x 3)
  have h4 := Bool.toNat_le (bI x 4)
  have t : ∀ b : Bool, b.toNat = 1 → b = true := by decide
  have f : ∀ b : Bool, b = false → b.toNat = 0 := by decide
  intro q hq
  apply t
  unfold cnt at hc
  rcases (show len = 1 ∨ len = 2 ∨ len = 3 ∨ len = 4 ∨ len = 5 by omega) with rfl | rfl | rfl | rfl | rfl
  · have z1 := f _ (hz 1 (by omega) (by omega)); have z2 := f _ (hz 2 (by omega) (by omega)); have z3 := f _ (hz 3 (by omega) (by omega)); have z4 := f _ (hz 4 (by omega) (by omega)); have z5 := f _ (hz 5 (by omega) (by omega)); have z6 := f _ (hz 6 (by omega) (by omega))
    rcases (show q = 0 by omega) with rfl; omega
  · have z2 := f _ (hz 2 (by omega) (by omega)); have z3 := f _ (hz 3 (by omega) (by omega)); have z4 := f _ (hz 4 (by omega) (by omega)); have z5 := f _ (hz 5 (by omega) (by omega)); have z6 := f _ (hz 6 (by omega) (by omega))
    rcases (show q = 0 ∨ q = 1 by omega) with rfl | rfl <;> omega
  · have z3 := f _ (hz 3 (by omega) (by omega)); have z4 := f _ (hz 4 (by omega) (by omega)); have z5 := f _ (hz 5 (by omega) (by omega)); have z6 := f _ (hz 6 (by omega) (by omega))
    rcases (show q = 0 ∨ q = 1 ∨ q = 2 by omega) with rfl | rfl | rfl <;> omega
  · have z4 := f _ (hz 4 (by omega) (by omega)); have z5 := f _ (hz 5 (by omega) (by omega)); have z6 := f _ (hz 6 (by omega) (by omega))
    rcases (show q = 0 ∨ q = 1 ∨ q = 2 ∨ q = 3 by omega) with rfl | rfl | rfl | rfl <;> omega
  · have z5 := f _ (hz 5 (by omega) (by omega)); have z6 := f _ (hz 6 (by omega) (by omega))
    rcases (show q = 0 ∨ q = 1 ∨ q = 2 ∨ q = 3 ∨ q = 4 by omega) with rfl | rfl | rfl | rfl | rfl <;> omega
section IT
variable {c d : dH} {B : Nat → Nat} {L i ks ks' lo hi len into to base nnM : Nat} {x y kind bI_ : Int32} {LO HI : Nat → Int}
def IR (into to base len : Nat) (LO HI : Nat → Int) (c d : dH) : Prop := ∀ k, k < len → c.1 into k = d.1 to (base + k) ∧ LO k ≤ (c.1 into k).toInt ∧ (c.1 into k).toInt ≤ HI k
/-- how a CLAUSE ends: well; with a letter too many; wrong -/
def Oc (B : Nat → Nat) (L : Nat) (G : Prop) (ok : Bool) (j : Nat) (d' : dH) : Prop := (ok = true ∧ d'.1 0 11 = -1 ∧ (d'.1 0 10).toInt = pS B L j ∧ G) ∨ (ok = true ∧ d'.1 0 11 = Int32.ofNat (pS B L j) ∧ sg B L (pS B L j) ≠ -1 ∧ sg B L (pS B L j) ≠ 59) ∨ (ok = false ∧ d'.1 0 11 = Int32.ofNat j)
theorem lp_items (I : IK ks ks' lo hi len kind LO HI) (hinto : 4 < into ∧ into < 1000) (hto : 2 < to) (hb : bI_.toInt = base) (hbn : base + len ≤ nnM) (hnn : nnM ≤ 1000) : ∀ (m n nf nf2 i : Nat) (told y : Int32) (c d : dH), n + m = len → m < nf → m + 1 < nf2 → y.toInt = n → cnt told = n → (∀ q, len ≤ q → q < 7 → bI told q = false) → PC c B L → PM d B L → dXt c → (c.1 1 2).toInt = i → i ≤ L → (d.1 0 10).toInt = pS B L i → d.1 0 11 = -1 → IR into to base len LO HI c d →
    ∃ (ok : Bool) (j : Nat) (c' d' : dH), f_X2_readItems_L6 ks lo hi into len nf told y c = some (ok, c') ∧ f_X12_readItems_L45 to nnM ks' nf2 kind bI_ told (f_X12_spotOf ks' (sg B L (pS B L i))) d = some d' ∧ (c'.1 1 2).toInt = j ∧ j ≤ L ∧ (∀ a k, ¬ (a = 1 ∧ (k = 2 ∨ k = 3)) → a ≠ into → c'.1 a k = c.1 a k) ∧ (∀ a k, ¬ (a = 0 ∧ (k = 10 ∨ k = 11)) → ¬ (a = to ∧ base ≤ k ∧ k < base + len) → d'.1 a k = d.1 a k) ∧ d'.2 = d.2 ∧ Oc B L (IR into to base len LO HI c' d') ok j d' := by
  obtain ⟨I1, I2, I3, I4, I5, I6, I7⟩ := I
  intro m
  have esl : (sln ks).toInt = len := by unfold sln; rw [I1, i_ofNat (by omega)]
  have esp : ∀ s, f_X11_placeIn ks s = f_X12_spotOf ks' s := fun s => by unfold f_X11_placeIn f_X12_spotOf; rw [I2]
  have spt : ∀ s, f_X12_spotOf ks' s = -1 ∨ ∃ j, j < len ∧ f_X12_spotOf ks' s = Int32.ofNat j ∧ s ≠ -1 ∧ s ≠ 59 := fun s => by
    unfold f_X12_spotOf
    rw [I2]
    rcases sfind_sp s (stx ks) 0 with h | ⟨j, h1, h2, h3⟩
    · exact Or.inl h
    · exact Or.inr ⟨j, by omega, by rw [h2, Nat.zero_add], I6 s h3⟩
  induction m with
  | zero =>
    intro n nf nf2 i told y c d hm hnf hnf2 hy hct hbz Pc Pd X hI hL hj hf IRc
    obtain ⟨nf, rfl⟩ : ∃ z, nf = z + 1 := ⟨nf - 1, by omega⟩
    obtain ⟨nf2, rfl⟩ : ∃ z, nf2 = z + 1 := ⟨nf2 - 1, by omega⟩
    have hP := Pc.2.1
    have pl := pS_le (B := B) hL hP
    rw [f_X2_readItems_L6, f_X12_readItems_L45, if_neg (show ¬ y < sln ks by rw [i_lt, esl]; omega)]
    rcases spt (sg B L (pS B L i)) with v1 | ⟨j, j1, j2, j3, j4⟩
    · rw [v1, if_pos rfl]
      exact ⟨true, i, c, d, rfl, rfl, hI, hL, fun _ _ _ _ => rfl, fun _ _ _ _ => rfl, rfl, Or.inl ⟨rfl, hf, hj, IRc⟩⟩
    · have hne : ¬ Int32.ofNat j = -1 := fun z => by rw [i_eq, i_ofNat (by omega), tm1] at z; omega
      have hh : f_X12_has told (Int32.ofNat j) d = true := by
        rw [has_isIn told (Int32.ofNat j) d d, isIn_b told d (by omega)]
        exact all_told I3.2 hbz (by omega) j j1
      rw [j2, if_neg hne, if_pos hf, hh, if_pos rfl, M_fails hf, Option.bind_some]
      refine ⟨true, i, c, _, rfl, rfl, hI, hL, fun _ _ _ _ => rfl, fun a k h _ => dPut_ne (fun z => h ⟨z.1, Or.inr z.2⟩), rfl, Or.inr (Or.inl ⟨rfl, ?_, j3, j4⟩)⟩
      rw [dPut_at]
      exact (oNat hj).resolve_right (by omega)
  | succ m ih =>
    intro n nf nf2 i told y c d hm hnf hnf2 hy hct hbz Pc Pd X hI hL hj hf IRc
    obtain ⟨nf, rfl⟩ : ∃ z, nf = z + 1 := ⟨nf - 1, by omega⟩
    obtain ⟨nf2, rfl⟩ : ∃ z, nf2 = z + 1 := ⟨nf2 - 1, by omega⟩
    have hP := Pc.2.1
    have pl := pS_le (B := B) hL hP
    have pp : pS B L (pS B L i) = pS B L i := pS_pS hL hP
    obtain ⟨c1, e1, e2, e3⟩ := C_sign Pc hI hL
    rw [f_X2_readItems_L6, f_X12_readItems_L45, if_pos (show y < sln ks by rw [i_lt, esl]; omega), e1]
    simp only [Option.bind_some]
    rw [esp]
    rcases spt (sg B L (pS B L i)) with v1 | ⟨j, j1, j2, j3, j4⟩
    · rw [v1, if_pos (by decide), if_pos rfl]
      refine ⟨true, pS B L i, c1, d, rfl, rfl, e2, by omega, fun a k h _ => e3 a k (fun z => h ⟨z.1, Or.inl z.2⟩), fun _ _ _ _ => rfl, rfl, Or.inl ⟨rfl, hf, by rw [pp]; exact hj, fun k hk => ?_⟩⟩
      rw [e3 into k (by omega)]
      exact IRc k hk
    · have ej : (Int32.ofNat j).toInt = j := i_ofNat (by omega)
      have dj : dI (Int32.ofNat j) = j := dI_of ej
      have hne : ¬ Int32.ofNat j = -1 := fun z => by rw [i_eq, ej, tm1] at z; omega
      have hh : f_X12_has told (Int32.ofNat j) d = bI told j := by
        rw [has_isIn told (Int32.ofNat j) d d, isIn_b told d (by omega)]
      have hhc : f_X11_isIn told (Int32.ofNat j) c1 = bI told j := isIn_b told c1 (by omega)
      rw [j2, if_neg (show ¬ Int32.ofNat j < 0 by rw [i_lt, ej, t0]; omega), if_pos (show Int32.ofNat j < Int32.ofNat len by rw [i_lt, ej, i_ofNat (by omega)]; omega), hhc, if_neg hne, if_pos hf, hh]
      by_cases q : bI told j = true
      · rw [if_pos q, if_pos q, M_fails hf, Option.bind_some]
        refine ⟨true, pS B L i, c1, _, rfl, rfl, e2, by omega, fun a k h _ => e3 a k (fun z => h ⟨z.1, Or.inl z.2⟩), fun a k h _ => dPut_ne (fun z => h ⟨z.1, Or.inr z.2⟩), rfl, Or.inr (Or.inl ⟨rfl, ?_, by rw [pp]; exact j3, by rw [pp]; exact j4⟩)⟩
        rw [dPut_at, pp]
        exact (oNat hj).resolve_right (by omega)
      · have q' := Bool.eq_false_iff.mpr q
        obtain ⟨t1', t2, t3⟩ := I7 j j1
        have hin : pS B L i < L := by
          by_cases z : pS B L i < L
          · exact z
          · exact absurd (sg_out z) j3
        rw [if_neg q, if_neg q, I4, I5, dj]
        have hjl : dIn (Int32.ofNat j) len := dIn_of ej (by omega)
        rw [if_pos hjl, if_pos hjl, (t3 _).1, (t3 _).2]
        generalize eA : dPut c1 1 2 (c1.1 1 2 + 1) = A
        generalize eD : dPut d 0 10 (d.1 0 10 + 1) = D
        have Af : ∀ a k, ¬ (a = 1 ∧ k = 2) → A.1 a k = c.1 a k := fun a k h => by rw [← eA, dPut_ne h, e3 a k h]
        have Df : ∀ a k, ¬ (a = 0 ∧ k = 10) → D.1 a k = d.1 a k := fun a k h => by rw [← eD, dPut_ne h]
        have D2 : D.2 = d.2 := by rw [← eD]; rfl
        have Aat : (A.1 1 2).toInt = ((pS B L i + 1 : Nat) : Int) := by rw [← eA, dPut_at, i_add1 (by omega), e2]; omega
        have Dat : (D.1 0 10).toInt = ((pS B L i + 1 : Nat) : Int) := by rw [← eD, dPut_at, i_add1 (by omega), hj]; omega
        have PA : PC A B L := PC_c (Af 1 1 (by omega)) (fun k => Af 2 k (by omega)) Pc
        have PD : PM D B L := PM_c (Df 0 9 (by omega)) (Df 0 8 (by omega)) (by rw [D2]) (fun k => Df 1 k (by omega)) (fun k => Df 2 k (by omega)) Pd
        have D11 : D.1 0 11 = -1 := by rw [Df 0 11 (by omega)]; exact hf
        have xl : A.1 (1000 + lo) j = dSt0 (1000 + lo) j := by rw [Af _ _ (by omega)]; exact X _ _ (by omega)
        have xh : A.1 (1000 + hi) j = dSt0 (1000 + hi) j := by rw [Af _ _ (by omega)]; exact X _ _ (by omega)
        rw [xl, xh]
        obtain ⟨c2, g1, g2, g3⟩ := C_num (md := 2) (by decide) (dSt0 (1000 + lo) j) (dSt0 (1000 + hi) j) PA Aat (by omega)
        obtain ⟨w0, d2, u1, u2, u3, u4, u5⟩ := M_num (dSt0 (1000 + lo) j) (dSt0 (1000 + hi) j) PD Dat (by omega) D11
        have eb : (bI_ + Int32.ofNat j).toInt = ((base + j : Nat) : Int) := by rw [i_add (by rw [hb, ej]; omega), hb, ej]; omega
        rw [u1, Option.bind_some, if_pos (dIn_of eb (by omega)), dI_of eb]
        dsimp only
        have k2 : Int32.ofNat 2 = 2 := rfl
        rw [k2] at g2 g3
        cases hr : rN B L 2 (dSt0 (1000 + lo) j).toInt (dSt0 (1000 + hi) j).toInt (pS B L i + 1) with
        | inl e =>
          obtain ⟨a1, a2, a3⟩ := g2 e hr
          have b1 := u4 e hr
          have nf11 : ¬ (dPut d2 to (base + j) w0).1 0 11 = -1 := by
            rw [dPut_ne (by omega), b1]
            intro z
            rw [i_eq, i_ofNat (by omega), tm1] at z
            omega
          obtain ⟨nf2, rfl⟩ : ∃ z, nf2 = z + 1 := ⟨nf2 - 1, by omega⟩
          rw [a1, Option.bind_some, if_neg (show ¬ false = true by decide), if_neg nf11, f_X12_readItems_L45, if_neg hne, if_neg nf11]
          refine ⟨false, e, c2, _, rfl, rfl, a2, a3, fun a k h _ => by rw [g1 a k h, Af a k (fun z => h ⟨z.1, Or.inl z.2⟩)], fun a k h h2 => by rw [dPut_ne (by omega), u2 a k h, Df a k (fun z => h ⟨z.1, Or.inl z.2⟩)], by show d2.2 = d.2; rw [u3, D2], Or.inr (Or.inr ⟨rfl, ?_⟩)⟩
          rw [dPut_ne (by omega)]
          exact b1
        | inr r =>
          obtain ⟨jj, w⟩ := r
          obtain ⟨a1, a2, a3, a4, a5, a6, a7⟩ := g3 jj w hr
          obtain ⟨b1, b2, b3⟩ := u5 jj w hr
          have n11 : (dPut d2 to (base + j) w0).1 0 11 = -1 := by rw [dPut_ne (by omega)]; exact b1
          rw [a1, Option.bind_some, if_pos rfl, if_pos hjl, if_pos n11]
          generalize eA3 : dPut c2 into j (c2.1 1 3) = A3
          generalize eD3 : dPut d2 to (base + j) w0 = D3 at n11
          have A3f : ∀ a k, ¬ (a = into ∧ k = j) → A3.1 a k = c2.1 a k := fun a k h => by rw [← eA3, dPut_ne h]
          have D3f : ∀ a k, ¬ (a = to ∧ k = base + j) → D3.1 a k = d2.1 a k := fun a k h => by rw [← eD3, dPut_ne h]
          have D32 : D3.2 = d.2 := by rw [← eD3]; show d2.2 = d.2; rw [u3, D2]
          have PA3 : PC A3 B L := PC_c (by rw [A3f 1 1 (by omega), g1 1 1 (by omega)]) (fun k => by rw [A3f 2 k (by omega), g1 2 k (by omega)]) PA
          have PD3 : PM D3 B L := PM_c (by rw [D3f 0 9 (by omega), u2 0 9 (by omega)]) (by rw [D3f 0 8 (by omega), u2 0 8 (by omega)]) (by rw [D32, D2]) (fun k => by rw [D3f 1 k (by omega), u2 1 k (by omega)]) (fun k => by rw [D3f 2 k (by omega), u2 2 k (by omega)]) PD
          obtain ⟨d4, m1, m2, m3, m4⟩ := M_look PD3 (i := jj) (by rw [D3f 0 10 (by omega)]; exact b2) a4
          rw [m1, Option.bind_some]
          dsimp only
          have X3 : dXt A3 := fun a k ha => by rw [A3f a k (by omega), g1 a k (by omega), Af a k (by omega)]; exact X a k ha
          have c1' := cnt_or (x := told) (p := j) (by omega) q'
          have IR3 : IR into to base len LO HI A3 d4 := fun k hk => by
            rw [m3 _ _ (by omega)]
            by_cases z : k = j
            · have ew : w0 = c2.1 1 3 := by rw [i_eq, b3, a3]
              rw [z, ← eA3, dPut_at, ← eD3, dPut_at, ew]
              exact ⟨rfl, by rw [a3, ← t1']; exact a6, by rw [a3, ← t2]; exact a7⟩
            · rw [A3f _ _ (by omega), g1 _ _ (by omega), Af _ _ (by omega), D3f _ _ (by omega), u2 _ _ (by omega), Df _ _ (by omega)]
              exact IRc k hk
          obtain ⟨ok, j', c5, d5, z1, z2, z3, z4, z5, z6, z7, z8⟩ := ih (n + 1) nf nf2 jj (told ||| 1 <<< (Int32.ofNat j &&& 31)) (y + 1) A3 d4 (by omega) (by omega) (by omega) (y_suc hy (by omega)) (by omega) (fun qq h1 h2 => by rw [bI_or told (by omega) h2, hbz qq h1 h2, decide_eq_false (by omega)]; rfl) PA3 (PM_c (m3 0 9 (by omega)) (m3 0 8 (by omega)) (by rw [m4]) (fun k => m3 1 k (by omega)) (fun k => m3 2 k (by omega)) PD3) X3 (by rw [A3f 1 2 (by omega)]; exact a2) a4 m2 (by rw [m3 0 11 (by omega)]; exact n11) IR3
          refine ⟨ok, j', c5, d5, z1, z2, z3, z4, fun a k h h2 => by rw [z5 a k h h2, A3f a k (fun z => h2 z.1), g1 a k h, Af a k (fun z => h ⟨z.1, Or.inl z.2⟩)], fun a k h h2 => by rw [z6 a k h h2, m3 a k (fun z => h ⟨z.1, Or.inl z.2⟩), D3f a k (by omega), u2 a k h, Df a k (fun z => h ⟨z.1, Or.inl z.2⟩)], by rw [z7, m4, D32], z8⟩
/-- what stands in ITEMS that are not told -/
theorem lp_usual (I : IK ks ks' lo hi len kind LO HI) {W : Nat → Int32} (hW : ∀ k, k < len → ∀ h : dH, f_X12_usual kind (Int32.ofNat k) h = W k) (hb : bI_.toInt = base) (hbn : base + len ≤ nnM) (hnn : nnM ≤ 1000) : ∀ (m n k : Nat) (y : Int32) (d : dH), k + m = len → m < n → y.toInt = k → ∃ d' : dH, f_X12_readItems_L3 to nnM ks' n kind bI_ y d = ((f_X12_look d').bind fun rv1 => (some (f_X12_spotOf ks' rv1.1)).bind fun v3 => f_X12_readItems_L45 to nnM ks' dFu kind bI_ 0 v3 rv1.2) ∧ (∀ a j, ¬ (a = to ∧ base + k ≤ j ∧ j < base + len) → d'.1 a j = d.1 a j) ∧ d'.2 = d.2 ∧ (∀ j, k ≤ j → j < len → d'.1 to (base + j) = W j) := by
  obtain ⟨I1, I2, I3, I4, I5, I6, I7⟩ := I
  have esl : (sln ks').toInt = len := by unfold sln; rw [I2, I1, i_ofNat (by omega)]
  intro m
  induction m with
  | zero =>
    intro n k y d hk hn hy
    obtain ⟨n, rfl⟩ : ∃ z, n = z + 1 := ⟨n - 1, by omega⟩
    rw [f_X12_readItems_L3, if_neg (show ¬ y < sln ks' by rw [i_lt, esl]; omega)]
    exact ⟨d, rfl, fun _ _ _ => rfl, rfl, fun j h1 h2 => by omega⟩
  | succ m ih =>
    intro n k y d hk hn hy
    obtain ⟨n, rfl⟩ : ∃ z, n = z + 1 := ⟨n - 1, by omega⟩
    have ey : y = Int32.ofNat k := by rw [i_eq, hy, i_ofNat (by omega)]
    have eb : (bI_ + y).toInt = ((base + k : Nat) : Int) := by rw [i_add (by rw [hb, hy]; omega), hb, hy]; omega
    rw [f_X12_readItems_L3, if_pos (show y < sln ks' by rw [i_lt, esl]; omega), if_pos (dIn_of eb (by omega)), dI_of eb, Option.bind_some]
    obtain ⟨d', u1, u2, u3, u4⟩ := ih n (k + 1) (y + 1) (dPut d to (base + k) (f_X12_usual kind y d)) (by omega) (by omega) (y_suc hy (by omega))
    refine ⟨d', u1, fun a j h => by rw [u2 a j (by omega), dPut_ne (by omega)], u3, fun j h1 h2 => ?_⟩
    by_cases z : j = k
    · rw [z, u2 _ _ (by omega), dPut_at, ey]
      exact hW k (by omega) d
    · exact u4 j (by omega) h2
end IT
