/-! rules in the form that the generated walks use -/
def zln (j : Nat) : Nat := match dZs[j]? with
  | some q => q.2.2.length
  | none => 0
def stx (j : Nat) : List Int32 := match dKs[j]? with
  | some q => q.2.2.2
  | none => []
/-- length of a text -/
def sln (j : Nat) : Int32 := Int32.ofNat (stx j).length
/-- where a sign stands in a text, or -1 -/
def sfindF (c : Int32) : List Int32 → Nat → Int32
  | [], _ => -1
  | b :: l, k => if b = c then Int32.ofNat k else sfindF c l (k + 1)
def bln (a : Nat) : Nat := match shM[a]? with
  | some (.inr (1, n)) => n
  | _ => 0
abbrev dCk (sp dp n : Int32) (n0 n1 : Nat) : Prop := 0 ≤ sp.toInt ∧ 0 ≤ dp.toInt ∧ 0 ≤ n.toInt ∧ dI sp + dI n ≤ n0 ∧ dI dp + dI n ≤ n1
theorem rfM_oth {t u : Nat} : ∀ c j, ¬ (c = 0 ∧ j = 5) → XM.2 t c j = XM.2 u c j := by
  intro c j h
  show rfM t c j = rfM u c j
  unfold rfM
  split <;> first | rfl | (exact absurd ⟨rfl, rfl⟩ h)
theorem zget {j : Nat} (hj : j < 6) : ∃ q, dZs[j]? = some q ∧ zln j = q.2.2.length := by
  have h : ∀ j, j < 6 → (dZs[j]?).isSome = true := by decide
  obtain ⟨q, hq⟩ := Option.isSome_iff_exists.mp (h j hj)
  exact ⟨q, hq, by unfold zln; rw [hq]⟩
section BG
variable {α : Type} {X : dX} {D : Nat} {own : String} {cc : ByteArray} {nL : Nat} {rt : Option FieldType} {φ : α → Option Value × dH} {pc : Nat} {ls st : List Value} {h : dH} {o : Option α}
theorem L_bald {i : Int32} {a n j : Nat} (hd : decode cc pc = .ok (.baload, 1)) (hs : X.1[a]? = some (.inr (1, n))) (hin : dIn i n) (hj : dI i = j) (K : B X D own cc nL rt φ (pc + 1) ls (.int (h.1 a j) :: st) h o) : B X D own cc nL rt φ pc ls (.int i :: .ref a :: st) h o := B_bald hd hs hin (by rw [hj]; exact K)
theorem L_zald {i : Int32} {a n j : Nat} (hd : decode cc pc = .ok (.baload, 1)) (hs : X.1[a]? = some (.inr (2, n))) (hin : dIn i n) (hj : dI i = j) (K : B X D own cc nL rt φ (pc + 1) ls (.int (h.1 a j) :: st) h o) : B X D own cc nL rt φ pc ls (.int i :: .ref a :: st) h o := B_zald hd hs hin (by rw [hj]; exact K)
theorem L_lald {i : Int32} {a n j : Nat} (hd : decode cc pc = .ok (.laload, 1)) (hs : X.1[a]? = some (.inr (3, n))) (hin : dIn i n) (hj : dI i = j) (K : B X D own cc nL rt φ (pc + 1) ls (.long (h.2.1 a j) :: st) h o) : B X D own cc nL rt φ pc ls (.int i :: .ref a :: st) h o := B_lald hd hs hin (by rw [hj]; exact K)
theorem L_bast {a n j : Nat} {i v : Int32} (hd : decode cc pc = .ok (.bastore, 1)) (hs : X.1[a]? = some (.inr (1, n))) (hin : dIn i n) (hj : dI i = j) (K : B X D own cc nL rt φ (pc + 1) ls st (dPut h a j (vp_nar .byte v)) o) : B X D own cc nL rt φ pc ls (.int v :: .int i :: .ref a :: st) h o := B_bast hd hs hin (by rw [hj]; exact K)
theorem L_zast {a n j : Nat} {i v : Int32} (hd : decode cc pc = .ok (.bastore, 1)) (hs : X.1[a]? = some (.inr (2, n))) (hin : dIn i n) (hj : dI i = j) (K : B X D own cc nL rt φ (pc + 1) ls st (dPut h a j (vp_nar .boolean v)) o) : B X D own cc nL rt φ pc ls (.int v :: .int i :: .ref a :: st) h o := B_zast hd hs hin (by rw [hj]; exact K)
theorem L_last {a n j : Nat} {i : Int32} {v : Int64} (hd : decode cc pc = .ok (.lastore, 1)) (hs : X.1[a]? = some (.inr (3, n))) (hin : dIn i n) (hj : dI i = j) (K : B X D own cc nL rt φ (pc + 1) ls st (dPutL h a j v) o) : B X D own cc nL rt φ pc ls (.long v :: .int i :: .ref a :: st) h o := B_last hd hs hin (by rw [hj]; exact K)
theorem L_ialdE {i : Int32} {j : Nat} (hd : decode cc pc = .ok (.iaload, 1)) (hj : j < 6) (hin : dIn i (zln j)) (K : B X D own cc nL rt φ (pc + 1) ls (.int (h.1 (1000 + j) (dI i)) :: st) h o) : B X D own cc nL rt φ pc ls (.int i :: .ref (1000 + j) :: st) h o := by
  obtain ⟨q, h1, h2⟩ := zget hj
  exact B_ialdE hd h1 (by rw [← h2]; exact hin) K
theorem L_alenE {j : Nat} (hd : decode cc pc = .ok (.arraylength, 1)) (hj : j < 6) (K : B X D own cc nL rt φ (pc + 1) ls (.int (Int32.ofNat (zln j)) :: st) h o) : B X D own cc nL rt φ pc ls (.ref (1000 + j) :: st) h o := by
  obtain ⟨q, h1, h2⟩ := zget hj
  exact B_alenE hd h1 (by rw [← h2]) K
theorem L_baldD {i : Int32} {a : Nat} (hd : decode cc pc = .ok (.baload, 1)) (hin : dIn i (bln a)) (K : B XM D own cc nL rt φ (pc + 1) ls (.int (h.1 a (dI i)) :: st) h o) : B XM D own cc nL rt φ pc ls (.int i :: .ref a :: st) h o := by
  have hb : ∃ n, shM[a]? = some (.inr (1, n)) ∧ bln a = n := by
    have h0 : bln a ≠ 0 := by
      intro z
      rw [z] at hin
      have h1 := hin.1
      have h2 := hin.2
      omega
    unfold bln at h0 ⊢
    split at h0
    · rename_i n e
      exact ⟨n, e, rfl⟩
    · exact absurd rfl h0
  obtain ⟨n, h1, h2⟩ := hb
  exact B_bald hd h1 (by rw [← h2]; exact hin) K
theorem L_copy {a b n0 n1 idx : Nat} {sp dp n : Int32} (hd : decode cc pc = .ok (.invokestatic idx, 3)) (hw : dCpW own idx) (hD : 0 + 1 ≤ D) (hst : dwd st ≤ 8) (ha : X.1[a]? = some (.inr (0, n0))) (hb : X.1[b]? = some (.inr (0, n1))) (g : dCk sp dp n n0 n1)
    (K : B X D own cc nL rt φ (pc + 3) ls st (dCpy h a b (dI sp) (dI dp) (dI n)) o) : B X D own cc nL rt φ pc ls (.int n :: .int dp :: .ref b :: .int sp :: .ref a :: st) h o := B_copy hd hw hD hst ha hb g.1 g.2.1 g.2.2.1 g.2.2.2.1 g.2.2.2.2 K
theorem B_Spj {D' : Nat} {y : MethodName} {cy : ByteArray} {ny n idx : Nat} {ry : Option FieldType} {as st0 : List Value} {ob : Option Int64} {e : Int64 → Option α} (hd : decode cc pc = .ok (.invokestatic idx, 3)) (hc : dCS own idx y cy ny ry n) (hT : T X D' y cy ny ry (fiJ h) as h ob) (hD : D' + 1 ≤ D) (hn : as.length = n) (hst : st0 = as.reverse ++ st) (hw : dwd st ≤ 8) (K : ∀ v : Int64, ob = some v → B X D own cc nL rt φ (pc + 3) ls (.long v :: st) h (e v)) : B X D own cc nL rt φ pc ls st0 h (ob.bind e) := B_callS (ob := ob) hd hc.1 hc.2.1 hc.2.2 hT hD hn hst hw K
end BG
theorem T_none {α : Type} {X : dX} {D : Nat} {y : MethodName} {cc : ByteArray} {nL : Nat} {rt : Option FieldType} {φ : α → Option Value × dH} {as : List Value} {h : dH} : T X D y cc nL rt φ as h none := fun x hx => by cases hx
