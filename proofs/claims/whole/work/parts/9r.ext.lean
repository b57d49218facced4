/-! PURE: a text's LAW hangs on its own bytes alone -/
section EX
variable {B B' : Nat → Nat} {L : Nat}
theorem pSk_ext (h : ∀ k, k < L → B k = B' k) : ∀ n i, pSk B L n i = pSk B' L n i := by
  intro n
  induction n with
  | zero => intro i; rfl
  | succ n ih =>
    intro i
    show (if i < L ∧ B i = 32 then pSk B L n (i + 1) else i) = (if i < L ∧ B' i = 32 then pSk B' L n (i + 1) else i)
    by_cases q : i < L
    · rw [h i q, ih]
    · rw [if_neg (fun z => q z.1), if_neg (fun z => q z.1)]
theorem pS_ext (h : ∀ k, k < L → B k = B' k) : pS B L = pS B' L := funext fun i => pSk_ext h 256 i
theorem pC_ext (h : ∀ k, k < L → B k = B' k) : pC B L = pC B' L := funext fun i => by
  unfold pC
  by_cases q : i < L
  · rw [if_pos q, if_pos q, h i q]
  · rw [if_neg q, if_neg q]
theorem pDig_ext (h : ∀ k, k < L → B k = B' k) : pDig B L = pDig B' L := funext fun i => by
  unfold pDig
  by_cases q : i < L
  · rw [h i q]
  · rw [decide_eq_false (fun z => q z.1), decide_eq_false (fun z => q z.1)]
theorem pNum_ext (h : ∀ k, k < L → B k = B' k) : ∀ m i v, pNum B L m i v = pNum B' L m i v := by
  intro m
  induction m with
  | zero => intro i v; show (if pDig B L i then Sum.inl i else Sum.inr (i, v)) = (if pDig B' L i then Sum.inl i else Sum.inr (i, v)); rw [pDig_ext h]
  | succ m ih =>
    intro i v
    show (if pDig B L i then pNum B L m (i + 1) (10 * v + (B i - 48)) else Sum.inr (i, v)) = (if pDig B' L i then pNum B' L m (i + 1) (10 * v + (B' i - 48)) else Sum.inr (i, v))
    rw [pDig_ext h, ih]
    by_cases q : i < L
    · rw [h i q]
    · rw [if_neg (show ¬ pDig B' L i = true by unfold pDig; rw [decide_eq_false (fun z => q z.1)]; decide), if_neg (show ¬ pDig B' L i = true by unfold pDig; rw [decide_eq_false (fun z => q z.1)]; decide)]
theorem pAt_ext (h : ∀ k, k < L → B k = B' k) (S : Option (Nat → pR)) : pAt B L S = pAt B' L S := funext fun q => by
  unfold pAt
  rw [pS_ext h, pC_ext h, pDig_ext h, show pNum B L 4 = pNum B' L 4 from funext fun i => funext fun v => pNum_ext h 4 i v]
theorem pCh_ext (h : ∀ k, k < L → B k = B' k) (ok : Int → Bool) (A : Nat → pR) : ∀ n j cs, pCh B L ok A n j cs = pCh B' L ok A n j cs := by
  intro n
  induction n with
  | zero => intro j cs; show Sum.inr (pS B L j, cs) = Sum.inr (pS B' L j, cs); rw [pS_ext h]
  | succ n ih =>
    intro j cs
    rw [pCh, pCh, pS_ext h, pC_ext h]
    by_cases q : ok (pC B' L (pS B' L j)) = true
    · rw [if_pos q, if_pos q]
      cases A (pS B' L j + 1) with
      | inl e => rfl
      | inr r => exact ih _ _
    · rw [if_neg q, if_neg q]
theorem pBeg_ext (h : ∀ k, k < L → B k = B' k) (ok : Int → Bool) (A : Nat → pR) (r : pR) : pBeg B L ok A r = pBeg B' L ok A r := by
  cases r with
  | inl e => rfl
  | inr r => exact pCh_ext h ok A _ _ _
theorem pTm_ext (h : ∀ k, k < L → B k = B' k) (A : Nat → pR) : pTm B L A = pTm B' L A := funext fun _ => pBeg_ext h _ _ _
theorem pSm_ext (h : ∀ k, k < L → B k = B' k) (A : Nat → pR) : pSm B L A = pSm B' L A := funext fun _ => pBeg_ext h _ _ _
theorem pSum_ext (h : ∀ k, k < L → B k = B' k) : ∀ k, pSum B L k = pSum B' L k := by
  intro k
  induction k with
  | zero => funext q; show pSm B L (pTm B L (pAt B L none)) q = pSm B' L (pTm B' L (pAt B' L none)) q; rw [pAt_ext h, pTm_ext h, pSm_ext h]
  | succ k ih => funext q; show pSm B L (pTm B L (pAt B L (some (pSum B L k)))) q = pSm B' L (pTm B' L (pAt B' L (some (pSum B' L k)))) q; rw [ih, pAt_ext h, pTm_ext h, pSm_ext h]
theorem pCmp_ext (h : ∀ k, k < L → B k = B' k) (k : Nat) (r : pR) : pCmp B L k r = pCmp B' L k r := by
  unfold pCmp
  rw [pS_ext h, pC_ext h, pSum_ext h]
theorem pUn_ext (h : ∀ k, k < L → B k = B' k) (k : Nat) (N : Option ((Nat → pR) × (Nat → pR))) : pUn B L k N = pUn B' L k N := funext fun q => by
  unfold pUn
  rw [pS_ext h, pC_ext h, pSum_ext h, pCmp_ext h]
theorem pCo_ext (h : ∀ k, k < L → B k = B' k) (U : Nat → pR) (r : pR) : pCo B L U r = pCo B' L U r := by
  unfold pCo pTr
  rw [pBeg_ext h, pBeg_ext h okA]
  exact congrArg (fun A => pBeg B' L okO A (pBeg B' L okA U r)) (funext fun q => pBeg_ext h okA U (U q))
theorem pUnit_ext (h : ∀ k, k < L → B k = B' k) : ∀ k, pUnit B L k = pUnit B' L k := by
  intro k
  induction k with
  | zero => funext q; exact congrFun (pUn_ext h 0 none) q
  | succ k ih =>
    funext q
    show pUn B L (k + 1) (some (fun q => pCo B L (pUnit B L k) (pUnit B L k q), pUnit B L k)) q = pUn B' L (k + 1) (some (fun q => pCo B' L (pUnit B' L k) (pUnit B' L k q), pUnit B' L k)) q
    rw [ih, pUn_ext h]
    have : (fun q => pCo B L (pUnit B' L k) (pUnit B' L k q)) = (fun q => pCo B' L (pUnit B' L k) (pUnit B' L k q)) := funext fun q => pCo_ext h _ _
    rw [this]
theorem pThen_ext (h : ∀ k, k < L → B k = B' k) (r : pR) : pThen B L r = pThen B' L r := by
  unfold pThen
  rw [pS_ext h, pC_ext h, pSum_ext h]
theorem pCla_ext (h : ∀ k, k < L → B k = B' k) (q : Nat) : pCla B L q = pCla B' L q := by
  unfold pCla pCond
  rw [pS_ext h, pC_ext h, pSum_ext h, pUnit_ext h]
  simp only [pCmp_ext h, pCo_ext h, pThen_ext h]
theorem pLaw_ext (h : ∀ k, k < L → B k = B' k) : pLaw B L = pLaw B' L := by
  have : ∀ n j cs, pLawL B L n j cs = pLawL B' L n j cs := by
    intro n
    induction n with
    | zero => intro j cs; rfl
    | succ n ih =>
      intro j cs
      rw [pLawL, pLawL, pCla_ext h, pS_ext h, pC_ext h]
      cases pCla B' L j with
      | inl e => rfl
      | inr r =>
        dsimp only
        rw [ih]
  exact this 241 0 []
end EX
