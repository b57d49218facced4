/-! PURE: bytes -/
theorem b255 : ∀ i, i < 32 → 8 ≤ i → (255#32).getLsbD i = false := by decide
theorem shr_n32 : ∀ m, m < 4 → ((Int32.ofNat (8 * m) &&& 31).toBitVec.smod 32).toNat = 8 * m := by decide
theorem ushr_n32 : ∀ m, m < 4 → (((Int32.ofNat (8 * m)).toUInt32 &&& Int32.toUInt32 31) % 32).toBitVec.toNat = 8 * m := by decide
/-- a byte, by either shift -/
theorem byte_eq (v : Int32) {m : Nat} (hm : m < 4) : ((v.toUInt32 >>> ((Int32.ofNat (8 * m)).toUInt32 &&& Int32.toUInt32 31)).toInt32 &&& 255) = ((v >>> (Int32.ofNat (8 * m) &&& 31)) &&& 255) := by
  apply Int32.toBitVec_inj.mp
  show (v.toBitVec >>> (((Int32.ofNat (8 * m)).toUInt32 &&& Int32.toUInt32 31) % 32).toBitVec.toNat) &&& 255#32 = (v.toBitVec.sshiftRight ((Int32.ofNat (8 * m) &&& 31).toBitVec.smod 32).toNat) &&& 255#32
  rw [shr_n32 m hm, ushr_n32 m hm]
  apply BitVec.eq_of_getLsbD_eq
  intro i hi
  rw [BitVec.getLsbD_and, BitVec.getLsbD_and, BitVec.getLsbD_ushiftRight, BitVec.getLsbD_sshiftRight]
  by_cases q : i < 8
  · rw [if_pos (by omega), decide_eq_false (by omega), Bool.not_false, Bool.true_and]
  · rw [b255 i hi (by omega), Bool.and_false, Bool.and_false]
theorem and255 (w : Int32) : (w &&& 255).toInt = w.toInt % 256 := by
  have h1 : (w &&& 255).toBitVec.toNat = w.toBitVec.toNat % 256 := by
    show (w.toBitVec &&& 255#32).toNat = _
    rw [BitVec.toNat_and]
    exact Nat.and_two_pow_sub_one_eq_mod w.toBitVec.toNat 8
  have h2 : (w &&& 255).toInt = ((w &&& 255).toBitVec.toNat : Int) := BitVec.toInt_eq_toNat_of_lt (by rw [h1]; omega)
  have h3 : w.toInt = (w.toBitVec.toNat : Int) ∨ w.toInt = (w.toBitVec.toNat : Int) - 4294967296 := by
    show w.toBitVec.toInt = _ ∨ w.toBitVec.toInt = _
    rw [BitVec.toInt_eq_toNat_cond]
    split
    · exact Or.inl rfl
    · exact Or.inr rfl
  rw [h2, h1]
  omega
theorem i8 (w : Int32) : (w.toInt8.toInt32).toInt = if (w &&& 255).toInt < 128 then (w &&& 255).toInt else (w &&& 255).toInt - 256 := by
  rw [and255, Int8.toInt_toInt32, Int32.toInt_toInt8]
  show Int.bmod w.toInt 256 = _
  rw [Int.bmod_def]
  show (if w.toInt % 256 < 128 then w.toInt % 256 else w.toInt % 256 - 256) = _
  rfl
theorem nar8 (x : Int8) : vp_nar .byte x.toInt32 = x.toInt32 := by
  show (x.toInt32.toInt8).toInt32 = x.toInt32
  rw [Int8.toInt8_toInt32]
