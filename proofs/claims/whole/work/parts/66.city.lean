/-! QUESTIONS: cities -/
theorem hi_c (y : Int32) : ∃ c : Nat, c < 32768 ∧ (y >>> (16 &&& 31 : Int32)) &&& (32767 : Int32) = nI c ∧ (y.toUInt32 >>> (Int32.toUInt32 16 &&& Int32.toUInt32 31)).toInt32 &&& (32767 : Int32) = nI c := by
  have e1 : (y.toUInt32 >>> (Int32.toUInt32 16 &&& Int32.toUInt32 31)).toInt32 &&& (32767 : Int32) = nI ((y.toBitVec.toNat >>> 16) % 32768) := by
    rw [← Int32.toBitVec_inj, Int32.toBitVec_and]
    apply BitVec.eq_of_toNat_eq
    rw [BitVec.toNat_and, show ((32767 : Int32).toBitVec).toNat = 2 ^ 15 - 1 from rfl, Nat.and_two_pow_sub_one_eq_mod]
    show _ = (BitVec.ofNat 32 ((y.toBitVec.toNat >>> 16) % 32768)).toNat
    rw [BitVec.toNat_ofNat]
    have : ((y.toUInt32 >>> (Int32.toUInt32 16 &&& Int32.toUInt32 31)).toInt32).toBitVec = y.toBitVec >>> 16 := rfl
    rw [this, BitVec.toNat_ushiftRight]
    omega
  have e2 : (y >>> (16 &&& 31 : Int32)) &&& (32767 : Int32) = (y.toUInt32 >>> (Int32.toUInt32 16 &&& Int32.toUInt32 31)).toInt32 &&& (32767 : Int32) := by
    rw [← Int32.toBitVec_inj, Int32.toBitVec_and, Int32.toBitVec_and]
    have a1 : ((y.toUInt32 >>> (Int32.toUInt32 16 &&& Int32.toUInt32 31)).toInt32).toBitVec = y.toBitVec >>> 16 := rfl
    have a2 : (y >>> (16 &&& 31 : Int32)).toBitVec = y.toBitVec.sshiftRight 16 := rfl
    rw [a1, a2]
    apply BitVec.eq_of_getLsbD_eq
    intro i hi
    rw [BitVec.getLsbD_and, BitVec.getLsbD_and, BitVec.getLsbD_ushiftRight, BitVec.getLsbD_sshiftRight]
    by_cases h : i < 15
    · rw [if_pos (show 16 + i < 32 by omega), decide_eq_false (show ¬ 32 ≤ i by omega)]
      rfl
    · have : ((32767 : Int32).toBitVec).getLsbD i = false := by
        rcases (show i = 15 ∨ i = 16 ∨ i = 17 ∨ i = 18 ∨ i = 19 ∨ i = 20 ∨ i = 21 ∨ i = 22 ∨ i = 23 ∨ i = 24 ∨ i = 25 ∨ i = 26 ∨ i = 27 ∨ i = 28 ∨ i = 29 ∨ i = 30 ∨ i = 31 by omega) with q | q | q | q | q | q | q | q | q | q | q | q | q | q | q | q | q <;> subst q <;> rfl
      rw [this, Bool.and_false, Bool.and_false]
  exact ⟨(y.toBitVec.toNat >>> 16) % 32768, Nat.mod_lt _ (by decide), e2.trans e1, e1⟩
