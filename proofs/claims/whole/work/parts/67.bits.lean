/-! BITS of numbers under 2^31 -/
theorem nI_bv (p : Nat) : (nI p).toBitVec = BitVec.ofNat 32 p := rfl
theorem sh_i : ∀ i, i < 32 → ((nI i) &&& 31 : Int32).toBitVec.smod 32 = BitVec.ofNat 32 i := by decide +kernel
theorem shr_nI {p i : Nat} (hp : p < 2 ^ 31) (hi : i < 32) : (nI p) >>> ((nI i) &&& 31 : Int32) = nI (p >>> i) := by
  rw [← Int32.toBitVec_inj, Int32.toBitVec_shiftRight, sh_i i hi, nI_bv, nI_bv]
  have hm : (BitVec.ofNat 32 p).msb = false := by
    rw [BitVec.msb_eq_decide, BitVec.toNat_ofNat, decide_eq_false]
    have := Nat.mod_le p (2 ^ 32)
    omega
  show (BitVec.ofNat 32 p).sshiftRight (BitVec.ofNat 32 i).toNat = _
  rw [BitVec.sshiftRight_eq_of_msb_false hm]
  apply BitVec.eq_of_toNat_eq
  have h2 : p >>> i ≤ p := Nat.shiftRight_le p i
  rw [BitVec.toNat_ushiftRight, BitVec.toNat_ofNat, BitVec.toNat_ofNat, BitVec.toNat_ofNat, Nat.mod_eq_of_lt (show p < 2 ^ 32 by omega), Nat.mod_eq_of_lt (show i < 2 ^ 32 by omega), Nat.mod_eq_of_lt (show p >>> i < 2 ^ 32 by omega)]
theorem and_nI {p q : Nat} (hp : p < 2 ^ 31) (hq : q < 2 ^ 31) : nI p &&& nI q = nI (p &&& q) := by
  rw [← Int32.toBitVec_inj, Int32.toBitVec_and, nI_bv, nI_bv, nI_bv]
  apply BitVec.eq_of_toNat_eq
  have h2 : p &&& q ≤ p := Nat.and_le_left
  rw [BitVec.toNat_and, BitVec.toNat_ofNat, BitVec.toNat_ofNat, BitVec.toNat_ofNat, Nat.mod_eq_of_lt (show p < 2 ^ 32 by omega), Nat.mod_eq_of_lt (show q < 2 ^ 32 by omega), Nat.mod_eq_of_lt (show p &&& q < 2 ^ 32 by omega)]
theorem or_nI {p q : Nat} (hp : p < 2 ^ 31) (hq : q < 2 ^ 31) : nI p ||| nI q = nI (p ||| q) := by
  rw [← Int32.toBitVec_inj, Int32.toBitVec_or, nI_bv, nI_bv, nI_bv]
  apply BitVec.eq_of_toNat_eq
  have h2 : p ||| q < 2 ^ 31 := Nat.or_lt_two_pow hp hq
  rw [BitVec.toNat_or, BitVec.toNat_ofNat, BitVec.toNat_ofNat, BitVec.toNat_ofNat, Nat.mod_eq_of_lt (show p < 2 ^ 32 by omega), Nat.mod_eq_of_lt (show q < 2 ^ 32 by omega), Nat.mod_eq_of_lt (show p ||| q < 2 ^ 32 by omega)]
theorem bt_nI {p i : Nat} (hp : p < 2 ^ 31) (hi : i < 32) : ((nI p) >>> ((nI i) &&& 31 : Int32)) &&& 1 = bt p i := by
  have h2 : p >>> i ≤ p := Nat.shiftRight_le p i
  rw [shr_nI hp hi, show (1 : Int32) = nI 1 from rfl, and_nI (by omega) (by decide)]
  unfold bt
  have e : p.testBit i = decide (p >>> i &&& 1 = 1) := by
    unfold Nat.testBit
    rw [Nat.and_comm, Nat.and_one_is_mod]
    have := Nat.mod_two_eq_zero_or_one (p >>> i)
    rcases this with q | q <;> rw [q] <;> rfl
  rw [e, Nat.and_one_is_mod]
  have := Nat.mod_two_eq_zero_or_one (p >>> i)
  rcases this with q | q <;> rw [q] <;> rfl
/-- the subset test -/
theorem sub_nI {p m : Nat} (hp : p < 2 ^ 31) (hm : m < 2 ^ 31) : (nI p &&& (nI m ^^^ (-1)) = 0) ↔ ∀ i, i < 31 → p.testBit i = true → m.testBit i = true := by
  rw [← Int32.toBitVec_inj, Int32.toBitVec_and, Int32.toBitVec_xor, nI_bv, nI_bv, show ((-1 : Int32)).toBitVec = BitVec.allOnes 32 from rfl, show ((0 : Int32)).toBitVec = 0#32 from rfl, BitVec.xor_allOnes]
  constructor
  · intro h i hi h1
    have := congrArg (fun b => b.getLsbD i) h
    simp only [BitVec.getLsbD_and, BitVec.getLsbD_not, BitVec.getLsbD_ofNat, BitVec.getLsbD_zero] at this
    rw [h1, decide_eq_true (show i < 32 by omega)] at this
    simpa using this
  · intro h
    apply BitVec.eq_of_getLsbD_eq
    intro i hi
    simp only [BitVec.getLsbD_and, BitVec.getLsbD_not, BitVec.getLsbD_ofNat, BitVec.getLsbD_zero]
    rw [decide_eq_true hi, Nat.zero_testBit]
    by_cases h31 : i < 31
    · cases e : p.testBit i
      · rfl
      · rw [h i h31 e]; rfl
    · rw [Nat.testBit_lt_two_pow (Nat.lt_of_lt_of_le hp (Nat.pow_le_pow_right (by decide) (show 31 ≤ i by omega)))]
      rfl
theorem shl_nI : ∀ n, n < 31 → (1 : Int32) <<< ((nI n) &&& 31 : Int32) = nI (2 ^ n) := by decide +kernel
theorem bc7_eq : ∀ p, p < 128 → fJ6_bitCount_0f7a4 (nI p) = some (bc p 7) := by decide +kernel
theorem tb_lo {a b i : Nat} (hb : b < 128) (hi : i < 7) : bt (128 * a + b) i = bt b i := by
  unfold bt
  rw [show 128 * a + b = 2 ^ 7 * a + b from rfl, Nat.testBit_two_pow_mul_add a hb, if_pos hi]
theorem tb_hi {a b i : Nat} (hb : b < 128) : bt (128 * a + b) (7 + i) = bt a i := by
  unfold bt
  rw [show 128 * a + b = 2 ^ 7 * a + b from rfl, Nat.testBit_two_pow_mul_add a hb, if_neg (show ¬ 7 + i < 7 by omega), show 7 + i - 7 = i by omega]
theorem bc_lo {a b : Nat} (hb : b < 128) : ∀ d, d ≤ 7 → bc (128 * a + b) d = bc b d := by
  intro d
  induction d with
  | zero => intro _; rfl
  | succ d ih =>
    intro h
    rw [bc, bc, ih (by omega), tb_lo hb (by omega)]
theorem bc_hi {a b : Nat} (hb : b < 128) : ∀ d, bc (128 * a + b) (7 + d) = bc b 7 + bc a d := by
  intro d
  induction d with
  | zero => rw [show 7 + 0 = 7 from rfl, bc_lo hb 7 (by omega)]; exact (Int32.add_zero _).symm
  | succ d ih =>
    rw [show bc (128 * a + b) (7 + (d + 1)) = bc (128 * a + b) (7 + d) + bt (128 * a + b) (7 + d) from rfl, ih, tb_hi hb, show bc a (d + 1) = bc a d + bt a d from rfl, Int32.add_assoc]
theorem bitsM_l {p : Nat} (hp : p < 2 ^ 31) : ∀ (d i fuel : Nat), i + d = 14 → d < fuel → fX13_bits_l4 fuel (nI p) (bc p i) (nI i) = some (bc p 14) := by
  intro d
  induction d with
  | zero =>
    intro i fuel hi hf
    obtain ⟨m, rfl⟩ : ∃ m, fuel = m + 1 := ⟨fuel - 1, by omega⟩
    rw [fX13_bits_l4, show (14 : Int32) = nI 14 from rfl, if_neg (by rw [lt_nI (by omega) (by omega)]; omega), show i = 14 by omega]
  | succ d ih =>
    intro i fuel hi hf
    obtain ⟨m, rfl⟩ : ∃ m, fuel = m + 1 := ⟨fuel - 1, by omega⟩
    rw [fX13_bits_l4, show (14 : Int32) = nI 14 from rfl, if_pos (by rw [lt_nI (by omega) (by omega)]; omega), bt_nI hp (by omega), pu_s, pu_s, nI_1]
    exact ih (i + 1) m (by omega) (by omega)
theorem bitsM {a b : Nat} (ha : a < 128) (hb : b < 128) : fX13_bits (nI (128 * a + b)) = some (bc b 7 + bc a 7) := by
  have := bitsM_l (p := 128 * a + b) (by omega) 14 0 FU (by omega) (by decide)
  rw [show (14 : Nat) = 7 + 7 from rfl, bc_hi hb] at this
  exact this
theorem glue_nI {a b : Nat} (ha : a < 128) (hb : b < 128) : ((nI a) <<< (7 &&& 31 : Int32)) ||| nI b = nI (128 * a + b) := by
  have e : (nI a) <<< (7 &&& 31 : Int32) = nI (128 * a) := (by decide +kernel : ∀ a, a < 128 → (nI a) <<< (7 &&& 31 : Int32) = nI (128 * a)) a ha
  rw [e, or_nI (by omega) (by omega), show 128 * a + b = 2 ^ 7 * a + b from rfl, Nat.two_pow_add_eq_or_of_lt hb]
