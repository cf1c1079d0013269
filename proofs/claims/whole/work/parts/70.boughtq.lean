/-! bought -/
def enc (o : Option Nat) : Int32 := match o with
  | none => -1
  | some v => nI v
def betV (A : LA) (r : Nat → Int32) (g b : Nat) : Option Nat := if needG A r g < b then updO (blkV A r g) (128 * g + needG A r g) else blkV A r g
theorem mask_iff {C G g b : Nat} (hC : C ≤ 7) (hG : G ≤ 7) (hg : g < 2 ^ G) (hb : b < 128) : (nI (128 * g + b) &&& (nI (128 * (2 ^ G - 1) + (2 ^ C - 1)) ^^^ (-1)) = 0) ↔ b < 2 ^ C := by
  have pC := pow_128 C (by omega)
  have pG := pow_128 G (by omega)
  have t : ∀ a b i, b < 128 → (128 * a + b).testBit i = if i < 7 then b.testBit i else a.testBit (i - 7) := fun a b i hb => by
    rw [show 128 * a + b = 2 ^ 7 * a + b from rfl, Nat.testBit_two_pow_mul_add a hb]
  rw [sub_nI (by omega) (by omega)]
  constructor
  · intro h
    apply Nat.lt_pow_two_of_testBit
    intro i hi
    by_cases h7 : i < 7
    · cases e : b.testBit i
      · rfl
      · have := h i (by omega) (by rw [t _ _ _ hb, if_pos h7]; exact e)
        rw [t _ _ _ (by omega), if_pos h7, Nat.testBit_two_pow_sub_one, decide_eq_true_eq] at this
        omega
    · exact Nat.testBit_lt_two_pow (Nat.lt_of_lt_of_le (show b < 2 ^ 7 from hb) (Nat.pow_le_pow_right (by decide) (show 7 ≤ i by omega)))
  · intro h i hi h1
    rw [t _ _ _ hb] at h1
    rw [t _ _ _ (by omega)]
    by_cases h7 : i < 7
    · rw [if_pos h7] at h1 ⊢
      rw [Nat.testBit_two_pow_sub_one, decide_eq_true_eq]
      refine Decidable.byContradiction fun q => ?_
      rw [Nat.testBit_lt_two_pow (Nat.lt_of_lt_of_le h (Nat.pow_le_pow_right (by decide) (show C ≤ i by omega)))] at h1
      exact Bool.false_ne_true h1
    · rw [if_neg h7] at h1 ⊢
      rw [Nat.testBit_two_pow_sub_one, decide_eq_true_eq]
      refine Decidable.byContradiction fun q => ?_
      rw [Nat.testBit_lt_two_pow (Nat.lt_of_lt_of_le hg (Nat.pow_le_pow_right (by decide) (show G ≤ i - 7 by omega)))] at h1
      exact Bool.false_ne_true h1
theorem bits_v {v : Nat} (h : v < 2 ^ 31) : fX13_bits (nI v) = some (nI (bcN v 14)) := by
  rw [← bc_N]
  exact bitsM_l h 14 0 FU (by omega) (by decide)
theorem blkV_lt {A : LA} {r : Nat → Int32} (hA : okA A) {g w : Nat} (hg : g ≤ 128) (e : blkV A r g = some w) : w < 2 ^ 31 := by
  cases g with
  | zero => rw [blkV] at e; exact absurd e (by simp)
  | succ g =>
    obtain ⟨v, e1, e2⟩ := blkV_some (r := r) hA g (by omega)
    rw [e1] at e
    have := Option.some.inj e
    omega
theorem updO_le {o : Option Nat} {v : Nat} : ∃ u, updO o v = some u ∧ bcN u 14 ≤ bcN v 14 ∧ (u = v ∨ o = some u) := by
  cases o with
  | none => exact ⟨v, rfl, Nat.le_refl _, Or.inl rfl⟩
  | some w =>
    rw [updO]
    by_cases h : bcN v 14 < bcN w 14
    · rw [if_pos h]; exact ⟨v, rfl, Nat.le_refl _, Or.inl rfl⟩
    · rw [if_neg h]; exact ⟨w, rfl, by omega, Or.inr rfl⟩
theorem le_sub {n b : Nat} (h : ∀ i, n.testBit i = true → b.testBit i = true) : n ≤ b := by
  have e : n &&& b = n := by
    apply Nat.eq_of_testBit_eq
    intro i
    rw [Nat.testBit_and]
    cases q : n.testBit i
    · rfl
    · rw [h i q]; rfl
  rw [← e]
  exact Nat.and_le_right
theorem bgtM_l {A : LA} {M : Mem} {Y Z : Nat} {r : Nat → Int32} {w : Int32} (hL : LandM A M) (hA : okA A) (hr : rB M 0 = r) (hR : okR A Y Z r) : ∀ (d g b fuel : Nat), b < 128 → 128 * g + b + d = 128 * (2 ^ aN A 4 - 1) + (2 ^ aN A 3 - 1) + 1 → d < fuel → fX13_bought_l42 fuel M w (nI (128 * (2 ^ aN A 4 - 1) + (2 ^ aN A 3 - 1))) (enc (betV A r g b)) (nI (128 * g + b)) = some (if w = 0 then fO (blkV A r (2 ^ aN A 4)) else lO (blkV A r (2 ^ aN A 4)), M) := by
  have hG : aN A 4 ≤ 7 := hA.2.2.2.2.1
  have hC : aN A 3 ≤ 7 := hA.2.2.2.1
  have pC := pow_128 (aN A 3) (by omega)
  have pG := pow_128 (aN A 4) (by omega)
  have qC : 0 < 2 ^ aN A 3 := Nat.two_pow_pos _
  have qG : 0 < 2 ^ aN A 4 := Nat.two_pow_pos _
  intro d
  induction d with
  | zero =>
    intro g b fuel hb hd hf
    obtain ⟨m, rfl⟩ : ∃ m, fuel = m + 1 := ⟨fuel - 1, by omega⟩
    have hn : needG A r g < 2 ^ aN A 3 := fN_lt _
    have e : betV A r g b = blkV A r (2 ^ aN A 4) := by
      unfold betV
      by_cases h : needG A r g < b
      · rw [if_pos h, show 2 ^ aN A 4 = g + 1 by omega, blkV]
      · rw [if_neg h, show 2 ^ aN A 4 = g by omega]
    obtain ⟨v, ev, hv⟩ := blkV_some (r := r) hA (2 ^ aN A 4 - 1) (by omega)
    rw [show 2 ^ aN A 4 - 1 + 1 = 2 ^ aN A 4 by omega] at ev
    rw [fX13_bought_l42, if_pos (by rw [lt_nI (by omega) (by omega)]; omega), e, ev]
    by_cases h0 : w = 0
    · rw [if_pos h0, if_pos h0, show enc (some v) = nI v from rfl, bits_v (by omega), b1_s]
      rfl
    · rw [if_neg h0, if_neg h0]
      rfl
  | succ d ih =>
    intro g b fuel hb hd hf
    obtain ⟨m, rfl⟩ : ∃ m, fuel = m + 1 := ⟨fuel - 1, by omega⟩
    have hg : g < 2 ^ aN A 4 := by omega
    have hn : needG A r g < 2 ^ aN A 3 := fN_lt _
    have nx : ∀ x3 : Int32, x3 = enc (if needG A r g < b + 1 then updO (blkV A r g) (128 * g + needG A r g) else blkV A r g) → fX13_bought_b86 (fX13_bought_l42 m) M w (nI (128 * (2 ^ aN A 4 - 1) + (2 ^ aN A 3 - 1))) x3 (nI (128 * g + b)) = some (if w = 0 then fO (blkV A r (2 ^ aN A 4)) else lO (blkV A r (2 ^ aN A 4)), M) := fun x3 hx => by
      unfold fX13_bought_b86
      rw [pu_s, nI_1, hx]
      by_cases h : b + 1 < 128
      · exact ih g (b + 1) m h (by omega) (by omega)
      · have := ih (g + 1) 0 m (by omega) (by omega) (by omega)
        unfold betV at this
        rw [if_neg (Nat.not_lt_zero _), blkV] at this
        rw [if_pos (by omega), show 128 * g + b + 1 = 128 * (g + 1) + 0 by omega]
        exact this
    have eB : fX13_isBought M (nI (128 * g + b)) = fX13_isBought_l2 FU M (nI (128 * g + b)) 0 := rfl
    -- the test of one set, with what stands best
    have try1 : ∀ x3 : Int32, x3 = enc (betV A r g b) → ((∀ i, (needG A r g).testBit i = true → b.testBit i = true) → nI (128 * g + b) = enc (if needG A r g < b + 1 then updO (blkV A r g) (128 * g + needG A r g) else blkV A r g)) → fX13_bought_b74 (fX13_bought_l42 m) M w (nI (128 * (2 ^ aN A 4 - 1) + (2 ^ aN A 3 - 1))) x3 (nI (128 * g + b)) = some (if w = 0 then fO (blkV A r (2 ^ aN A 4)) else lO (blkV A r (2 ^ aN A 4)), M) := fun x3 hx hv => by
      unfold fX13_bought_b74
      rw [eB]
      rcases ibO hL hA hr hR (show 128 * g + b < 16384 by omega) (aN A 3) 0 FU (by omega) (by show _ < 100000; omega) with ⟨q1, q2⟩ | ⟨⟨i, i1, k, k1, k2⟩, q2⟩
      · rw [show fX13_isBought_l2 FU M (nI (128 * g + b)) 0 = _ from q2, b1_s, if_neg (by decide)]
        exact nx _ (hv ((need_iff hA (by omega) hb).mp fun i hi => q1 i (by omega) hi))
      · rw [show fX13_isBought_l2 FU M (nI (128 * g + b)) 0 = _ from q2, b1_s, if_pos rfl]
        refine nx _ (hx.trans ?_)
        have : needG A r g ≠ b := fun e => k2 ((need_iff hA (by omega) hb).mpr (fun i hi => by rw [← e]; exact hi) i i1 k k1)
        unfold betV
        by_cases h : needG A r g < b
        · rw [if_pos h, if_pos (by omega)]
        · rw [if_neg h, if_neg (by omega)]
    rw [fX13_bought_l42, if_neg (by rw [lt_nI (by omega) (by omega)]; omega)]
    by_cases hs : b < 2 ^ aN A 3
    · rw [if_pos ((mask_iff hC hG hg hb).mpr hs)]
      have n128 : needG A r g < 128 := by omega
      have mono : (∀ i, (needG A r g).testBit i = true → b.testBit i = true) → bcN (128 * g + needG A r g) 14 ≤ bcN (128 * g + b) 14 := fun q => by
        rw [bcN_hi hb, bcN_hi n128]
        exact Nat.add_le_add_right (bcN_mono q 7) _
      have l14 := bcN_le (128 * g + b) 14
      rcases e : betV A r g b with _ | u
      · rw [if_pos (show enc none = -1 from rfl)]
        refine try1 _ (by rw [e]) fun q => ?_
        have hle := le_sub q
        unfold betV at e
        by_cases h : needG A r g < b
        · rw [if_pos h] at e
          obtain ⟨u, e1, -⟩ := updO_le (o := blkV A r g) (v := 128 * g + needG A r g)
          rw [e1] at e
          exact absurd e (by simp)
        · rw [if_neg h] at e
          rw [if_pos (by omega), e, show needG A r g = b by omega]
          rfl
      · have hu : u < 2 ^ 31 := by
          unfold betV at e
          by_cases h : needG A r g < b
          · rw [if_pos h] at e
            obtain ⟨u', e1, -, e3⟩ := updO_le (o := blkV A r g) (v := 128 * g + needG A r g)
            rw [e1] at e
            have e4 := Option.some.inj e
            rcases e3 with e3 | e3
            · omega
            · rw [e4] at e3
              exact blkV_lt hA (by omega) e3
          · rw [if_neg h] at e
            exact blkV_lt hA (by omega) e
        have u14 := bcN_le u 14
        rw [if_neg (show ¬ enc (some u) = -1 from nI_neg1 hu), bits_v (by omega), b1_s, show enc (some u) = nI u from rfl, bits_v hu, b1_s]
        by_cases hlt : bcN (128 * g + b) 14 < bcN u 14
        · rw [if_pos (by rw [lt_nI (by omega) (by omega)]; exact hlt)]
          refine try1 _ (by rw [e]; rfl) fun q => ?_
          have hle := le_sub q
          have hmo := mono q
          unfold betV at e
          by_cases h : needG A r g < b
          · rw [if_pos h] at e
            obtain ⟨u', e1, e2, -⟩ := updO_le (o := blkV A r g) (v := 128 * g + needG A r g)
            rw [e1] at e
            have e4 := Option.some.inj e
            rw [e4] at e2
            omega
          · rw [if_neg h] at e
            rw [if_pos (by omega), e, show needG A r g = b by omega, updO, if_pos hlt]
            rfl
        · rw [if_neg (by rw [lt_nI (by omega) (by omega)]; exact hlt)]
          refine nx _ ?_
          unfold betV at e
          by_cases h : needG A r g < b
          · rw [if_pos h] at e
            rw [if_pos (by omega), e]
            rfl
          · rw [if_neg h] at e
            by_cases h2 : needG A r g = b
            · rw [if_pos (by omega), e, h2, updO, if_neg hlt]
              rfl
            · rw [if_neg (by omega), e]
              rfl
    · rw [if_neg (fun q => hs ((mask_iff hC hG hg hb).mp q))]
      refine nx _ ?_
      unfold betV
      rw [if_pos (by omega), if_pos (by omega)]
theorem bought_q {A : LA} {M : Mem} (h : Rel A M) (y : Int32) : qR (fX12_bought M y) (fun M1 => fX13_bought M1 y) M := by
  have hG : aN A 4 ≤ 7 := h.1.2.2.2.2.1
  have hC : aN A 3 ≤ 7 := h.1.2.2.2.1
  have pC := pow_128 (aN A 3) (by omega)
  have pG := pow_128 (aN A 4) (by omega)
  have qC : 0 < 2 ^ aN A 3 := Nat.two_pow_pos _
  have qG : 0 < 2 ^ aN A 4 := Nat.two_pow_pos _
  by_cases hy : y < 0 ∨ (1 : Int32) < y
  · refine ⟨.error 1, ?_, fun M1 f => ?_⟩
    · unfold fX12_bought
      rw [needWhat_eq, if_pos hy, bE_er]
    · show simM (fX13_bought M1 _) M1 _
      unfold fX13_bought
      rw [pu_s, gW_eq m00, if_pos hy]
      exact sM_er M0_ro
  · refine ⟨.ok (if y = 0 then fO (blkV A (rB M 0) (2 ^ aN A 4)) else lO (blkV A (rB M 0) (2 ^ aN A 4))), ?_, fun M1 f => ?_⟩
    · unfold fX12_bought
      rw [needWhat_eq, if_neg hy, bE_ok]
      exact bgtC_l h (2 ^ aN A 4) 0 FU (by omega) (by show _ < 100000; omega)
    · show simM (fX13_bought M1 _) M1 _
      have hL := m0L (h.ro f).2.2.1
      have e0 : rB (sI M1 103 0 0) 0 = rB M 0 := by rw [show rB (sI M1 103 0 0) 0 = rB M1 0 from M0_ro.rB, f.rB]
      have := bgtM_l (w := y) hL h.1 e0 h.okR (128 * (2 ^ aN A 4 - 1) + (2 ^ aN A 3 - 1) + 1) 0 0 FU (by decide) (by omega) (by show _ < 100000; omega)
      unfold fX13_bought
      rw [pu_s, gW_eq m00, if_neg hy, pu_s, hL.2.2.2.1, pu_s, hL.2.2.2.2.1, shl_nI _ (by omega), shl_nI _ (by omega), nI_m1 (by omega), nI_m1 (by omega), pu_s, Int32.or_comm, glue_nI (by omega) (by omega)]
      rw [show fX13_bought_l42 FU (sI M1 103 0 0) y (nI (128 * (2 ^ aN A 4 - 1) + (2 ^ aN A 3 - 1))) (-1) 0 = _ from this]
      exact sM_ok M0_ro m00
