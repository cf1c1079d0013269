/-! bought, the reference's side -/
def paid (A : LA) (r : Nat → Int32) (s c j : Nat) : Prop := winR A r c j = true → s.testBit c = true ∨ s.testBit (7 + j) = true
theorem bt0 {p i : Nat} : bt p i = 0 ↔ ¬ p.testBit i = true := by
  unfold bt
  by_cases h : p.testBit i = true
  · rw [if_pos h]; simp [h]
  · rw [if_neg h]; simp [h]
theorem ibI {A : LA} {M : Mem} {Y Z s c : Nat} {r : Nat → Int32} (hL : LandM A M) (hA : okA A) (hr : rB M 0 = r) (hR : okR A Y Z r) (hs : s < 16384) (hc : c < aN A 3) (a : Mem → Int32 → Int32 → Option Int32) : ∀ (d j fuel : Nat), j + d = aN A 4 → d < fuel →
    ((∀ k, j ≤ k → k < aN A 4 → paid A r s c k) ∧ fX13_isBought_l12 a fuel M (nI s) (nI c) (nI j) = a M (nI s) (nI (c + 1))) ∨ ((∃ k, k < aN A 4 ∧ ¬ paid A r s c k) ∧ fX13_isBought_l12 a fuel M (nI s) (nI c) (nI j) = some 0) := by
  have h7 : aN A 4 ≤ 7 := hA.2.2.2.2.1
  have h73 : aN A 3 ≤ 7 := hA.2.2.2.1
  intro d
  induction d with
  | zero =>
    intro j fuel hj hf
    obtain ⟨m, rfl⟩ : ∃ m, fuel = m + 1 := ⟨fuel - 1, by omega⟩
    refine Or.inl ⟨fun k h1 h2 => absurd h2 (by omega), ?_⟩
    rw [fX13_isBought_l12, pu_s, hL.2.2.2.2.1, if_neg (by rw [lt_nI (by omega) (by omega)]; omega), pu_s, nI_1]
  | succ d ih =>
    intro j fuel hj hf
    obtain ⟨m, rfl⟩ : ∃ m, fuel = m + 1 := ⟨fuel - 1, by omega⟩
    have nx : paid A r s c j → ((∀ k, j ≤ k → k < aN A 4 → paid A r s c k) ∧ fX13_isBought_b50 a (fX13_isBought_l12 a m) M (nI s) (nI c) (nI j) = a M (nI s) (nI (c + 1))) ∨ ((∃ k, k < aN A 4 ∧ ¬ paid A r s c k) ∧ fX13_isBought_b50 a (fX13_isBought_l12 a m) M (nI s) (nI c) (nI j) = some 0) := fun hp => by
      unfold fX13_isBought_b50
      rw [pu_s, nI_1]
      rcases ih (j + 1) m (by omega) (by omega) with ⟨q1, q2⟩ | q
      · refine Or.inl ⟨fun k h1 h2 => ?_, q2⟩
        by_cases e : k = j
        · rw [e]; exact hp
        · exact q1 k (by omega) h2
      · exact Or.inr q
    rw [fX13_isBought_l12, pu_s, hL.2.2.2.2.1, if_pos (by rw [lt_nI (by omega) (by omega)]; omega), bt_nI (by omega) (by omega), show (7 : Int32) = nI 7 from rfl, nI_add, bt_nI (by omega) (by omega), isWin_ok hL hA hr hR hc (by omega), b1_s]
    by_cases h1 : bt s c = 0
    · rw [if_pos h1]
      by_cases h2 : bt s (7 + j) = 0
      · rw [if_pos h2]
        by_cases h3 : winR A r c j = true
        · rw [if_pos h3, if_neg (by decide)]
          exact Or.inr ⟨⟨j, by omega, fun q => (q h3).elim (bt0.mp h1) (bt0.mp h2)⟩, rfl⟩
        · rw [if_neg h3, if_pos rfl]
          exact nx fun q => absurd q h3
      · rw [if_neg h2]
        exact nx fun _ => Or.inr (Decidable.byContradiction fun q => h2 (bt0.mpr q))
    · rw [if_neg h1]
      exact nx fun _ => Or.inl (Decidable.byContradiction fun q => h1 (bt0.mpr q))
theorem ibO {A : LA} {M : Mem} {Y Z s : Nat} {r : Nat → Int32} (hL : LandM A M) (hA : okA A) (hr : rB M 0 = r) (hR : okR A Y Z r) (hs : s < 16384) : ∀ (d c fuel : Nat), c + d = aN A 3 → d < fuel →
    ((∀ i, c ≤ i → i < aN A 3 → ∀ k, k < aN A 4 → paid A r s i k) ∧ fX13_isBought_l2 fuel M (nI s) (nI c) = some 1) ∨ ((∃ i, i < aN A 3 ∧ ∃ k, k < aN A 4 ∧ ¬ paid A r s i k) ∧ fX13_isBought_l2 fuel M (nI s) (nI c) = some 0) := by
  have h73 : aN A 3 ≤ 7 := hA.2.2.2.1
  intro d
  induction d with
  | zero =>
    intro c fuel hj hf
    obtain ⟨m, rfl⟩ : ∃ m, fuel = m + 1 := ⟨fuel - 1, by omega⟩
    refine Or.inl ⟨fun k h1 h2 => absurd h2 (by omega), ?_⟩
    rw [fX13_isBought_l2, pu_s, hL.2.2.2.1, if_neg (by rw [lt_nI (by omega) (by omega)]; omega)]
  | succ d ih =>
    intro c fuel hj hf
    obtain ⟨m, rfl⟩ : ∃ m, fuel = m + 1 := ⟨fuel - 1, by omega⟩
    rw [fX13_isBought_l2, pu_s, hL.2.2.2.1, if_pos (by rw [lt_nI (by omega) (by omega)]; omega)]
    rcases ibI hL hA hr hR hs (show c < aN A 3 by omega) (fX13_isBought_l2 m) (aN A 4) 0 FU (by omega) (by have := hA.2.2.2.2.1; show _ < 100000; omega) with ⟨q1, q2⟩ | ⟨⟨k, q1, q2⟩, q3⟩
    · rw [show fX13_isBought_l12 (fX13_isBought_l2 m) FU M (nI s) (nI c) 0 = _ from q2]
      rcases ih (c + 1) m (by omega) (by omega) with ⟨p1, p2⟩ | p
      · refine Or.inl ⟨fun i h1 h2 => ?_, p2⟩
        by_cases e : i = c
        · rw [e]; exact fun k hk => q1 k (by omega) hk
        · exact p1 i (by omega) h2
      · exact Or.inr p
    · exact Or.inr ⟨⟨c, by omega, k, q1, q2⟩, q3⟩
theorem need_iff {A : LA} {r : Nat → Int32} {g b : Nat} (hA : okA A) (hg : g < 128) (hb : b < 128) : (∀ i, i < aN A 3 → ∀ k, k < aN A 4 → paid A r (128 * g + b) i k) ↔ ∀ i, (needG A r g).testBit i = true → b.testBit i = true := by
  have h7 : aN A 4 ≤ 7 := hA.2.2.2.2.1
  have h73 : aN A 3 ≤ 7 := hA.2.2.2.1
  have t1 : ∀ i, i < 7 → (128 * g + b).testBit i = b.testBit i := fun i hi => by rw [show 128 * g + b = 2 ^ 7 * g + b from rfl, Nat.testBit_two_pow_mul_add g hb, if_pos hi]
  have t2 : ∀ i, (128 * g + b).testBit (7 + i) = g.testBit i := fun i => by rw [show 128 * g + b = 2 ^ 7 * g + b from rfl, Nat.testBit_two_pow_mul_add g hb, if_neg (show ¬ 7 + i < 7 by omega), show 7 + i - 7 = i by omega]
  have hf : ∀ c, fN (winR A r c) (aN A 4) < 2 ^ 31 := fun c => Nat.lt_of_lt_of_le (fN_lt _) (Nat.pow_le_pow_right (by decide) (by omega))
  constructor
  · intro h i hi
    unfold needG at hi
    rw [fN_tb, Bool.and_eq_true, decide_eq_true_eq] at hi
    obtain ⟨hi1, hi2⟩ := hi
    unfold hitB at hi2
    rw [decide_eq_true_eq, sub_nI (hf i) (by omega)] at hi2
    refine Decidable.byContradiction fun hn => hi2 fun k _ hk => ?_
    rw [fN_tb, Bool.and_eq_true, decide_eq_true_eq] at hk
    rcases h i hi1 k hk.1 hk.2 with q | q
    · rw [t1 i (by omega)] at q; exact absurd q hn
    · rw [t2] at q; exact q
  · intro h i hi k hk hw
    rw [t1 i (by omega), t2]
    by_cases hgk : g.testBit k = true
    · exact Or.inr hgk
    · refine Or.inl (h i ?_)
      unfold needG
      rw [fN_tb, decide_eq_true hi, Bool.true_and]
      unfold hitB
      rw [decide_eq_true_eq, sub_nI (hf i) (by omega)]
      intro q
      exact hgk (q k (by omega) (by rw [fN_tb, decide_eq_true hk, Bool.true_and]; exact hw))
