/-! QUESTIONS: bought -/
def fN (y : Nat → Bool) : Nat → Nat
  | 0 => 0
  | n + 1 => if y n = true then fN y n + 2 ^ n else fN y n
theorem fN_lt {y : Nat → Bool} : ∀ n, fN y n < 2 ^ n := by
  intro n
  induction n with
  | zero => exact Nat.zero_lt_one
  | succ n ih =>
    rw [fN, Nat.pow_succ]
    split <;> omega
theorem fN_tb {y : Nat → Bool} : ∀ n i, (fN y n).testBit i = (decide (i < n) && y i) := by
  intro n
  induction n with
  | zero => intro i; rw [fN, Nat.zero_testBit]; rfl
  | succ n ih =>
    intro i
    have hlt := fN_lt (y := y) n
    rw [fN]
    by_cases h : y n = true
    · rw [if_pos h, show fN y n + 2 ^ n = 2 ^ n * 1 + fN y n by omega, Nat.testBit_two_pow_mul_add 1 hlt]
      by_cases h2 : i < n
      · rw [if_pos h2, ih, decide_eq_true h2, decide_eq_true (show i < n + 1 by omega)]
      · rw [if_neg h2]
        by_cases h3 : i = n
        · subst h3
          rw [Nat.sub_self, decide_eq_true (show i < i + 1 by omega), h]; rfl
        · rw [decide_eq_false (show ¬ i < n + 1 by omega), Bool.false_and, Nat.testBit_lt_two_pow]
          exact Nat.one_lt_two_pow (by omega)
    · rw [if_neg h, ih]
      by_cases h3 : i = n
      · subst h3
        rw [Bool.eq_false_iff.mpr h, Bool.and_false, Bool.and_false]
      · by_cases h2 : i < n
        · rw [decide_eq_true h2, decide_eq_true (show i < n + 1 by omega)]
        · rw [decide_eq_false h2, decide_eq_false (show ¬ i < n + 1 by omega)]
theorem or_sh7 : ∀ n, n < 7 → ∀ p, p < 2 ^ n → nI p ||| ((1 : Int32) <<< ((nI n) &&& 31 : Int32)) = nI (p + 2 ^ n) := by decide +kernel
def bcN (p : Nat) : Nat → Nat
  | 0 => 0
  | j + 1 => bcN p j + (if p.testBit j = true then 1 else 0)
theorem bc_N (p : Nat) : ∀ n, bc p n = nI (bcN p n) := by
  intro n
  induction n with
  | zero => rfl
  | succ n ih =>
    rw [bc, bcN, ih, ← nI_add]
    unfold bt
    split <;> rfl
theorem bcN_le (p : Nat) : ∀ n, bcN p n ≤ n := by
  intro n
  induction n with
  | zero => exact Nat.le_refl _
  | succ n ih => rw [bcN]; split <;> omega
theorem bcN_mono {p q : Nat} (h : ∀ i, p.testBit i = true → q.testBit i = true) : ∀ n, bcN p n ≤ bcN q n := by
  intro n
  induction n with
  | zero => exact Nat.le_refl _
  | succ n ih =>
    rw [bcN, bcN]
    by_cases e : p.testBit n = true
    · rw [if_pos e, if_pos (h n e)]; omega
    · rw [if_neg e]; omega
/-- a champion beats a gate that g leaves -/
def hitB (A : LA) (r : Nat → Int32) (g c : Nat) : Bool := decide (¬ (nI (fN (winR A r c) (aN A 4)) &&& (nI g ^^^ (-1)) = 0))
def needG (A : LA) (r : Nat → Int32) (g : Nat) : Nat := fN (hitB A r g) (aN A 3)
def updO (o : Option Nat) (v : Nat) : Option Nat := match o with
  | none => some v
  | some w => if bcN v 14 < bcN w 14 then some v else some w
def blkV (A : LA) (r : Nat → Int32) : Nat → Option Nat
  | 0 => none
  | g + 1 => updO (blkV A r g) (128 * g + needG A r g)
theorem pow_128 : ∀ n, n < 8 → 2 ^ n ≤ 128 := by decide +kernel
theorem needG_lt {A : LA} {r : Nat → Int32} {g : Nat} (hA : okA A) : needG A r g < 128 := Nat.lt_of_lt_of_le (fN_lt _) (pow_128 _ (by have := hA.2.2.2.1; omega))
theorem blkV_some {A : LA} {r : Nat → Int32} (hA : okA A) : ∀ g, g < 128 → ∃ v, blkV A r (g + 1) = some v ∧ v < 128 * (g + 1) := by
  intro g
  induction g with
  | zero =>
    intro _
    have := needG_lt (A := A) (r := r) (g := 0) hA
    exact ⟨128 * 0 + needG A r 0, rfl, by omega⟩
  | succ g ih =>
    intro hg
    obtain ⟨w, e, hw⟩ := ih (by omega)
    have := needG_lt (A := A) (r := r) (g := g + 1) hA
    rw [blkV, e, updO]
    split
    · exact ⟨_, rfl, by omega⟩
    · exact ⟨_, rfl, by omega⟩
theorem beat_l {A : LA} {M : Mem} (h : Rel A M) {c : Nat} (hc : c < aN A 3) : ∀ (d j fuel : Nat), j + d = aN A 4 → d < fuel → fX12_beatenBy_l4 fuel M (nI c) (nI (fN (winR A (rB M 0) c) j)) (nI j) = some (nI (fN (winR A (rB M 0) c) (aN A 4))) := by
  have h7 : aN A 4 ≤ 7 := h.1.2.2.2.2.1
  intro d
  induction d with
  | zero =>
    intro j fuel hj hf
    obtain ⟨m, rfl⟩ : ∃ m, fuel = m + 1 := ⟨fuel - 1, by omega⟩
    rw [fX12_beatenBy_l4, pu_s, ck_t h.2.1.1, pu_s, h.2.1.2.2.2.2.2.1, if_neg (by rw [lt_nI (by omega) (by omega)]; omega), show j = aN A 4 by omega]
  | succ d ih =>
    intro j fuel hj hf
    obtain ⟨m, rfl⟩ : ∃ m, fuel = m + 1 := ⟨fuel - 1, by omega⟩
    obtain ⟨e1, e2⟩ := h.2.1.2.2.2.2.2.2.2.2.2.2.2.2.1 j (by omega)
    have nx : ∀ v : Int32, v = nI (fN (winR A (rB M 0) c) (j + 1)) → fX12_beatenBy_b51 (fX12_beatenBy_l4 m) M (nI c) v (nI j) = some (nI (fN (winR A (rB M 0) c) (aN A 4))) := fun v hv => by
      unfold fX12_beatenBy_b51
      rw [pu_s, nI_1, hv]
      exact ih (j + 1) m (by omega) (by omega)
    rw [fX12_beatenBy_l4, pu_s, ck_t h.2.1.1, pu_s, h.2.1.2.2.2.2.2.1, if_pos (by rw [lt_nI (by omega) (by omega)]; omega), edge_ok h hc (by omega), b1_s, pu_s, ck_t h.2.1.1, ldI_nI (by omega) (by decide), show gR M 28 0 + 11 + 1 = gR M 28 0 + 12 from rfl, e1]
    by_cases q : aF A 8 j < edgR A (rB M 0) c j
    · rw [if_pos q, pu_s, or_sh7 j (by omega) _ (fN_lt j)]
      exact nx _ (by rw [fN, if_pos (by unfold winR; exact decide_eq_true q)])
    · rw [if_neg q]
      exact nx _ (by rw [fN, if_neg (by unfold winR; rw [decide_eq_false q]; exact Bool.false_ne_true)])
theorem bgtC_in {A : LA} {M : Mem} (h : Rel A M) {g : Nat} {w f l : Int32} (hg : g < 128) (a : Mem → Int32 → Int32 → Int32 → Int32 → Option (Except Nat Int32)) : ∀ (d c fuel : Nat), c + d = aN A 3 → d < fuel → fX12_bought_l39 a fuel M w f l (nI g) (nI (fN (hitB A (rB M 0) g) c)) (nI c) = if nI g = 0 then a M w (nI (bcN g 7 + bcN (needG A (rB M 0) g) 7)) (nI (128 * g + needG A (rB M 0) g)) (nI (g + 1)) else if nI (bcN g 7 + bcN (needG A (rB M 0) g) 7) < f then a M w (nI (bcN g 7 + bcN (needG A (rB M 0) g) 7)) (nI (128 * g + needG A (rB M 0) g)) (nI (g + 1)) else a M w f l (nI (g + 1)) := by
  have h7 : aN A 3 ≤ 7 := h.1.2.2.2.1
  have hn := needG_lt (A := A) (r := rB M 0) (g := g) h.1
  intro d
  induction d with
  | zero =>
    intro c fuel hc hf
    obtain ⟨m, rfl⟩ : ∃ m, fuel = m + 1 := ⟨fuel - 1, by omega⟩
    have ec : fN (hitB A (rB M 0) g) c = needG A (rB M 0) g := by rw [show c = aN A 3 by omega]; rfl
    rw [fX12_bought_l39, pu_s, ck_t h.2.1.1, pu_s, h.2.1.2.2.2.2.1, if_neg (by rw [lt_nI (by omega) (by omega)]; omega), ec, bc7_eq g hg, b1_s, bc7_eq _ hn, b1_s, pu_s, bc_N, bc_N, nI_add]
    unfold fX12_bought_b110 fX12_bought_b122
    rw [glue_nI hg hn, pu_s, pu_s, nI_1]
    rfl
  | succ d ih =>
    intro c fuel hc hf
    obtain ⟨m, rfl⟩ : ∃ m, fuel = m + 1 := ⟨fuel - 1, by omega⟩
    have eb : fX12_beatenBy M (nI c) = some (nI (fN (winR A (rB M 0) c) (aN A 4))) := beat_l h (by omega) (aN A 4) 0 FU (by omega) (by have := h.1.2.2.2.2.1; show _ < 100000; omega)
    rw [fX12_bought_l39, pu_s, ck_t h.2.1.1, pu_s, h.2.1.2.2.2.2.1, if_pos (by rw [lt_nI (by omega) (by omega)]; omega), eb, b1_s]
    unfold fX12_bought_b80
    by_cases q : nI (fN (winR A (rB M 0) c) (aN A 4)) &&& (nI g ^^^ (-1)) = 0
    · rw [if_pos q, pu_s, nI_1, ← ih (c + 1) m (by omega) (by omega), fN, if_neg (by unfold hitB; rw [decide_eq_false (fun z => z q)]; exact Bool.false_ne_true)]
    · rw [if_neg q, pu_s, pu_s, nI_1, or_sh7 c (by omega) _ (fN_lt c), ← ih (c + 1) m (by omega) (by omega), fN, if_pos (by unfold hitB; exact decide_eq_true q)]
theorem bcN_hi {a b : Nat} (hb : b < 128) : bcN (128 * a + b) 14 = bcN b 7 + bcN a 7 := by
  have lo : ∀ d, d ≤ 7 → bcN (128 * a + b) d = bcN b d := by
    intro d
    induction d with
    | zero => intro _; rfl
    | succ d ih =>
      intro h
      rw [bcN, bcN, ih (by omega), show 128 * a + b = 2 ^ 7 * a + b from rfl, Nat.testBit_two_pow_mul_add a hb, if_pos (show d < 7 by omega)]
  have hi : ∀ d, bcN (128 * a + b) (7 + d) = bcN b 7 + bcN a d := by
    intro d
    induction d with
    | zero => rw [show 7 + 0 = 7 from rfl, lo 7 (by omega)]; exact (Nat.add_zero _).symm
    | succ d ih =>
      rw [show bcN (128 * a + b) (7 + (d + 1)) = bcN (128 * a + b) (7 + d) + (if (128 * a + b).testBit (7 + d) = true then 1 else 0) from rfl, ih, show bcN a (d + 1) = bcN a d + (if a.testBit d = true then 1 else 0) from rfl, show 128 * a + b = 2 ^ 7 * a + b from rfl, Nat.testBit_two_pow_mul_add a hb, if_neg (show ¬ 7 + d < 7 by omega), show 7 + d - 7 = d by omega, Nat.add_assoc]
  exact hi 7
def fO (o : Option Nat) : Int32 := match o with
  | none => 0
  | some v => nI (bcN v 14)
def lO (o : Option Nat) : Int32 := match o with
  | none => 0
  | some v => nI v
theorem bgtC_l {A : LA} {M : Mem} {w : Int32} (h : Rel A M) : ∀ (d g fuel : Nat), g + d = 2 ^ aN A 4 → d < fuel → fX12_bought_l13 fuel M w (fO (blkV A (rB M 0) g)) (lO (blkV A (rB M 0) g)) (nI g) = some (.ok (if w = 0 then fO (blkV A (rB M 0) (2 ^ aN A 4)) else lO (blkV A (rB M 0) (2 ^ aN A 4)))) := by
  have h7 : aN A 4 ≤ 7 := h.1.2.2.2.2.1
  have hp := pow_128 (aN A 4) (by omega)
  intro d
  induction d with
  | zero =>
    intro g fuel hg hf
    obtain ⟨m, rfl⟩ : ∃ m, fuel = m + 1 := ⟨fuel - 1, by omega⟩
    rw [fX12_bought_l13, pu_s, ck_t h.2.1.1, pu_s, h.2.1.2.2.2.2.2.1, shl_nI _ (by omega), if_neg (by rw [lt_nI (by omega) (by omega)]; omega), show g = 2 ^ aN A 4 by omega]
    split <;> rfl
  | succ d ih =>
    intro g fuel hg hf
    obtain ⟨m, rfl⟩ : ∃ m, fuel = m + 1 := ⟨fuel - 1, by omega⟩
    have hn := needG_lt (A := A) (r := rB M 0) (g := g) h.1
    have hi := bgtC_in (w := w) (f := fO (blkV A (rB M 0) g)) (l := lO (blkV A (rB M 0) g)) h (show g < 128 by omega) (fX12_bought_l13 m) (aN A 3) 0 FU (by omega) (by have := h.1.2.2.2.1; show _ < 100000; omega)
    rw [fX12_bought_l13, pu_s, ck_t h.2.1.1, pu_s, h.2.1.2.2.2.2.2.1, shl_nI _ (by omega), if_pos (by rw [lt_nI (by omega) (by omega)]; omega), show fX12_bought_l39 (fX12_bought_l13 m) FU M w (fO (blkV A (rB M 0) g)) (lO (blkV A (rB M 0) g)) (nI g) 0 0 = _ from hi]
    have ihh := ih (g + 1) m (by omega) (by omega)
    have e14 : bcN g 7 + bcN (needG A (rB M 0) g) 7 = bcN (128 * g + needG A (rB M 0) g) 14 := by rw [bcN_hi hn, Nat.add_comm]
    rw [e14]
    cases g with
    | zero =>
      rw [if_pos (show nI 0 = 0 by decide)]
      exact ihh
    | succ g =>
      obtain ⟨v, ev, hv⟩ := blkV_some (r := rB M 0) h.1 g (by omega)
      rw [if_neg (nI_ne0 (by omega) (by omega))]
      rw [blkV, ev, updO] at ihh
      rw [ev]
      have hb1 := bcN_le v 14
      have hb2 := bcN_le (128 * (g + 1) + needG A (rB M 0) (g + 1)) 14
      by_cases q : bcN (128 * (g + 1) + needG A (rB M 0) (g + 1)) 14 < bcN v 14
      · rw [if_pos (show nI (bcN (128 * (g + 1) + needG A (rB M 0) (g + 1)) 14) < fO (some v) from by unfold fO; rw [lt_nI (by omega) (by omega)]; exact q)]
        rw [if_pos q] at ihh
        exact ihh
      · rw [if_neg (show ¬ nI (bcN (128 * (g + 1) + needG A (rB M 0) (g + 1)) 14) < fO (some v) from by unfold fO; rw [lt_nI (by omega) (by omega)]; exact q)]
        rw [if_neg q] at ihh
        exact ihh
