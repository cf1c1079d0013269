/-! QUESTIONS: parties -/
def bt (p i : Nat) : Int32 := if p.testBit i = true then 1 else 0
theorem bt_eq : ∀ p, p < 64 → ∀ i, i < 6 → ((nI p) >>> ((nI i) &&& 31 : Int32)) &&& 1 = bt p i := by decide +kernel
/-- what the others of i's table do to i -/
def oth (p i j : Nat) : Int32 := if j = i then 0 else if bt p j = bt p i then 2 else -2
def oths (p i : Nat) : Nat → Int32
  | 0 => 0
  | j + 1 => oths p i j + oth p i j
def bc (p : Nat) : Nat → Int32
  | 0 => 0
  | j + 1 => bc p j + bt p j
theorem bc_eq : ∀ p, p < 64 → fJ6_bitCount_0f7a4 (nI p) = some (bc p 6) := by decide +kernel
theorem oths_eq : ∀ n, n < 7 → ∀ p, p < 2 ^ n → ∀ i, i < n → 2 * ((if bt p i = 0 then nI n - bc p 6 else bc p 6) - 1) - 2 * (nI n - (if bt p i = 0 then nI n - bc p 6 else bc p 6)) = oths p i n := by decide +kernel
theorem shl_n : ∀ n, n < 7 → (1 : Int32) <<< ((nI n) &&& 31 : Int32) = nI (2 ^ n) := by decide +kernel
theorem pow_64 : ∀ n, n < 7 → 2 ^ n ≤ 64 := by decide +kernel
def feel (r : Nat → Int32) (n p i : Nat) : Int32 := (if bt p i = 0 then -(r (25 + i)) else r (25 + i)) + oths p i n
def restL (r : Nat → Int32) (n p : Nat) : Nat → Nat → Int32
  | 0, _ => 1
  | d + 1, i => if feel r n p i < 0 then 0 else restL r n p d (i + 1)
theorem bt_01 (p i : Nat) : bt p i = 0 ∨ bt p i = 1 := by
  unfold bt
  split
  · exact Or.inr rfl
  · exact Or.inl rfl
theorem restC_l {M : Mem} {r : Nat → Int32} {n p : Nat} (hn : n ≤ 6) (hp : p < 2 ^ n) (hr : ∀ i, i < 6 → gI M 85 i = r (25 + i)) : ∀ (d i fuel : Nat), i + d = n → d < fuel → fX12_rests_l19 fuel M (nI p) (nI n) (bc p 6) (nI i) = some (restL r n p d i) := by
  have h64 : p < 64 := Nat.lt_of_lt_of_le hp (pow_64 n (by omega))
  intro d
  induction d with
  | zero =>
    intro i fuel hi hf
    obtain ⟨m, rfl⟩ : ∃ m, fuel = m + 1 := ⟨fuel - 1, by omega⟩
    rw [fX12_rests_l19, if_neg (by rw [lt_nI (by omega) (by omega)]; omega)]
    rfl
  | succ d ih =>
    intro i fuel hi hf
    obtain ⟨m, rfl⟩ : ∃ m, fuel = m + 1 := ⟨fuel - 1, by omega⟩
    have key : ∀ (s t u : Int32), s = (if bt p i = 0 then nI n - bc p 6 else bc p 6) → t = (if bt p i = 0 then -(r (25 + i)) else r (25 + i)) → fX12_rests_b84 (fX12_rests_l19 m) M (nI p) (nI n) (bc p 6) (nI i) s t = some (restL r n p (d + 1) i) := by
      intro s t u hs ht
      unfold fX12_rests_b84
      have e : (t + (2 * (s - 1))) - (2 * (nI n - s)) = feel r n p i := by
        unfold feel
        rw [← oths_eq n (by omega) p hp i (by omega), ← hs, ← ht, Int32.sub_eq_add_neg, Int32.sub_eq_add_neg (a := 2 * (s - 1)), Int32.add_assoc]
      rw [e, restL]
      split
      · rfl
      · rw [pu_s, nI_1]
        exact ih (i + 1) m (by omega) (by omega)
    rw [fX12_rests_l19, if_pos (by rw [lt_nI (by omega) (by omega)]; omega), bt_eq p h64 i (by omega)]
    unfold fX12_rests_b39 fX12_rests_b53
    rcases bt_01 p i with q | q
    · rw [if_pos q, if_pos rfl, if_pos rfl, ldI_nI (by omega) (by decide), hr i (by omega)]
      exact key _ _ 0 (by rw [if_pos q]) (by rw [if_pos q])
    · rw [if_neg (by rw [q]; decide), if_neg (by decide), if_neg (by decide), ldI_nI (by omega) (by decide), hr i (by omega)]
      exact key _ _ 0 (by rw [if_neg (by rw [q]; decide)]) (by rw [if_neg (by rw [q]; decide)])
theorem othM_l {M : Mem} {r : Nat → Int32} {n p i : Nat} {s : Int32} (hn : n ≤ 6) (hp : p < 2 ^ n) (hi6 : i < n) (h3 : gI M 103 3 = nI n) (a : Mem → Int32 → Int32 → Option Int32) : ∀ (d j fuel : Nat), j + d = n → d < fuel → fX13_isResting_l49 a fuel M (nI p) (nI i) (bt p i) (s + oths p i j) (nI j) = if s + oths p i n < 0 then some 0 else a M (nI p) (nI (i + 1)) := by
  have h64 : p < 64 := Nat.lt_of_lt_of_le hp (pow_64 n (by omega))
  intro d
  induction d with
  | zero =>
    intro j fuel hj hf
    obtain ⟨m, rfl⟩ : ∃ m, fuel = m + 1 := ⟨fuel - 1, by omega⟩
    rw [fX13_isResting_l49, pu_s, h3, if_neg (by rw [lt_nI (by omega) (by omega)]; omega), pu_s, nI_1, show j = n by omega]
  | succ d ih =>
    intro j fuel hj hf
    obtain ⟨m, rfl⟩ : ∃ m, fuel = m + 1 := ⟨fuel - 1, by omega⟩
    have nx : ∀ v : Int32, v = s + oths p i (j + 1) → fX13_isResting_b85 a (fX13_isResting_l49 a m) M (nI p) (nI i) (bt p i) v (nI j) = if s + oths p i n < 0 then some 0 else a M (nI p) (nI (i + 1)) := fun v hv => by
      unfold fX13_isResting_b85
      rw [pu_s, nI_1, hv]
      exact ih (j + 1) m (by omega) (by omega)
    rw [fX13_isResting_l49, pu_s, h3, if_pos (by rw [lt_nI (by omega) (by omega)]; omega), bt_eq p h64 j (by omega)]
    by_cases e : j = i
    · rw [if_pos (by rw [e])]
      exact nx _ (by rw [oths, oth, if_pos e, Int32.add_zero])
    · rw [if_neg (by rw [eq_nI (by omega) (by omega)]; exact e)]
      unfold fX13_isResting_b82
      by_cases e2 : bt p j = bt p i
      · rw [if_pos e2, pu_s]
        exact nx _ (by rw [oths, oth, if_neg e, if_pos e2, Int32.add_assoc])
      · rw [if_neg e2, pu_s]
        exact nx _ (by rw [oths, oth, if_neg e, if_neg e2, Int32.add_assoc])
theorem restM_i {M : Mem} {r : Nat → Int32} {n p : Nat} (hn : n ≤ 6) (hp : p < 2 ^ n) (h3 : gI M 103 3 = nI n) (hr : ∀ i, i < 6 → gI M 133 (25 + i) = r (25 + i)) : ∀ (d i fuel : Nat), i + d = n → d < fuel → fX13_isResting_l2 fuel M (nI p) (nI i) = some (restL r n p d i) := by
  have h64 : p < 64 := Nat.lt_of_lt_of_le hp (pow_64 n (by omega))
  intro d
  induction d with
  | zero =>
    intro i fuel hi hf
    obtain ⟨m, rfl⟩ : ∃ m, fuel = m + 1 := ⟨fuel - 1, by omega⟩
    rw [fX13_isResting_l2, pu_s, h3, if_neg (by rw [lt_nI (by omega) (by omega)]; omega)]
    rfl
  | succ d ih =>
    intro i fuel hi hf
    obtain ⟨m, rfl⟩ : ∃ m, fuel = m + 1 := ⟨fuel - 1, by omega⟩
    have key : ∀ t : Int32, t = (if bt p i = 0 then -(r (25 + i)) else r (25 + i)) → fX13_isResting_b44 (fX13_isResting_l2 m) M (nI p) (nI i) (bt p i) t = some (restL r n p (d + 1) i) := fun t ht => by
      unfold fX13_isResting_b44
      have := othM_l (M := M) (r := r) (s := t) hn hp (show i < n by omega) h3 (fX13_isResting_l2 m) n 0 FU (by omega) (by show _ < 100000; omega)
      rw [show t + oths p i 0 = t from Int32.add_zero _] at this
      rw [show fX13_isResting_l49 (fX13_isResting_l2 m) FU M (nI p) (nI i) (bt p i) t 0 = _ from this, ih (i + 1) m (by omega) (by omega), restL]
      unfold feel
      rw [← ht]
      split <;> rfl
    rw [fX13_isResting_l2, pu_s, h3, if_pos (by rw [lt_nI (by omega) (by omega)]; omega), bt_eq p h64 i (by omega), pu_s, show (25 : Int32) = nI 25 from rfl, nI_add]
    rcases bt_01 p i with q | q
    · rw [if_neg (by rw [q]; decide), ldI_nI (by omega) (by decide), hr i (by omega), zsub]
      exact key _ (by rw [if_pos q])
    · rw [if_pos q, ldI_nI (by omega) (by decide), hr i (by omega)]
      exact key _ (by rw [if_neg (by rw [q]; decide)])
def parL (r : Nat → Int32) (n : Nat) (w : Int32) : Nat → Nat → Int32 → Int32 → Int32
  | 0, _, c, g => if w = 0 then c else g
  | d + 1, p, c, g => if restL r n p n 0 = 0 then parL r n w d (p + 1) c g else parL r n w d (p + 1) (c + 1) (if g = (-1) then nI p else g)
theorem parC_l {A : LA} {M : Mem} {r : Nat → Int32} {n : Nat} {w : Int32} (hL : LandC A M) (hn : n ≤ 6) (en : aN A 2 = n) (hr : ∀ i, i < 6 → gI M 85 i = r (25 + i)) : ∀ (d p fuel : Nat) (c g : Int32), p + d = 2 ^ n → d < fuel → fX12_parties_l13 fuel M w c g (nI p) = some (.ok (parL r n w d p c g)) := by
  have hp6 := pow_64 n (by omega)
  intro d
  induction d with
  | zero =>
    intro p fuel c g hp hf
    obtain ⟨m, rfl⟩ : ∃ m, fuel = m + 1 := ⟨fuel - 1, by omega⟩
    rw [fX12_parties_l13, pu_s, ck_t hL.1, pu_s, hL.2.2.2.1, en, shl_n n (by omega), if_neg (by rw [lt_nI (by omega) (by omega)]; omega), parL]
    split <;> rfl
  | succ d ih =>
    intro p fuel c g hp hf
    obtain ⟨m, rfl⟩ : ∃ m, fuel = m + 1 := ⟨fuel - 1, by omega⟩
    have hlt : p < 2 ^ n := by omega
    have er : fX12_rests M (nI p) = some (restL r n p n 0) := by
      unfold fX12_rests
      rw [pu_s, ck_t hL.1, pu_s, hL.2.2.2.1, en, bc_eq p (by omega), b1_s]
      exact restC_l hn hlt hr n 0 FU (by omega) (by show _ < 100000; omega)
    rw [fX12_parties_l13, pu_s, ck_t hL.1, pu_s, hL.2.2.2.1, en, shl_n n (by omega), if_pos (by rw [lt_nI (by omega) (by omega)]; omega), er, b1_s, parL]
    unfold fX12_parties_b50
    by_cases q : restL r n p n 0 = 0
    · rw [if_pos q, if_pos q, pu_s, nI_1]
      exact ih (p + 1) m c g (by omega) (by omega)
    · rw [if_neg q, if_neg q, pu_s]
      by_cases q2 : g = (-1)
      · rw [if_pos q2, if_pos q2, pu_s, nI_1]
        exact ih (p + 1) m _ _ (by omega) (by omega)
      · rw [if_neg q2, if_neg q2, pu_s, nI_1]
        exact ih (p + 1) m _ _ (by omega) (by omega)
theorem parM_l {M : Mem} {r : Nat → Int32} {n : Nat} {w : Int32} (hn : n ≤ 6) (h3 : gI M 103 3 = nI n) (hr : ∀ i, i < 6 → gI M 133 (25 + i) = r (25 + i)) : ∀ (d p fuel : Nat) (c g : Int32), p + d = 2 ^ n → d < fuel → fX13_parties_l23 fuel M w c g (nI p) = some (parL r n w d p c g, M) := by
  have hp6 := pow_64 n (by omega)
  intro d
  induction d with
  | zero =>
    intro p fuel c g hp hf
    obtain ⟨m, rfl⟩ : ∃ m, fuel = m + 1 := ⟨fuel - 1, by omega⟩
    rw [fX13_parties_l23, pu_s, h3, shl_n n (by omega), if_neg (by rw [lt_nI (by omega) (by omega)]; omega), parL]
    split <;> rfl
  | succ d ih =>
    intro p fuel c g hp hf
    obtain ⟨m, rfl⟩ : ∃ m, fuel = m + 1 := ⟨fuel - 1, by omega⟩
    have hlt : p < 2 ^ n := by omega
    have er : fX13_isResting M (nI p) = some (restL r n p n 0) := restM_i hn hlt h3 hr n 0 FU (by omega) (by show _ < 100000; omega)
    rw [fX13_parties_l23, pu_s, h3, shl_n n (by omega), if_pos (by rw [lt_nI (by omega) (by omega)]; omega), er, b1_s, parL]
    unfold fX13_parties_b57
    by_cases q : restL r n p n 0 = 0
    · rw [if_pos q, if_pos q, pu_s, nI_1]
      exact ih (p + 1) m c g (by omega) (by omega)
    · rw [if_neg q, if_neg q, pu_s]
      by_cases q2 : g = (-1)
      · rw [if_pos q2, if_pos q2, pu_s, nI_1]
        exact ih (p + 1) m _ _ (by omega) (by omega)
      · rw [if_neg q2, if_neg q2, pu_s, nI_1]
        exact ih (p + 1) m _ _ (by omega) (by omega)
theorem parties_q {A : LA} {M : Mem} (h : Rel A M) (y : Int32) : qR (fX12_parties M y) (fun M1 => fX13_parties M1 y) M := by
  have h6 : aN A 2 ≤ 6 := h.1.2.2.1
  by_cases hy : y < 0 ∨ (1 : Int32) < y
  · refine ⟨.error 1, ?_, fun M1 f => ?_⟩
    · unfold fX12_parties
      rw [needWhat_eq, if_pos hy, bE_er]
    · show simM (fX13_parties M1 _) M1 _
      unfold fX13_parties
      rw [pu_s, gW_eq m00, if_pos hy]
      exact sM_er M0_ro
  · refine ⟨.ok (parL (rB M 0) (aN A 2) y (2 ^ aN A 2) 0 0 (-1)), ?_, fun M1 f => ?_⟩
    · unfold fX12_parties
      rw [needWhat_eq, if_neg hy, bE_ok]
      exact parC_l h.2.1 h6 rfl (fun i hi => by rw [show (85 : Nat) = 81 + 4 from rfl, gC_a4 hi, rC81 h]) _ 0 FU 0 (-1) (by omega) (by have := pow_64 (aN A 2) (by omega); show _ < 100000; omega)
    · show simM (fX13_parties M1 _) M1 _
      unfold fX13_parties
      rw [pu_s, gW_eq m00, if_neg hy]
      have := parM_l (M := sI M1 103 0 0) (r := rB M 0) (w := y) h6 (m0L (h.ro f).2.2.1).2.2.1 (fun i hi => by rw [gI_sa (by decide), gB0 (by omega), f.rB]) (2 ^ aN A 2) 0 FU 0 (-1) (by omega) (by have := pow_64 (aN A 2) (by omega); show _ < 100000; omega)
      rw [show fX13_parties_l23 FU (sI M1 103 0 0) y 0 (-1) 0 = _ from this]
      exact sM_ok M0_ro m00
