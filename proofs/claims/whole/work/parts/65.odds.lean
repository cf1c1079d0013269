/-! QUESTIONS: odds -/
theorem or_shl : ∀ n, n < 6 → ∀ p, p < 2 ^ n → nI p ||| shl1 n = nI (p + 2 ^ n) := by decide +kernel
theorem fB_nat {y : Nat → Bool} : ∀ n, n ≤ 6 → ∃ p, p < 2 ^ n ∧ fB y n = nI p := by
  intro n
  induction n with
  | zero => intro _; exact ⟨0, by decide, rfl⟩
  | succ n ih =>
    intro hn
    obtain ⟨p, hp, e⟩ := ih (by omega)
    rw [fB, e, Nat.pow_succ]
    by_cases h : y n = true
    · rw [if_pos h, or_shl n (by omega) p hp]
      exact ⟨p + 2 ^ n, by omega, rfl⟩
    · rw [if_neg h]
      exact ⟨p, by omega, rfl⟩
theorem sub_le : ∀ p, p < 64 → ∀ q, q < 64 → p < q → ¬ (nI q &&& (nI p ^^^ (-1)) = 0) := by decide +kernel
theorem bt_hi : ∀ n, n < 7 → ∀ p, p < 2 ^ n → ∀ i, i < 6 → n ≤ i → bt p i = 0 := by decide +kernel
def chp (p q : Nat) (c : Int32) : Nat → Int32
  | 0 => 1
  | i + 1 => if bt p i = 0 then chp p q c i else if bt q i = 0 then chp p q c i * (10 - c) else chp p q c i * c
theorem chp_n {n p q : Nat} {c : Int32} (hn : n ≤ 6) (hp : p < 2 ^ n) : ∀ d, n + d ≤ 6 → chp p q c (n + d) = chp p q c n := by
  intro d
  induction d with
  | zero => intro _; rfl
  | succ d ih =>
    intro h
    rw [show n + (d + 1) = (n + d) + 1 from rfl, chp, if_pos (bt_hi n (by omega) p hp (n + d) (by omega) (by omega))]
    exact ih (by omega)
theorem chC_l {p q : Nat} {c : Int32} (hp : p < 64) (hq : q < 64) : ∀ (d i fuel : Nat), i + d = 6 → d < fuel → fX12_chances_l6 fuel (nI p) (nI q) c (chp p q c i) (nI i) = some (chp p q c 6) := by
  intro d
  induction d with
  | zero =>
    intro i fuel hi hf
    obtain ⟨m, rfl⟩ : ∃ m, fuel = m + 1 := ⟨fuel - 1, by omega⟩
    rw [fX12_chances_l6, show (6 : Int32) = nI 6 from rfl, if_neg (by rw [lt_nI (by omega) (by omega)]; omega), show i = 6 by omega]
  | succ d ih =>
    intro i fuel hi hf
    obtain ⟨m, rfl⟩ : ∃ m, fuel = m + 1 := ⟨fuel - 1, by omega⟩
    have nx : ∀ v : Int32, v = chp p q c (i + 1) → fX12_chances_b44 (fX12_chances_l6 m) (nI p) (nI q) c v (nI i) = some (chp p q c 6) := fun v hv => by
      unfold fX12_chances_b44
      rw [pu_s, nI_1, hv]
      exact ih (i + 1) m (by omega) (by omega)
    rw [fX12_chances_l6, show (6 : Int32) = nI 6 from rfl, if_pos (by rw [lt_nI (by omega) (by omega)]; omega), bt_eq p hp i (by omega), bt_eq q hq i (by omega)]
    unfold fX12_chances_b41
    by_cases h1 : bt p i = 0
    · rw [if_pos h1]
      exact nx _ (by rw [chp, if_pos h1])
    · rw [if_neg h1]
      by_cases h2 : bt q i = 0
      · rw [if_pos h2, pu_s]
        exact nx _ (by rw [chp, if_neg h1, if_pos h2])
      · rw [if_neg h2, pu_s]
        exact nx _ (by rw [chp, if_neg h1, if_neg h2])
def oddT (A : LA) (p : Nat) (c w : Int32) (q : Nat) : Int32 := if nI q &&& (nI p ^^^ (-1)) = 0 then (if menN A (nI q) (aN A 2) < w then 0 else chp p q c 6) else 0
def oddS (A : LA) (p : Nat) (c w : Int32) : Nat → Int32
  | 0 => 0
  | q + 1 => oddS A p c w q + oddT A p c w q
theorem oddS_up {A : LA} {p : Nat} {c w : Int32} (hp : p < 64) : ∀ d, p + 1 + d ≤ 64 → oddS A p c w (p + 1 + d) = oddS A p c w (p + 1) := by
  intro d
  induction d with
  | zero => intro _; rfl
  | succ d ih =>
    intro h
    rw [show p + 1 + (d + 1) = (p + 1 + d) + 1 from rfl, oddS, ih (by omega), oddT, if_neg (sub_le p hp (p + 1 + d) (by omega) (by omega)), Int32.add_zero]
theorem oddC_l {A : LA} {M : Mem} {p : Nat} {c w : Int32} (hA : okA A) (hL : LandC A M) (hp : p < 64) : ∀ (d q fuel : Nat), q + d = 64 → d < fuel → fX12_odds_l41 fuel M c w (nI p) (oddS A p c w q) (nI q) = some (.ok (oddS A p c w 64, M)) := by
  intro d
  induction d with
  | zero =>
    intro q fuel hq hf
    obtain ⟨m, rfl⟩ : ∃ m, fuel = m + 1 := ⟨fuel - 1, by omega⟩
    rw [fX12_odds_l41, show (64 : Int32) = nI 64 from rfl, if_neg (by rw [lt_nI (by omega) (by omega)]; omega), show q = 64 by omega]
  | succ d ih =>
    intro q fuel hq hf
    obtain ⟨m, rfl⟩ : ∃ m, fuel = m + 1 := ⟨fuel - 1, by omega⟩
    have nx : ∀ v : Int32, v = oddS A p c w (q + 1) → fX12_odds_b85 (fX12_odds_l41 m) M c w (nI p) v (nI q) = some (.ok (oddS A p c w 64, M)) := fun v hv => by
      unfold fX12_odds_b85
      rw [pu_s, nI_1, hv]
      exact ih (q + 1) m (by omega) (by omega)
    rw [fX12_odds_l41, show (64 : Int32) = nI 64 from rfl, if_pos (by rw [lt_nI (by omega) (by omega)]; omega)]
    by_cases h1 : nI q &&& (nI p ^^^ (-1)) = 0
    · rw [if_pos h1, menC_ok hA hL, b1_s]
      by_cases h2 : menN A (nI q) (aN A 2) < w
      · rw [if_pos h2]
        exact nx _ (by rw [oddS, oddT, if_pos h1, if_pos h2, Int32.add_zero])
      · have hc : fX12_chances (nI p) (nI q) c = some (chp p q c 6) := chC_l hp (by omega) 6 0 FU (by omega) (by decide)
        rw [if_neg h2, hc, b1_s, pu_s]
        exact nx _ (by rw [oddS, oddT, if_pos h1, if_neg h2])
    · rw [if_neg h1]
      exact nx _ (by rw [oddS, oddT, if_neg h1, Int32.add_zero])
theorem chM_l {M : Mem} {n p q : Nat} {c w x5 : Int32} (hn : n ≤ 6) (hp : p < 64) (hq : q < 64) (h3 : gI M 103 3 = nI n) (a : Mem → Int32 → Int32 → Int32 → Int32 → Int32 → Option (Int32 × Mem)) : ∀ (d i fuel : Nat), i + d = n → d < fuel → fX13_odds_l98 a fuel M c w (nI p) x5 (nI q) (chp p q c i) (nI i) = a M c w (nI p) (x5 + chp p q c n) (nI (q + 1)) := by
  intro d
  induction d with
  | zero =>
    intro i fuel hi hf
    obtain ⟨m, rfl⟩ : ∃ m, fuel = m + 1 := ⟨fuel - 1, by omega⟩
    rw [fX13_odds_l98, pu_s, h3, if_neg (by rw [lt_nI (by omega) (by omega)]; omega), pu_s]
    unfold fX13_odds_b155
    rw [pu_s, nI_1, show i = n by omega]
  | succ d ih =>
    intro i fuel hi hf
    obtain ⟨m, rfl⟩ : ∃ m, fuel = m + 1 := ⟨fuel - 1, by omega⟩
    have nx : ∀ v : Int32, v = chp p q c (i + 1) → fX13_odds_b142 a (fX13_odds_l98 a m) M c w (nI p) x5 (nI q) v (nI i) = a M c w (nI p) (x5 + chp p q c n) (nI (q + 1)) := fun v hv => by
      unfold fX13_odds_b142
      rw [pu_s, nI_1, hv]
      exact ih (i + 1) m (by omega) (by omega)
    rw [fX13_odds_l98, pu_s, h3, if_pos (by rw [lt_nI (by omega) (by omega)]; omega), bt_eq p hp i (by omega), bt_eq q hq i (by omega)]
    unfold fX13_odds_b139
    rcases bt_01 p i with h1 | h1
    · rw [if_neg (by rw [h1]; decide)]
      exact nx _ (by rw [chp, if_pos h1])
    · have h1' : ¬ bt p i = 0 := by rw [h1]; decide
      rw [if_pos h1]
      rcases bt_01 q i with h2 | h2
      · rw [if_neg (by rw [h2]; decide), pu_s]
        exact nx _ (by rw [chp, if_neg h1', if_pos h2])
      · rw [if_pos h2, pu_s]
        exact nx _ (by rw [chp, if_neg h1', if_neg (by rw [h2]; decide)])
theorem oddM_l {A : LA} {M : Mem} {p : Nat} {c w : Int32} (hA : okA A) (hL : LandM A M) (hp : p < 2 ^ aN A 2) : ∀ (d q fuel : Nat), q + d = p + 1 → d < fuel → fX13_odds_l62 fuel M c w (nI p) (oddS A p c w q) (nI q) = some (oddS A p c w (p + 1), M) := by
  have h6 : aN A 2 ≤ 6 := hA.2.2.1
  have h64 : p < 64 := Nat.lt_of_lt_of_le hp (pow_64 _ (by omega))
  intro d
  induction d with
  | zero =>
    intro q fuel hq hf
    obtain ⟨m, rfl⟩ : ∃ m, fuel = m + 1 := ⟨fuel - 1, by omega⟩
    rw [fX13_odds_l62, if_pos (by rw [lt_nI (by omega) (by omega)]; omega), show q = p + 1 by omega]
  | succ d ih =>
    intro q fuel hq hf
    obtain ⟨m, rfl⟩ : ∃ m, fuel = m + 1 := ⟨fuel - 1, by omega⟩
    have nx : ∀ v : Int32, v = oddS A p c w (q + 1) → fX13_odds_b155 (fX13_odds_l62 m) M c w (nI p) v (nI q) = some (oddS A p c w (p + 1), M) := fun v hv => by
      unfold fX13_odds_b155
      rw [pu_s, nI_1, hv]
      exact ih (q + 1) m (by omega) (by omega)
    rw [fX13_odds_l62, if_neg (by rw [lt_nI (by omega) (by omega)]; omega)]
    by_cases h1 : nI q &&& (nI p ^^^ (-1)) = 0
    · rw [if_pos h1, men_ok hA hL, b1_s]
      by_cases h2 : menN A (nI q) (aN A 2) < w
      · rw [if_pos h2]
        exact nx _ (by rw [oddS, oddT, if_pos h1, if_pos h2, Int32.add_zero])
      · rw [if_neg h2]
        have := chM_l (M := M) (c := c) (w := w) (x5 := oddS A p c w q) h6 h64 (show q < 64 by omega) hL.2.2.1 (fX13_odds_l62 m) (aN A 2) 0 FU (by omega) (by show _ < 100000; omega)
        rw [show fX13_odds_l98 (fX13_odds_l62 m) FU M c w (nI p) (oddS A p c w q) (nI q) 1 0 = _ from this]
        have e : oddS A p c w q + chp p q c (aN A 2) = oddS A p c w (q + 1) := by
          rw [oddS, oddT, if_pos h1, if_neg h2, ← chp_n h6 hp (6 - aN A 2) (by omega), show aN A 2 + (6 - aN A 2) = 6 by omega]
        rw [e]
        exact ih (q + 1) m (by omega) (by omega)
    · rw [if_neg h1]
      exact nx _ (by rw [oddS, oddT, if_neg h1, Int32.add_zero])
theorem odds_q {A : LA} {M : Mem} (h : Rel A M) (x y z : Int32) : qC (fX12_odds M x y z) (fun M1 => fX13_odds M1 x y z) M := by
  have h6 : aN A 2 ≤ 6 := h.1.2.2.1
  by_cases hx : x = 0 ∨ x = 1
  · obtain ⟨b, hb, e⟩ := bro_of hx
    have bad : ∀ M1, RO M M1 → simM (fX13_odds_b38 (sI M1 103 0 0) x y z) M1 (.error 2) := fun M1 f => by
      unfold fX13_odds_b38 fX13_odds_b39
      rw [right_eq m00 _ _ (by decide), if_pos rfl, b2_s, if_pos rfl]
      exact sM_er M0_ro
    have hm : ∀ M1, fX13_odds M1 x y z = if y < 1 ∨ (9 : Int32) < y then fX13_odds_b38 (sI M1 103 0 0) x y z else if z < 0 ∨ (54 : Int32) < z then fX13_odds_b38 (sI M1 103 0 0) x y z else fX13_odds_b39 (sI M1 103 0 0) x y z 1 := fun M1 => by
      unfold fX13_odds
      rw [pu_s, gB_eq m00, if_pos hx, within_eq, b1_s]
      by_cases hy : y < 1 ∨ (9 : Int32) < y
      · rw [if_pos hy, if_pos rfl, if_pos hy]
      · rw [if_neg hy, if_neg (by decide), if_neg hy, within_eq, b1_s]
        by_cases hz : z < 0 ∨ (54 : Int32) < z
        · rw [if_pos hz, if_pos rfl, if_pos hz]
        · rw [if_neg hz, if_neg (by decide), if_neg hz]
    by_cases hy : y < 1 ∨ (9 : Int32) < y
    · refine ⟨.error 2, ?_, fun M1 f => ?_⟩
      · show fX12_odds M x y z = _
        unfold fX12_odds
        rw [needBrother_eq, if_pos hx, bE_ok, needWithin_eq, if_pos hy, bE_er]
      · show simM (fX13_odds M1 _ _ _) M1 _
        rw [hm, if_pos hy]
        exact bad M1 f
    · by_cases hz : z < 0 ∨ (54 : Int32) < z
      · refine ⟨.error 2, ?_, fun M1 f => ?_⟩
        · show fX12_odds M x y z = _
          unfold fX12_odds
          rw [needBrother_eq, if_pos hx, bE_ok, needWithin_eq, if_neg hy, bE_ok, needWithin_eq, if_pos hz, bE_er]
        · show simM (fX13_odds M1 _ _ _) M1 _
          rw [hm, if_neg hy, if_pos hz]
          exact bad M1 f
      · obtain ⟨p, hp, ep⟩ := fB_nat (y := fun i => youR A (rB M 0) i 0 0 == (b == 1)) (aN A 2) h6
        have h64 : p < 64 := Nat.lt_of_lt_of_le hp (pow_64 _ (by omega))
        have eS : oddS A p y z 64 = oddS A p y z (p + 1) := by
          have := oddS_up (A := A) (c := y) (w := z) h64 (64 - (p + 1)) (by omega)
          rwa [show p + 1 + (64 - (p + 1)) = 64 by omega] at this
        refine ⟨.ok (oddS A p y z 64), ?_, fun M1 f => ?_⟩
        · obtain ⟨N, n1, n2⟩ := fol_ok (who := b) h.2.1 h.1 (k := 81) (by decide) (by rw [rC81 h]; exact h.okR) hb
          rw [rC81 h, folN_fBw, ep] at n1
          refine ⟨N, ?_, n2.K.RO⟩
          unfold fX12_odds
          rw [needBrother_eq, if_pos hx, bE_ok, needWithin_eq, if_neg hy, bE_ok, needWithin_eq, if_neg hz, bE_ok, e, n1, b2_s]
          exact oddC_l h.1 (h.2.1.k n2.K) h64 64 0 FU (by omega) (by decide)
        · show simM (fX13_odds M1 _ _ _) M1 _
          obtain ⟨N, r1, r2⟩ := followers_ok (b := 0) (who := b) (m0L (h.ro f).2.2.1) h.1 (by decide) hb
          rw [show rB (sI M1 103 0 0) 0 = rB M1 0 from M0_ro.rB, f.rB, folN_fBw, ep] at r1
          have := oddM_l (c := y) (w := z) h.1 ((m0L (h.ro f).2.2.1).frT r2) hp (p + 1) 0 FU (by omega) (by show _ < 100000; omega)
          rw [hm, if_neg hy, if_neg hz, e]
          unfold fX13_odds_b39
          rw [right_eq m00 _ _ (by decide), if_neg (by decide), b2_s, if_neg (by decide), show fX13_followers (sI M1 103 0 0) 0 (nI b) = _ from r1, b2_s, show fX13_odds_l62 FU N y z (nI p) 0 0 = _ from this, eS]
          exact sM_ok (M0_ro.tr r2.RO) (by rw [r2.1 103 0 (by decide) (by decide)]; exact m00)
  · refine ⟨.error 1, ?_, fun M1 f => ?_⟩
    · show fX12_odds M x y z = _
      unfold fX12_odds
      rw [needBrother_eq, if_neg hx, bE_er]
    · show simM (fX13_odds M1 _ _ _) M1 _
      unfold fX13_odds
      rw [pu_s, gB_eq m00, if_neg hx]
      exact sM_er M0_ro
