/-! IMAGE, RESTORE -/
theorem x1b_ok {M : Mem} {x y n : Nat} (hx : kd x = 0) (hy : kd y = 0) (hxy : x + 1 < y ∨ y + 1 < x) (h : gI M y 0 = nI n) (hn : n ≤ 40) : ∃ M1, fX1_become M x y = some M1 ∧ gI M1 x 0 = nI n ∧ (∀ k, k < 31 * n → gI M1 (x + 1) k = gI M (y + 1) k) ∧ (∀ b j, b ≠ x + 1 → (b = x → j ≠ 0) → gI M1 b j = gI M b j) ∧ M1.2 = M.2 := by
  refine ⟨aI (sI M x 0 (nI n)) (x + 1) (va_cpy (gI (sI M x 0 (nI n)) (y + 1)) (gI (sI M x 0 (nI n)) (x + 1)) 0 0 (n * 31)), ?_, ?_, fun k hk => ?_, fun b j h1 h2 => ?_, rfl⟩
  · unfold fX1_become
    rw [ck_t hx, ck_t hy]
    simp only [pu_s]
    rw [h, gI_ss, show (31 : Int32) = nI 31 from rfl, pk_mul, show (0 : Int32) = nI 0 from rfl, cp_nI (by omega) (by omega) (by decide) (by decide)]
  · rw [gI_ai, if_neg (by omega), gI_ss]
  · rw [gI_ai, if_pos rfl]
    unfold va_cpy
    rw [if_pos (by omega), gI_sa (by omega)]
    congr 1
    omega
  · rw [gI_ai, if_neg h1, gI_sI, if_neg (fun q => h2 q.1 q.2)]
theorem x9b_ok {M : Mem} {x y : Nat} (hx : kd x = 8) (hy : kd y = 8) (hxy : x + 2 < y ∨ y + 2 < x) : ∃ M1, fX9_become M x y = some M1 ∧ gI M1 x 0 = gI M y 0 ∧ (∀ k, k < 8 → gI M1 (x + 1) k = gI M (y + 1) k ∧ gI M1 (x + 2) k = gI M (y + 2) k) ∧ (∀ b j, b ≠ x + 1 → b ≠ x + 2 → (b = x → j ≠ 0) → gI M1 b j = gI M b j) ∧ M1.2 = M.2 := by
  have e : ∀ {β : Type} (N : Mem) (a c : Nat) (k : Mem → Option β), cpI N a 8 0 c 8 0 8 k = k (aI N c (va_cpy (gI N a) (gI N c) 0 0 8)) := fun N a c k => cp_nI (sp := 0) (dp := 0) (n := 8) (by decide) (by decide) (by decide) (by decide)
  refine ⟨aI (aI (sI M x 0 (gI M y 0)) (x + 1) (va_cpy (gI (sI M x 0 (gI M y 0)) (y + 1)) (gI (sI M x 0 (gI M y 0)) (x + 1)) 0 0 8)) (x + 2) (va_cpy (gI (aI (sI M x 0 (gI M y 0)) (x + 1) (va_cpy (gI (sI M x 0 (gI M y 0)) (y + 1)) (gI (sI M x 0 (gI M y 0)) (x + 1)) 0 0 8)) (y + 2)) (gI (aI (sI M x 0 (gI M y 0)) (x + 1) (va_cpy (gI (sI M x 0 (gI M y 0)) (y + 1)) (gI (sI M x 0 (gI M y 0)) (x + 1)) 0 0 8)) (x + 2)) 0 0 8), ?_, ?_, fun k hk => ⟨?_, ?_⟩, fun b j h1 h2 h3 => ?_, rfl⟩
  · unfold fX9_become
    rw [ck_t hx, ck_t hy]
    simp only [pu_s]
    rw [e, e]
  · rw [gI_ai, if_neg (by omega), gI_ai, if_neg (by omega), gI_ss]
  · rw [gI_ai, if_neg (by omega), gI_ai, if_pos rfl]
    unfold va_cpy
    rw [if_pos (by omega), gI_sa (by omega)]
    congr 1
    omega
  · rw [gI_ai, if_pos rfl]
    unfold va_cpy
    rw [if_pos (by omega), gI_ai, if_neg (by omega), gI_sa (by omega)]
    congr 1
    omega
  · rw [gI_ai, if_neg h2, gI_ai, if_neg h1, gI_sI, if_neg (fun q => h3 q.1 q.2)]
theorem copies_l {M0 : Mem} {a b N : Nat} (ha : kd a = 20) (hb : kd b = 20) (la : ln a = N) (lb : ln b = N) (hN : N < 10 ^ 4) (hab : a ≠ b) : ∀ (d i fuel : Nat) (M : Mem), (∀ c j, c ≠ b → gI M c j = gI M0 c j) → M.2 = M0.2 → (∀ k, k < i → gI M b k = gI M0 a k) → i + d = N → d < fuel → ∃ M1, fX13_copies_l2 fuel M a b (nI i) = some M1 ∧ (∀ k, k < N → gI M1 b k = gI M0 a k) ∧ (∀ c j, c ≠ b → gI M1 c j = gI M0 c j) ∧ M1.2 = M0.2 := by
  intro d
  induction d with
  | zero =>
    intro i fuel M h1 h2 h3 hi hf
    obtain ⟨m, rfl⟩ : ∃ m, fuel = m + 1 := ⟨fuel - 1, by omega⟩
    rw [fX13_copies_l2, ck_t ha, ck_t hb, la, show Int32.ofNat N = nI N from rfl, if_neg (by rw [lt_nI (by omega) (by omega)]; omega)]
    exact ⟨M, rfl, fun k hk => h3 k (by omega), h1, h2⟩
  | succ d ih =>
    intro i fuel M h1 h2 h3 hi hf
    obtain ⟨m, rfl⟩ : ∃ m, fuel = m + 1 := ⟨fuel - 1, by omega⟩
    rw [fX13_copies_l2, ck_t ha, ck_t hb, la, lb, show Int32.ofNat N = nI N from rfl, if_pos (by rw [lt_nI (by omega) (by omega)]; omega), ldI_nI (by omega) (by omega), stI_nI (by omega) (by omega), pu_s, nI_1, h1 a i hab]
    refine ih (i + 1) m _ (fun c j hc => by rw [gI_sa hc]; exact h1 c j hc) h2 (fun k hk => ?_) (by omega) (by omega)
    by_cases e : k = i
    · rw [e, gI_ss]
    · rw [gI_sj e]; exact h3 k (by omega)
theorem copies_ok {M : Mem} {a b N : Nat} (ha : kd a = 20) (hb : kd b = 20) (la : ln a = N) (lb : ln b = N) (hN : N < 10 ^ 4) (hab : a ≠ b) : ∃ M1, fX13_copies M a b = some M1 ∧ (∀ k, k < N → gI M1 b k = gI M a k) ∧ (∀ c j, c ≠ b → gI M1 c j = gI M c j) ∧ M1.2 = M.2 := by
  unfold fX13_copies
  rw [ck_t ha, ck_t hb]
  exact copies_l ha hb la lb hN hab N 0 FU M (fun _ _ _ => rfl) rfl (fun k hk => absurd hk (by omega)) (by omega) (by show N < 100000; omega)
theorem imagM_l {M0 : Mem} : ∀ (d i fuel : Nat) (M : Mem), (∀ c j, c ≠ 141 → gI M c j = gI M0 c j) → M.2 = M0.2 → (∀ k, k < i → gI M 141 k = gI M0 133 k) → i + d = 31 → d < fuel → ∃ M1, fX13_image_l28 fuel M (nI i) = some M1 ∧ (∀ k, k < 31 → gI M1 141 k = gI M0 133 k) ∧ (∀ k, k < 1240 → gI M1 142 k = gI M0 134 k) ∧ (∀ k, k < 16 → gI M1 143 k = gI M0 138 k) ∧ (∀ c j, c ≠ 141 → c ≠ 142 → c ≠ 143 → gI M1 c j = gI M0 c j) ∧ M1.2 = M0.2 := by
  intro d
  induction d with
  | zero =>
    intro i fuel M h1 h2 h3 hi hf
    obtain ⟨m, rfl⟩ : ∃ m, fuel = m + 1 := ⟨fuel - 1, by omega⟩
    have hi31 : i = 31 := by omega
    subst hi31
    obtain ⟨M1, a1, a2, a3, a4⟩ := copies_ok (M := M) (a := 134) (b := 142) (N := 1240) (by decide) (by decide) (by decide) (by decide) (by decide) (by decide)
    obtain ⟨M2, b1, b2, b3, b4⟩ := copies_ok (M := M1) (a := 138) (b := 143) (N := 16) (by decide) (by decide) (by decide) (by decide) (by decide) (by decide)
    rw [fX13_image_l28, show (31 : Int32) = nI 31 from rfl, if_neg (by rw [lt_nI (by decide) (by decide)]; omega), a1, b1_s, b1, b1_s]
    refine ⟨M2, rfl, fun k hk => ?_, fun k hk => ?_, fun k hk => ?_, fun c j q1 q2 q3 => ?_, by rw [b4, a4, h2]⟩
    · rw [b3 141 k (by decide), a3 141 k (by decide), h3 k hk]
    · rw [b3 142 k (by decide), a2 k hk, h1 134 k (by decide)]
    · rw [b2 k hk, a3 138 k (by decide), h1 138 k (by decide)]
    · rw [b3 c j q3, a3 c j q2, h1 c j q1]
  | succ d ih =>
    intro i fuel M h1 h2 h3 hi hf
    obtain ⟨m, rfl⟩ : ∃ m, fuel = m + 1 := ⟨fuel - 1, by omega⟩
    rw [fX13_image_l28, show (31 : Int32) = nI 31 from rfl, if_pos (by rw [lt_nI (by omega) (by decide)]; omega), ldI_nI (by omega) (by decide), stI_nI (by omega) (by decide), pu_s, nI_1, h1 133 i (by decide)]
    refine ih (i + 1) m _ (fun c j hc => by rw [gI_sa hc]; exact h1 c j hc) h2 (fun k hk => ?_) (by omega) (by omega)
    by_cases e : k = i
    · rw [e, gI_ss]
    · rw [gI_sj e]; exact h3 k (by omega)
theorem rW_sub {M M' : Mem} {a b n i : Nat} (h : ∀ k, k < 31 * n → gI M' b k = gI M a k) (hi : i < n) : rW M' b (31 * i) = rW M a (31 * i) := by
  funext j
  unfold rW
  by_cases hj : j < 31
  · have := wr_lt j hj
    have : 31 * i + 31 ≤ 31 * n := by
      have := Nat.mul_le_mul_left 31 (show i + 1 ≤ n from hi)
      omega
    rw [if_pos hj, if_pos hj, h _ (by omega)]
  · rw [if_neg hj, if_neg hj]
theorem rA_sub {M M' : Mem} {a b n i : Nat} (h : ∀ k, k < 31 * n → gI M' b k = gI M a k) (hi : i < n) : rA M' b (31 * i) = rA M a (31 * i) := by
  funext j
  unfold rA
  by_cases hj : j < 31
  · have : 31 * i + 31 ≤ 31 * n := by
      have := Nat.mul_le_mul_left 31 (show i + 1 ≤ n from hi)
      omega
    rw [if_pos hj, if_pos hj, h _ (by omega)]
  · rw [if_neg hj, if_neg hj]
theorem image_a {A : LA} {M : Mem} (h : Rel A M) : ∃ M1 M2, fX12_image M = some M1 ∧ fX13_image M1 = some M2 ∧ Rel A M2 := by
  obtain ⟨h1, h2, h3, h4, h5, h6, h7, h8, h9, h10, h11, h12⟩ := h
  obtain ⟨n, a1, a2, a3, a4⟩ := h6
  obtain ⟨s, s1, s2, s3, s4⟩ := h7
  obtain ⟨C1, c1, c2, c3, c4⟩ := write_ok (M := M) (k := 81) (a := 96) (p := 0) (n := 31) (by decide) (by decide) (by decide) (by decide) (by decide) (by decide)
  obtain ⟨C2, d1, d2, d3, d4, d5⟩ := x1b_ok (M := C1) (x := 97) (y := 91) (n := n) (by decide) (by decide) (by decide) (by rw [c3 91 0 (by decide)]; exact a2) a1
  obtain ⟨C3, e1, e2, e3, e4, e5⟩ := x9b_ok (M := C2) (x := 99) (y := 93) (by decide) (by decide) (by decide)
  -- the class side
  have gC : ∀ b j, (b < 96 ∨ 101 < b) → gI C3 b j = gI M b j := fun b j q => by
    rw [e4 b j (by omega) (by omega) (by omega), d4 b j (by omega) (by omega), c3 b j (by omega)]
  let M1 := sI C3 0 11 1
  have gM1 : ∀ b j, (b < 96 ∨ 101 < b) → (b = 0 → j ≠ 11) → gI M1 b j = gI M b j := fun b j q q2 => by
    show gI (sI C3 0 11 1) b j = _
    rw [gI_sI, if_neg (fun z => q2 z.1 z.2)]; exact gC b j q
  let M0 := sI (sI (sI (sI M1 103 0 0) 103 74 1) 103 75 (nI n)) 103 76 (nI s)
  obtain ⟨M2, m1, m2, m3, m4, m5, m6⟩ := imagM_l (M0 := M0) 31 0 FU M0 (fun _ _ _ => rfl) rfl (fun k hk => absurd hk (by omega)) rfl (by decide)
  have gM0 : ∀ b j, (b = 103 → j ≠ 0 ∧ j ≠ 74 ∧ j ≠ 75 ∧ j ≠ 76) → gI M0 b j = gI M1 b j := fun b j q => by
    show gI (sI (sI (sI (sI M1 103 0 0) 103 74 1) 103 75 (nI n)) 103 76 (nI s)) b j = _
    rw [gI_sI, if_neg (fun z => (q z.1).2.2.2 z.2), gI_sI, if_neg (fun z => (q z.1).2.2.1 z.2), gI_sI, if_neg (fun z => (q z.1).2.1 z.2), gI_sI, if_neg (fun z => (q z.1).1 z.2)]
  have g : ∀ b j, (b < 96 ∨ 101 < b) → (b = 0 → j ≠ 11) → (b = 103 → j ≠ 0 ∧ j ≠ 74 ∧ j ≠ 75 ∧ j ≠ 76) → b ≠ 141 → b ≠ 142 → b ≠ 143 → gI M2 b j = gI M b j := fun b j q1 q2 q3 q4 q5 q6 => by
    rw [m5 b j q4 q5 q6, gM0 b j q3, gM1 b j q1 q2]
  have gi : ∀ b j, 96 ≤ b → b ≤ 101 → gI M2 b j = gI C3 b j := fun b j q1 q2 => by
    rw [m5 b j (by omega) (by omega) (by omega), gM0 b j (by omega)]
    show gI (sI C3 0 11 1) b j = _
    rw [gI_sa (by omega)]
  have e2' : M2.2 = M.2 := by
    rw [m6]
    show C3.2 = M.2
    rw [e5, d5, c4]
  have eC : rC M2 81 = rC M 81 := by
    funext j
    unfold rC
    by_cases hj : j < 31
    · have := pl_4 j hj
      rw [if_pos hj, if_pos hj, g _ _ (by omega) (by omega) (by omega) (by omega) (by omega) (by omega)]
    · rw [if_neg hj, if_neg hj]
  have eB : rB M2 0 = rB M 0 := by
    funext j
    unfold rB
    rw [g 133 _ (by decide) (fun e => absurd e (by decide)) (fun e => absurd e (by decide)) (by decide) (by decide) (by decide)]
  have row96 : rW M2 96 0 = rB M 0 := by
    rw [← h4, ← c2]
    refine rW_mv fun j => ?_
    rw [gi 96 j (by decide) (by decide), e4 96 j (by decide) (by decide) (fun e => absurd e (by decide)), d4 96 j (by decide) (fun e => absurd e (by decide))]
  have row141 : rA M2 141 0 = rB M 0 := by
    funext j
    unfold rA rB
    by_cases hj : j < 31
    · rw [if_pos hj, if_pos hj, Nat.zero_add, m2 j hj, gM0 133 j (fun e => absurd e (by decide)), gM1 133 j (by decide) (fun e => absurd e (by decide))]
    · rw [if_neg hj, if_neg hj]
  refine ⟨M1, M2, ?_, ?_, h1, h2.mv (gR_2 e2' _ _) (fun a j q => g a j (by omega) (by omega) (by omega) (by omega) (by omega) (by omega)), h3.mv (fun a j q1 q2 => g a j (by omega) (by omega) (fun e => by have := q1 e; omega) (by omega) (by omega) (by omega)), by rw [eC, eB]; exact h4, by rw [eB]; exact h5, actsR.mv ⟨n, a1, a2, a3, a4⟩ (g _ _ (by decide) (by decide) (by decide) (by decide) (by decide) (by decide)) (g _ _ (by decide) (by decide) (by decide) (by decide) (by decide) (by decide)) (fun j => g _ _ (by decide) (fun e => absurd e (by decide)) (fun e => absurd e (by decide)) (by decide) (by decide) (by decide)) (fun j => g _ _ (by decide) (fun e => absurd e (by decide)) (fun e => absurd e (by decide)) (by decide) (by decide) (by decide)), seenR.mv ⟨s, s1, s2, s3, s4⟩ (g _ _ (by decide) (by decide) (by decide) (by decide) (by decide) (by decide)) (g _ _ (by decide) (by decide) (by decide) (by decide) (by decide) (by decide)) (fun j => g _ _ (by decide) (fun e => absurd e (by decide)) (fun e => absurd e (by decide)) (by decide) (by decide) (by decide)) (fun j => g _ _ (by decide) (fun e => absurd e (by decide)) (fun e => absurd e (by decide)) (by decide) (by decide) (by decide)) (fun j => g _ _ (by decide) (fun e => absurd e (by decide)) (fun e => absurd e (by decide)) (by decide) (by decide) (by decide)), h8.mv (g _ _ (by decide) (by decide) (by decide) (by decide) (by decide) (by decide)) (g _ _ (by decide) (by decide) (by decide) (by decide) (by decide) (by decide)) (fun j => g _ _ (by decide) (fun e => absurd e (by decide)) (fun e => absurd e (by decide)) (by decide) (by decide) (by decide)) (fun j => g _ _ (by decide) (fun e => absurd e (by decide)) (fun e => absurd e (by decide)) (by decide) (by decide) (by decide)), fun i hi => ?_, ?_, Or.inr ⟨?_, ?_, by rw [row96, row141], by rw [row141]; exact h5, ⟨n, a1, ?_, ?_, fun i hi => ?_⟩, ⟨s, s1, ?_, ?_, fun i hi => ?_⟩⟩, h12.mv (by rw [e2'])⟩
  · unfold fX12_image
    rw [show fX3_write M 81 96 0 = _ from c1, b1_s, d1, b1_s, e1, b1_s, pu_s]
  · unfold fX13_image
    simp only [pu_s]
    have e64 : gI (sI (sI M1 103 0 0) 103 74 1) 103 64 = nI n := by
      rw [gI_sj (by decide), gI_sj (by decide), gM1 103 64 (by decide) (by decide)]; exact a3
    have e69 : gI (sI (sI (sI M1 103 0 0) 103 74 1) 103 75 (nI n)) 103 69 = nI s := by
      rw [gI_sj (by decide), gI_sj (by decide), gI_sj (by decide), gM1 103 69 (by decide) (by decide)]; exact s3
    rw [e64, e69]
    exact m1
  · rw [g 2 i (by decide) (fun e => absurd e (by decide)) (fun e => absurd e (by decide)) (by decide) (by decide) (by decide), g 117 i (by decide) (fun e => absurd e (by decide)) (fun e => absurd e (by decide)) (by decide) (by decide) (by decide)]
    exact h9 i hi
  · rw [g 0 2 (by decide) (by decide) (by decide) (by decide) (by decide) (by decide), g 103 23 (by decide) (by decide) (by decide) (by decide) (by decide) (by decide)]
    exact h10
  · rw [m5 0 11 (by decide) (by decide) (by decide), gM0 0 11 (by decide)]
    exact gI_ss
  · rw [m5 103 74 (by decide) (by decide) (by decide)]
    show gI (sI (sI (sI (sI M1 103 0 0) 103 74 1) 103 75 (nI n)) 103 76 (nI s)) 103 74 = 1
    rw [gI_sj (by decide), gI_sj (by decide), gI_ss]
  · rw [gi 97 0 (by decide) (by decide), e4 97 0 (by decide) (by decide) (by decide), d2]
  · rw [m5 103 75 (by decide) (by decide) (by decide)]
    show gI (sI (sI (sI (sI M1 103 0 0) 103 74 1) 103 75 (nI n)) 103 76 (nI s)) 103 75 = _
    rw [gI_sj (by decide), gI_ss]
  · have r1 : rW M2 (97 + 1) (31 * i) = rW M 92 (31 * i) := rW_sub (n := n) (fun k hk => by
      rw [gi (97 + 1) k (by decide) (by decide), e4 (97 + 1) k (by decide) (by decide) (fun e => absurd e (by decide)), d3 k hk, c3 (91 + 1) k (fun e => absurd e (by decide))]) hi
    have r2 : rA M2 142 (31 * i) = rA M 134 (31 * i) := rA_sub (n := n) (fun k hk => by
      rw [m3 k (by omega), gM0 134 k (fun e => absurd e (by decide)), gM1 134 k (by decide) (fun e => absurd e (by decide))]) hi
    rw [r1, r2]
    exact a4 i hi
  · rw [gi 99 0 (by decide) (by decide), e2, d4 93 0 (by decide) (by decide), c3 93 0 (by decide)]
    exact s2
  · rw [m5 103 76 (by decide) (by decide) (by decide)]
    exact gI_ss
  · obtain ⟨y, z, p1, p2, p3, p4, p5, p6, p7⟩ := s4 i hi
    obtain ⟨f1, f2⟩ := e3 i (by omega)
    refine ⟨y, z, p1, p2, p3, ?_, ?_, ?_, ?_⟩
    · rw [gi (99 + 1) i (by decide) (by decide), f1, d4 (93 + 1) i (by decide) (fun e => absurd e (by decide)), c3 (93 + 1) i (fun e => absurd e (by decide))]; exact p4
    · rw [gi (99 + 2) i (by decide) (by decide), f2, d4 (93 + 2) i (by decide) (fun e => absurd e (by decide)), c3 (93 + 2) i (fun e => absurd e (by decide))]; exact p5
    · rw [m4 _ (by omega), gM0 138 _ (fun e => absurd e (by decide)), gM1 138 _ (by decide) (fun e => absurd e (by decide))]; exact p6
    · rw [m4 _ (by omega), gM0 138 _ (fun e => absurd e (by decide)), gM1 138 _ (by decide) (fun e => absurd e (by decide))]; exact p7
