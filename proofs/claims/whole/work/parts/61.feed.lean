/-! FEED: the tape -/
theorem byte_c (y : Int32) : ∃ c : Nat, c < 256 ∧ y &&& 255 = nI c ∧ y.toInt8 = (nI c).toInt8 := by
  have e : y &&& 255 = nI (y.toBitVec.toNat % 256) := by
    rw [← Int32.toBitVec_inj, Int32.toBitVec_and]
    apply BitVec.eq_of_toNat_eq
    rw [BitVec.toNat_and, show ((255 : Int32).toBitVec).toNat = 2 ^ 8 - 1 from rfl, Nat.and_two_pow_sub_one_eq_mod]
    show _ = (BitVec.ofNat 32 (y.toBitVec.toNat % 256)).toNat
    rw [BitVec.toNat_ofNat]
    omega
  refine ⟨y.toBitVec.toNat % 256, by omega, e, ?_⟩
  rw [← e, Int32.toInt8_and]
  rw [show ((255 : Int32)).toInt8 = -1 from by decide, Int8.and_neg_one]
theorem nar_b (y : Int32) : vp_nar .byte (y.toInt8.toInt32) = y.toInt8.toInt32 := by
  show (y.toInt8.toInt32).toInt8.toInt32 = _
  rw [Int8.toInt8_toInt32]
def tC (M : Mem) (n m : Nat) (B : Nat → Int32) (M1 : Mem) : Prop := gI M1 0 1 = nI (n + m) ∧ (∀ k, k < m → gI M1 1 (n + k) = (B k).toInt8.toInt32) ∧ (∀ b j, (b = 0 → j ≠ 1) → (b = 1 → j < n) → gI M1 b j = gI M b j) ∧ M1.2 = M.2
def tM (M : Mem) (n m : Nat) (B : Nat → Int32) (M1 : Mem) : Prop := gI M1 103 21 = nI (n + m) ∧ (∀ k, k < m → gI M1 116 (n + k) = B k &&& 255) ∧ (∀ b j, (b = 103 → j ≠ 21) → (b = 116 → j < n) → gI M1 b j = gI M b j) ∧ M1.2 = M.2
def nb (m : Nat) (B : Nat → Int32) (x s : Int32) (k : Nat) : Int32 := if k = m then x >>> (s &&& 31) else B k
theorem tC.b {M M1 : Mem} {n m s : Nat} {B : Nat → Int32} (h : tC M n m B M1) (hn : n + m < 700) (hs : s < 32) (x : Int32) (f : Nat) : ∃ M2, fX12_tapeNumber_l3 (f + 1) M1 x (nI s) = fX12_tapeNumber_l3 f M2 x (nI s + (-8)) ∧ tC M n (m + 1) (nb m B x (nI s)) M2 := by
  obtain ⟨h1, h2, h3, h4⟩ := h
  refine ⟨sI (sI M1 1 (n + m) ((x >>> (nI s &&& 31)).toInt8.toInt32)) 0 1 (nI (n + (m + 1))), ?_, gI_ss, fun k hk => ?_, fun b j q1 q2 => ?_, h4⟩
  · rw [fX12_tapeNumber_l3, if_neg (nI_pos (by omega))]
    simp only [pu_s]
    rw [h1, show (700 : Int32) = nI 700 from rfl, if_pos (by rw [lt_nI (by omega) (by decide)]; exact hn), stI_nI hn (by decide), nar_b, gI_sa (by decide), h1, nI_1]
    rfl
  · rw [gI_sa (by decide)]
    unfold nb
    by_cases e : k = m
    · rw [e, gI_ss, if_pos rfl]
    · rw [gI_sj (by omega), if_neg e]
      exact h2 k (by omega)
  · rw [gI_sI, if_neg (fun z => q1 z.1 z.2), gI_sI, if_neg (fun z => by have := q2 z.1; omega)]
    exact h3 b j q1 q2
theorem tM.b {M M1 : Mem} {n m s : Nat} {B : Nat → Int32} (h : tM M n m B M1) (hn : n + m < 700) (hs : s < 32) (x : Int32) (f : Nat) : ∃ M2, fX13_lays_l3 (f + 1) M1 x (nI s) = fX13_lays_l3 f M2 x (nI s + (-8)) ∧ tM M n (m + 1) (nb m B x (nI s)) M2 := by
  obtain ⟨h1, h2, h3, h4⟩ := h
  refine ⟨sI (sI M1 116 (n + m) ((x >>> (nI s &&& 31)) &&& 255)) 103 21 (nI (n + (m + 1))), ?_, gI_ss, fun k hk => ?_, fun b j q1 q2 => ?_, h4⟩
  · rw [fX13_lays_l3, if_neg (nI_pos (by omega))]
    simp only [pu_s]
    rw [h1, stI_nI hn (by decide), gI_sa (by decide), h1, nI_1]
    rfl
  · rw [gI_sa (by decide)]
    unfold nb
    by_cases e : k = m
    · rw [e, gI_ss, if_pos rfl]
    · rw [gI_sj (by omega), if_neg e]
      exact h2 k (by omega)
  · rw [gI_sI, if_neg (fun z => q1 z.1 z.2), gI_sI, if_neg (fun z => by have := q2 z.1; omega)]
    exact h3 b j q1 q2
def nb4 (m : Nat) (B : Nat → Int32) (x : Int32) : Nat → Int32 := nb (m + 3) (nb (m + 2) (nb (m + 1) (nb m B x (nI 24)) x (nI 16)) x (nI 8)) x (nI 0)
theorem tC.n {M M1 : Mem} {n m : Nat} {B : Nat → Int32} (h : tC M n m B M1) (hn : n + m + 4 ≤ 700) (x : Int32) : ∃ M2, fX12_tapeNumber M1 x = some M2 ∧ tC M n (m + 4) (nb4 m B x) M2 := by
  obtain ⟨f, hf⟩ : ∃ f, FU = f + 1 + 1 + 1 + 1 + 1 := ⟨99995, rfl⟩
  obtain ⟨N1, a1, b1⟩ := h.b (s := 24) (by omega) (by decide) x (f + 1 + 1 + 1 + 1)
  obtain ⟨N2, a2, b2⟩ := b1.b (s := 16) (by omega) (by decide) x (f + 1 + 1 + 1)
  obtain ⟨N3, a3, b3⟩ := b2.b (s := 8) (by omega) (by decide) x (f + 1 + 1)
  obtain ⟨N4, a4, b4⟩ := b3.b (s := 0) (by omega) (by decide) x (f + 1)
  refine ⟨N4, ?_, b4⟩
  unfold fX12_tapeNumber
  rw [hf, show (24 : Int32) = nI 24 from rfl, a1, show nI 24 + (-8) = nI 16 from by decide, a2, show nI 16 + (-8) = nI 8 from by decide, a3, show nI 8 + (-8) = nI 0 from by decide, a4, fX12_tapeNumber_l3, if_pos (by decide)]
theorem tM.n {M M1 : Mem} {n m : Nat} {B : Nat → Int32} (h : tM M n m B M1) (hn : n + m + 4 ≤ 700) (x : Int32) : ∃ M2, fX13_lays M1 x = some M2 ∧ tM M n (m + 4) (nb4 m B x) M2 := by
  obtain ⟨f, hf⟩ : ∃ f, FU = f + 1 + 1 + 1 + 1 + 1 := ⟨99995, rfl⟩
  obtain ⟨N1, a1, b1⟩ := h.b (s := 24) (by omega) (by decide) x (f + 1 + 1 + 1 + 1)
  obtain ⟨N2, a2, b2⟩ := b1.b (s := 16) (by omega) (by decide) x (f + 1 + 1 + 1)
  obtain ⟨N3, a3, b3⟩ := b2.b (s := 8) (by omega) (by decide) x (f + 1 + 1)
  obtain ⟨N4, a4, b4⟩ := b3.b (s := 0) (by omega) (by decide) x (f + 1)
  refine ⟨N4, ?_, b4⟩
  unfold fX13_lays
  rw [hf, show (24 : Int32) = nI 24 from rfl, a1, show nI 24 + (-8) = nI 16 from by decide, a2, show nI 16 + (-8) = nI 8 from by decide, a3, show nI 8 + (-8) = nI 0 from by decide, a4, fX13_lays_l3, if_pos (by decide)]
theorem Rel.tape {A : LA} {M M2 : Mem} (h : Rel A M) (g : ∀ b j, b ≠ 1 → b ≠ 116 → (b = 0 → j ≠ 1) → (b = 103 → j ≠ 0 ∧ j ≠ 21) → gI M2 b j = gI M b j) (e2 : M2.2 = M.2) (ht : tapeR M2) : Rel A M2 := by
  obtain ⟨h1, h2, h3, h4, h5, h6, h7, h8, h9, h10, h11, h12⟩ := h
  have eC : rC M2 81 = rC M 81 := by
    funext j
    unfold rC
    by_cases hj : j < 31
    · have := pl_4 j hj
      rw [if_pos hj, if_pos hj, g _ _ (by omega) (by omega) (by omega) (by omega)]
    · rw [if_neg hj, if_neg hj]
  have eB : rB M2 0 = rB M 0 := by
    funext j
    unfold rB
    rw [g 133 _ (by decide) (by decide) (fun e => absurd e (by decide)) (fun e => absurd e (by decide))]
  have g9 : ∀ b j, b ≠ 1 → b ≠ 116 → b ≠ 0 → b ≠ 103 → gI M2 b j = gI M b j := fun b j q1 q2 q3 q4 => g b j q1 q2 (fun e => absurd e q3) (fun e => absurd e q4)
  refine ⟨h1, h2.mv (gR_2 e2 _ _) (fun a j q => g9 a j (by omega) (by omega) (by omega) (by omega)), h3.mv (fun a j q1 q2 => g a j (by omega) ?_ (by omega) (fun e => by have := q1 e; omega)), by rw [eC, eB]; exact h4, by rw [eB]; exact h5, h6.mv (g9 _ _ (by decide) (by decide) (by decide) (by decide)) (g _ _ (by decide) (by decide) (by decide) (by decide)) (fun j => g9 _ _ (by decide) (by decide) (by decide) (by decide)) (fun j => g9 _ _ (by decide) (by decide) (by decide) (by decide)), h7.mv (g9 _ _ (by decide) (by decide) (by decide) (by decide)) (g _ _ (by decide) (by decide) (by decide) (by decide)) (fun j => g9 _ _ (by decide) (by decide) (by decide) (by decide)) (fun j => g9 _ _ (by decide) (by decide) (by decide) (by decide)) (fun j => g9 _ _ (by decide) (by decide) (by decide) (by decide)), ht, fun i hi => ?_, ?_, h11.mv (g _ _ (by decide) (by decide) (by decide) (by decide)) (fun j q1 q2 => g _ _ (by decide) (by decide) (fun e => absurd e (by decide)) (fun _ => by omega)) (fun a j q1 q2 => g9 a j (by omega) (by omega) (by omega) (by omega)) (fun a j q1 q2 => g9 a j (by omega) (by omega) (by omega) (by omega)), h12.mv (by rw [e2])⟩
  · omega
  · rw [g9 2 i (by decide) (by decide) (by decide) (by decide), g9 117 i (by decide) (by decide) (by decide) (by decide)]
    exact h9 i hi
  · rw [g 0 2 (by decide) (by decide) (by decide) (by decide), g 103 23 (by decide) (by decide) (by decide) (by decide)]
    exact h10
theorem feed_a {A : LA} {M : Mem} (h : Rel A M) (x1 x2 x3 x4 x5 : Int32) : qA (fX12_feed M x1 x2 x3 x4 x5) (fun M1 => fX13_feed M1 x1 x2 x3 x4 x5) := by
  obtain ⟨n, n1, n2, n3, n4⟩ := h.2.2.2.2.2.2.2.1
  by_cases hf : 700 < n + 20
  · refine ⟨-1, M, sI M 103 0 0, A, ?_, ?_, h.ro (RO.rf.st (by unfold scr; omega))⟩
    · unfold fX12_feed
      simp only [pu_s]
      rw [n2, show (20 : Int32) = nI 20 from rfl, nI_add, if_pos (by rw [show (700 : Int32) = nI 700 from rfl, lt_nI (by decide) (by omega)]; exact hf)]
    · unfold fX13_feed
      simp only [pu_s]
      rw [gI_sj (by decide), n3, show (20 : Int32) = nI 20 from rfl, nI_add, if_pos (by rw [show (700 : Int32) = nI 700 from rfl, lt_nI (by decide) (by omega)]; exact hf)]
  · let B0 : Nat → Int32 := fun _ => 0
    have c0 : tC M n 0 B0 M := ⟨n2, fun k hk => absurd hk (by omega), fun _ _ _ _ => rfl, rfl⟩
    obtain ⟨C1, a1, c1⟩ := c0.n (by omega) x1
    obtain ⟨C2, a2, c2⟩ := c1.n (by omega) x2
    obtain ⟨C3, a3, c3⟩ := c2.n (by omega) x3
    obtain ⟨C4, a4, c4⟩ := c3.n (by omega) x4
    obtain ⟨C5, a5, c5⟩ := c4.n (by omega) x5
    have e21 : gI (sI C5 103 0 0) 103 21 = nI n := by
      rw [gI_sj (by decide), c5.2.2.1 103 21 (by decide) (fun e => absurd e (by decide))]; exact n3
    have d0 : tM (sI C5 103 0 0) n 0 B0 (sI C5 103 0 0) := ⟨e21, fun k hk => absurd hk (by omega), fun _ _ _ _ => rfl, rfl⟩
    obtain ⟨D1, b1, d1⟩ := d0.n (by omega) x1
    obtain ⟨D2, b2, d2⟩ := d1.n (by omega) x2
    obtain ⟨D3, b3, d3⟩ := d2.n (by omega) x3
    obtain ⟨D4, b4, d4⟩ := d3.n (by omega) x4
    obtain ⟨D5, b5, d5⟩ := d4.n (by omega) x5
    obtain ⟨p1, p2, p3, p4⟩ := c5
    obtain ⟨q1, q2, q3, q4⟩ := d5
    have hc : ∀ b j, b ≠ 103 → b ≠ 116 → gI D5 b j = gI C5 b j := fun b j z1 z2 => by
      rw [q3 b j (fun e => absurd e z1) (fun e => absurd e z2), gI_sa z1]
    refine ⟨nI (n + 20), C5, D5, A, ?_, ?_, h.tape (fun b j z1 z2 z3 z4 => ?_) (by rw [q4]; exact p4) ⟨n + 20, by omega, ?_, q1, fun i hi => ?_⟩⟩
    · unfold fX12_feed
      simp only [pu_s]
      rw [n2, show (20 : Int32) = nI 20 from rfl, nI_add, if_neg (by rw [show (700 : Int32) = nI 700 from rfl, lt_nI (by decide) (by omega)]; exact hf), a1, b1_s, a2, b1_s, a3, b1_s, a4, b1_s, a5, b1_s, p1]
    · show fX13_feed C5 x1 x2 x3 x4 x5 = _
      unfold fX13_feed
      simp only [pu_s]
      rw [e21, show (20 : Int32) = nI 20 from rfl, nI_add, if_neg (by rw [show (700 : Int32) = nI 700 from rfl, lt_nI (by decide) (by omega)]; exact hf), b1, b1_s, b2, b1_s, b3, b1_s, b4, b1_s, b5, b1_s, q1]
    · rw [q3 b j (fun e => (z4 e).2) (fun e => absurd e z2), gI_sI, if_neg (fun z => (z4 z.1).1 z.2)]
      exact p3 b j z3 (fun e => absurd e z1)
    · rw [hc 0 1 (by decide) (by decide)]; exact p1
    · by_cases hi2 : i < n
      · obtain ⟨c, r1, r2, r3⟩ := n4 i hi2
        refine ⟨c, r1, ?_, ?_⟩
        · rw [q3 116 i (fun e => absurd e (by decide)) (fun _ => hi2), gI_sa (by decide), p3 116 i (fun e => absurd e (by decide)) (fun e => absurd e (by decide))]; exact r2
        · rw [hc 1 i (by decide) (by decide), p3 1 i (fun e => absurd e (by decide)) (fun _ => hi2)]; exact r3
      · obtain ⟨k, rfl⟩ : ∃ k, i = n + k := ⟨i - n, by omega⟩
        have y1 := p2 k (by omega)
        have y2 := q2 k (by omega)
        obtain ⟨c, r1, r2, r3⟩ := byte_c (nb4 (0 + 4 + 4 + 4 + 4) (nb4 (0 + 4 + 4 + 4) (nb4 (0 + 4 + 4) (nb4 (0 + 4) (nb4 0 B0 x1) x2) x3) x4) x5 k)
        refine ⟨c, r1, ?_, ?_⟩
        · rw [y2]; exact r2
        · rw [hc 1 _ (by decide) (by decide), y1, ← r3]
