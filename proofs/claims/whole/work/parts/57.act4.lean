/-! ACTS: gift, undo -/
theorem kpt_lo (a lo hi : Int32) (hl : lo.toInt ≤ hi.toInt) : (if lo < (if a < hi then a else hi) then (if a < hi then a else hi) else lo) = kpt a lo hi := by
  unfold kpt
  simp only [Int32.lt_iff_toInt_lt]
  by_cases h1 : a.toInt < hi.toInt
  · rw [if_pos h1]
    by_cases h2 : lo.toInt < a.toInt
    · rw [if_pos h2, if_neg (by omega), if_neg (by omega)]
    · rw [if_neg h2]
      by_cases h3 : a.toInt < lo.toInt
      · rw [if_pos h3]
      · rw [if_neg h3, if_neg (by omega), ← Int32.toInt_inj]; omega
  · rw [if_neg h1, if_neg (show ¬ a.toInt < lo.toInt by omega)]
    by_cases h2 : lo.toInt < hi.toInt
    · rw [if_pos h2]
      by_cases h3 : hi.toInt < a.toInt
      · rw [if_pos h3]
      · rw [if_neg h3, ← Int32.toInt_inj]; omega
    · rw [if_neg h2]
      by_cases h3 : hi.toInt < a.toInt
      · rw [if_pos h3, ← Int32.toInt_inj]; omega
      · rw [if_neg h3, ← Int32.toInt_inj]; omega
def giftR (r : Nat → Int32) (f : Nat) (x : Int32) : Nat → Int32 := upd (upd r 0 (r 0 - x)) (25 + f) (kpt (r (25 + f) + (if r 4 = 1 then x else -x)) (-9) 9)
theorem okC_gift {A : LA} {r : Nat → Int32} {f x s : Nat} (h : okC A r) (hA : okA A) (hf : f < 6) (es : r 0 = nI s) (hs : s ≤ 999) (hx : x ≤ s) : okC A (giftR r f (nI x)) := by
  obtain ⟨y, hy, e9, h⟩ := h
  obtain ⟨g0, g1, g2, g3, g4, g5, g6, g7, g8, g9, g10, g11, g12, g13⟩ := h
  have e : ∀ k, k ≠ 0 → k ≠ 25 + f → giftR r f (nI x) k = r k := fun k h1 h2 => by unfold giftR; rw [upd_a, if_neg h2, upd_a, if_neg h1]
  have eF : inZ (giftR r f (nI x) (25 + f)) 9 := by
    unfold giftR
    rw [upd_a, if_pos rfl]
    have := kpt_int (r (25 + f) + (if r 4 = 1 then nI x else -(nI x))) (lo := -9) (hi := 9) (by decide)
    rw [show ((-9 : Int32)).toInt = -9 from by decide, show ((9 : Int32)).toInt = 9 from by decide] at this
    exact this
  refine ⟨y, hy, by rw [e _ (by decide) (by omega)]; exact e9, ?_, ?_, ?_, ?_, ?_, ?_, ?_, ?_, ?_, ?_, ?_, fun b9 hb9 i9 hi9 => ?_, fun i hi => ?_, fun j hj => ?_⟩
  · unfold giftR
    rw [upd_a, if_neg (by omega), upd_a, if_pos rfl, es]
    exact ⟨s - x, by omega, pk_sub hx⟩
  · rw [e _ (by decide) (by omega)]; exact g1
  · rw [e _ (by decide) (by omega)]; exact g2
  · rw [e _ (by decide) (by omega)]; exact g3
  · rw [e _ (by decide) (by omega)]; exact g4
  · rw [e _ (by decide) (by omega)]; exact g5
  · rw [e _ (by decide) (by omega)]; exact g6
  · rw [e _ (by decide) (by omega)]; exact g7
  · rw [e _ (by decide) (by omega)]; exact g8
  · rw [e _ (by decide) (by omega)]; exact g9
  · rw [e _ (by decide) (by omega)]; exact g10
  · have h6 := wayLe hA hb9
    rw [e _ (by omega) (by omega)]; exact g11 b9 hb9 i9 hi9
  · by_cases hk : i = f
    · rw [hk]; exact eF
    · rw [e _ (by omega) (by omega)]; exact g12 i hi
  · rw [e _ (by omega) (by omega)]; exact g13 j hj
theorem gift_a {A : LA} {M : Mem} (h : Rel A M) (x y : Int32) : qX (fX12_gift M x y) (fun M1 => fX13_gift M1 x y) M := by
  have h6 : aN A 2 ≤ 6 := h.1.2.2.1
  by_cases hx : x < 0 ∨ ¬ x < nI (aN A 2)
  · refine Or.inl ⟨1, ?_, fun M1 f => ?_⟩
    · unfold fX12_gift
      rw [needFriend_eq h.2.1, if_pos hx, bE_er]
    · show simM (fX13_gift M1 _ _) M1 _
      unfold fX13_gift
      rw [pu_s, gF_eq (m0L (h.ro f).2.2.1) m00, if_pos hx]
      exact sM_er M0_ro
  · obtain ⟨f, hf, ef⟩ := in_of hx (by omega)
    obtain ⟨s, hs, es⟩ : inB (rB M 0 0) 999 := h.okR.1
    have eb : ∀ M9, (b2 (fX12_refuse M9 1) fun vq1 Mq2 => some (Except.ok (ε := Nat) (vq1, Mq2))) = b2 (fX12_refuse M9 (nI 1)) fun v M1 => some (.ok (v, M1)) := fun M9 => rfl
    have em : ∀ M1, (b2 (fX13_refuses M1 1) fun vq6 Mq7 => some (vq6, Mq7)) = fX13_refuses M1 (nI 1) := fun M1 => by
      rw [show (1 : Int32) = nI 1 from rfl, refuseM_ok (by decide), b2_s]
    by_cases hy : y < 1 ∨ (9 : Int32) < y
    · refine ref_qX h (i := 1) (by decide) ?_ (fun u => ?_)
      · unfold fX12_gift fX12_gift_b27
        rw [needFriend_eq h.2.1, if_neg hx, bE_ok]
        by_cases h1 : y < 1
        · rw [if_pos h1]; rfl
        · rw [if_neg h1, if_pos (hy.resolve_left h1)]; rfl
      · have hL1 : LandM A (sL (sI M 2 1 (gI M 2 1 + 1)) 144 0 u) := h.2.2.1.mv (fun a j q1 q2 => gI_sa (by omega))
        show fX13_gift _ _ _ = _
        unfold fX13_gift fX13_gift_b35
        rw [pu_s, gF_eq (m0L hL1) m00, if_neg hx, within_eq, b1_s, if_pos hy, if_pos rfl, em]
    · obtain ⟨t, ht1, ht9, et⟩ := lt1_of (lo := 1) (n := 9) hy (by decide) (by decide)
      by_cases hst : s < t
      · refine ref_qX h (i := 1) (by decide) ?_ (fun u => ?_)
        · unfold fX12_gift fX12_gift_b27
          rw [needFriend_eq h.2.1, if_neg hx, bE_ok, if_neg (fun q => hy (Or.inl q)), if_neg (fun q => hy (Or.inr q)), pu_s, gC_f (by decide), rC81 h, es, et, if_pos (by rw [lt_nI (by omega) (by omega)]; exact hst)]
          rfl
        · have hL1 : LandM A (sL (sI M 2 1 (gI M 2 1 + 1)) 144 0 u) := h.2.2.1.mv (fun a j q1 q2 => gI_sa (by omega))
          have e0 : gI (sI (sL (sI M 2 1 (gI M 2 1 + 1)) 144 0 u) 103 0 0) 133 0 = nI s := by
            rw [gI_sa (by decide), show gI (sL (sI M 2 1 (gI M 2 1 + 1)) 144 0 u) 133 0 = gI (sI M 2 1 (gI M 2 1 + 1)) 133 0 from rfl, gI_sa (by decide), gB0 (by decide), es]
          show fX13_gift _ _ _ = _
          unfold fX13_gift fX13_gift_b35
          rw [pu_s, gF_eq (m0L hL1) m00, if_neg hx, within_eq, b1_s, if_neg hy, if_neg (by decide), show ldI (sI (sL (sI M 2 1 (gI M 2 1 + 1)) 144 0 u) 103 0 0) 133 186 0 = ldI (β := Int32 × Mem) (sI (sL (sI M 2 1 (gI M 2 1 + 1)) 144 0 u) 103 0 0) 133 186 (nI 0) from rfl, ldI_nI (by decide) (by decide), e0, et, if_pos (by rw [lt_nI (by omega) (by omega)]; exact hst), em]
      · obtain ⟨C1, c1, c2, c3⟩ := keepC_row h
        have gC1 : ∀ i, i < 6 → gI C1 81 i = rB M 0 i := fun i hi => by rw [gC_f hi, c2]
        generalize hv : kpt (rB M 0 (25 + f) + (if rB M 0 4 = 1 then nI t else -(nI t))) (-9) 9 = v
        have cA0 : actC M (sI (sI C1 81 0 (rB M 0 0 - nI t)) 85 f v) (giftR (rB M 0) f (nI t)) := actC_of h c1 (by rw [show (85 : Nat) = 81 + 4 from rfl, rC_a4 (k := 81) (by omega), rC_f (by decide), c2, ← hv]; rfl) ((frC.rf.st (by omega)).st (by omega))
        refine Or.inr ⟨v, sI (sI C1 81 0 (rB M 0 0 - nI t)) 85 f v, ?_, fun u => ?_⟩
        · have g85 : gI (sI C1 81 0 (rB M 0 0 - nI t)) 85 f = rB M 0 (25 + f) := by rw [gI_sa (by decide), show gI C1 85 f = rC C1 81 (25 + f) from gC_a4 (k := 81) (by omega), c2]
          have fin : ∀ s0 : Int32, rB M 0 (25 + f) + s0 = rB M 0 (25 + f) + (if rB M 0 4 = 1 then nI t else -(nI t)) → fX12_gift_b83 (sI C1 81 0 (rB M 0 0 - nI t)) (nI f) s0 (rB M 0 (25 + f)) = some (.ok (v, sI (sI C1 81 0 (rB M 0 0 - nI t)) 85 f v)) := by
            intro s0 e
            unfold fX12_gift_b83
            simp only [pu_s]
            rw [e, kpt_lo _ (-9) 9 (by decide), hv, stI_nI (by omega) (by decide), ldI_nI (by omega) (by decide), gI_ss]
          unfold fX12_gift
          rw [needFriend_eq h.2.1, if_neg hx, bE_ok, if_neg (fun q => hy (Or.inl q)), if_neg (fun q => hy (Or.inr q)), pu_s, show gI M 81 0 = nI s from by rw [gC_f (by decide), rC81 h, es], et, if_neg (by rw [lt_nI (by omega) (by omega)]; exact hst), c1, b1_s, pu_s, gC1 0 (by decide), pu_s, ef, ldI_nI (by omega) (by decide), g85, pu_s, gI_sj (by decide), gC1 4 (by decide)]
          by_cases h4 : rB M 0 4 = 1
          · rw [if_pos h4]; exact fin _ (by rw [if_pos h4])
          · rw [if_neg h4]; exact fin _ (by rw [if_neg h4])
        · have cA := cA0.sL u
          obtain ⟨hL, eB, e64⟩ := cA.M h
          obtain ⟨n, hn, en⟩ := h64 h
          obtain ⟨D1, d1, d2, d3⟩ := keepM_row hL (e64.trans en) hn
          have gD1 : ∀ i, i < 31 → gI D1 133 i = rB M 0 i := fun i hi => by rw [gB0 hi, d2, eB]
          have mA : actM (sL (sI (sI C1 81 0 (rB M 0 0 - nI t)) 85 f v) 144 0 u) (sI (sI D1 133 (0 + 0) (rB M 0 0 - nI t)) 133 (0 + (25 + f)) v) (giftR (rB M 0) f (nI t)) := actM_of (e64.trans en) hn d1 (by rw [rB_s (by omega), rB_s (by decide), d2, eB, ← hv]; rfl) ((frM.rf.st (by omega) (by omega)).st (by omega) (by omega))
          refine ⟨sI (sI D1 133 (0 + 0) (rB M 0 0 - nI t)) 133 (0 + (25 + f)) v, A, ?_, h.act cA mA (okC_gift h.2.2.2.2.1 h.1 (by omega) es hs (by omega)), by rw [gI_sa (by decide), gI_sa (by decide)]; exact keepM_t (e64.trans en) hn d1⟩
          have e0 : gI (sI (sL (sI (sI C1 81 0 (rB M 0 0 - nI t)) 85 f v) 144 0 u) 103 0 0) 133 0 = nI s := by
            rw [gI_sa (by decide), gB0 (by decide), eB, es]
          have fin : ∀ s0 : Int32, s0 = (if rB M 0 4 = 1 then nI t else -(nI t)) → fX13_gift_b89 (sI D1 133 0 (rB M 0 0 - nI t)) (nI f) s0 (rB M 0 (25 + f)) (nI (25 + f)) = some (v, sI (sI D1 133 (0 + 0) (rB M 0 0 - nI t)) 133 (0 + (25 + f)) v) := by
            intro s0 e
            unfold fX13_gift_b89
            rw [kept_eq, b1_s, e, hv, stI_nI (by omega) (by decide), show (25 : Int32) = nI 25 from rfl, nI_add, ldI_nI (by omega) (by decide), gI_ss, Nat.zero_add, Nat.zero_add]
          show fX13_gift _ x y = _
          unfold fX13_gift
          rw [pu_s, gF_eq (m0L hL) m00, if_neg hx, within_eq, b1_s, if_neg hy, if_neg (by decide)]
          rw [show (0 : Int32) = nI 0 from rfl] at e0 d1 ⊢
          rw [ldI_nI (by decide) (by decide), e0, et, if_neg (by rw [lt_nI (by omega) (by omega)]; exact hst), d1, b1_s, ldI_nI (by decide) (by decide), gD1 0 (by decide), stI_nI (by decide) (by decide), ef, show (25 : Int32) = nI 25 from rfl, nI_add, ldI_nI (by omega) (by decide), gI_sj (by omega), gD1 _ (by omega), show (4 : Int32) = nI 4 from rfl, ldI_nI (by decide) (by decide), gI_sj (by decide), gD1 4 (by decide)]
          by_cases h4 : rB M 0 4 = 1
          · rw [if_pos h4]; exact fin _ (by rw [if_pos h4])
          · rw [if_neg h4]; exact fin _ (by rw [if_neg h4]; exact zsub _)
theorem undo_a {A : LA} {M : Mem} (h : Rel A M) : qA (fX12_undo M) (fun M1 => fX13_undo M1) := by
  obtain ⟨h1, h2, h3, h4, h5, h6, h7, h8, h9, h10, h11, h12⟩ := h
  obtain ⟨n, a1, a2, a3, a4⟩ := h6
  have k0 : kd 91 = 0 := by decide
  have k1 : kd 81 = 2 := by decide
  by_cases hn : n = 0
  · subst hn
    refine ⟨-1, M, sI M 103 0 0, A, ?_, ?_, Rel.ro ⟨h1, h2, h3, h4, h5, ⟨0, a1, a2, a3, a4⟩, h7, h8, h9, h10, h11, h12⟩ M0_ro⟩
    · unfold fX12_undo fX1_takeBack
      rw [ck_t k0, ck_t k1, pu_s, a2, if_pos nI_0, b2_s, if_pos rfl]
    · show fX13_undo M = _
      unfold fX13_undo
      rw [pu_s, pu_s, gI_sj (by decide), a3, if_pos nI_0]
  · obtain ⟨C2, c1, c2, c3, c4⟩ := read_ok (M := sI M 91 0 (nI (n - 1))) (k := 81) (a := 92) (p := (n - 1) * 31) (n := 1240) k1 (by decide) (by decide) (by omega) (by decide) (by decide)
    have hrow : rC C2 81 = rA M 134 (31 * (n - 1)) := by
      rw [c2, rW_mv (M := M) (fun j => gI_sa (by decide)), Nat.mul_comm]
      exact (a4 (n - 1) (by omega)).1
    have hok := (a4 (n - 1) (by omega)).2
    have gC2 : ∀ b j, (b < 81 ∨ 85 < b) → (b = 91 → j ≠ 0) → gI C2 b j = gI M b j := fun b j q1 q2 => by
      rw [c3 b j q1, gI_sI, if_neg (fun q => q2 q.1 q.2)]
    -- the reference copies the row back
    have loop : ∀ (d i fuel : Nat) (M9 : Mem), (∀ b j, (b = 133 → 31 ≤ j) → (b = 103 → j ≠ 64 ∧ j ≠ 0) → gI M9 b j = gI C2 b j) → gI M9 103 64 = nI (n - 1) → M9.2 = C2.2 → (∀ j, j < i → gI M9 133 j = gI M 134 (31 * (n - 1) + j)) → i + d = 31 → d < fuel → ∃ M2, fX13_undo_l26 fuel M9 (nI i) = some (nI (n - 1), M2) ∧ rB M2 0 = rA M 134 (31 * (n - 1)) ∧ gI M2 103 64 = nI (n - 1) ∧ (∀ b j, (b = 133 → 31 ≤ j) → (b = 103 → j ≠ 64 ∧ j ≠ 0) → gI M2 b j = gI C2 b j) ∧ M2.2 = C2.2 := by
      intro d
      induction d with
      | zero =>
        intro i fuel M9 g1 g2 g3 g4 hi hf
        obtain ⟨m, rfl⟩ : ∃ m, fuel = m + 1 := ⟨fuel - 1, by omega⟩
        have hi31 : i = 31 := by omega
        subst hi31
        rw [fX13_undo_l26, show (31 : Int32) = nI 31 from rfl, if_neg (by rw [lt_nI (by decide) (by decide)]; omega), pu_s, g2]
        refine ⟨M9, rfl, ?_, g2, g1, g3⟩
        funext j
        unfold rB rA
        by_cases hj : j < 31
        · rw [if_pos hj, if_pos hj, Nat.zero_add, g4 j hj]
        · rw [if_neg hj, if_neg hj]
      | succ d ih =>
        intro i fuel M9 g1 g2 g3 g4 hi hf
        obtain ⟨m, rfl⟩ : ∃ m, fuel = m + 1 := ⟨fuel - 1, by omega⟩
        rw [fX13_undo_l26, show (31 : Int32) = nI 31 from rfl, if_pos (by rw [lt_nI (by omega) (by decide)]; omega), pu_s, g2, pk_mul, nI_add, ldI_nI (by omega) (by decide), stI_nI (by omega) (by decide), pu_s, nI_1, g1 134 _ (fun e => absurd e (by decide)) (fun e => absurd e (by decide)), gC2 134 _ (by decide) (fun e => absurd e (by decide))]
        refine ih (i + 1) m _ (fun b j q1 q2 => ?_) (by rw [gI_sa (by decide)]; exact g2) g3 (fun j hj => ?_) (by omega) (by omega)
        · rw [gI_sI, if_neg (fun q => by have := q1 q.1; omega)]
          exact g1 b j q1 q2
        · by_cases e : j = i
          · rw [e, gI_ss]
          · rw [gI_sj e]; exact g4 j (by omega)
    have e64 : gI (sI C2 103 0 0) 103 64 = nI n := by rw [gI_sj (by decide), gC2 103 64 (by decide) (by decide), a3]
    obtain ⟨M2, m1, m2, m3, m4, m5⟩ := loop 31 0 FU (sI (sI C2 103 0 0) 103 64 (nI (n - 1))) (fun b j q1 q2 => by
      rw [gI_sI, if_neg (fun q => (q2 q.1).1 q.2), gI_sI, if_neg (fun q => (q2 q.1).2 q.2)]) gI_ss rfl (fun j hj => absurd hj (by omega)) rfl (by decide)
    have hC : ∀ b j, b ≤ 102 → (b < 81 ∨ 85 < b) → (b = 91 → j ≠ 0) → gI M2 b j = gI M b j := fun b j q1 q2 q3 => by
      rw [m4 b j (fun e => by omega) (fun e => by omega)]
      exact gC2 b j q2 q3
    have hM : ∀ b j, 103 ≤ b → (b = 133 → 31 ≤ j) → (b = 103 → j ≠ 64 ∧ j ≠ 0) → gI M2 b j = gI M b j := fun b j q1 q2 q3 => by
      rw [m4 b j q2 q3]
      exact gC2 b j (by omega) (by omega)
    have e2 : M2.2 = M.2 := by rw [m5, c4]; rfl
    refine ⟨nI (n - 1), C2, M2, A, ?_, ?_, h1, h2.mv (gR_2 e2 _ _) (fun a j q => hC a j (by omega) (by omega) (by omega)), h3.mv (fun a j q1 q2 => hM a j (by omega) (by omega) (fun e => by have := q1 e; omega)), ?_, by rw [m2]; exact hok, ⟨n - 1, by omega, ?_, m3, fun i hi => ?_⟩, h7.mv (hC _ _ (by decide) (by decide) (by decide)) (hM _ _ (by decide) (by decide) (fun _ => by decide)) (fun j => hC _ _ (by decide) (by decide) (fun e => absurd e (by decide))) (fun j => hC _ _ (by decide) (by decide) (fun e => absurd e (by decide))) (fun j => hM _ _ (by decide) (fun e => absurd e (by decide)) (fun e => absurd e (by decide))), h8.mv (hC _ _ (by decide) (by decide) (by decide)) (hM _ _ (by decide) (by decide) (fun _ => by decide)) (fun j => hC _ _ (by decide) (by decide) (fun e => absurd e (by decide))) (fun j => hM _ _ (by decide) (fun e => absurd e (by decide)) (fun e => absurd e (by decide))), fun i hi => ?_, ?_, h11.mv (hC _ _ (by decide) (by decide) (by decide)) (fun j q1 q2 => hM _ _ (by decide) (fun e => absurd e (by decide)) (fun _ => by omega)) (fun a j q1 q2 => hC a j (by omega) (by omega) (by omega)) (fun a j q1 q2 => hM a j (by omega) (by omega) (by omega)), h12.mv (by rw [e2])⟩
    · unfold fX12_undo fX1_takeBack
      rw [ck_t k0, ck_t k1]
      simp only [pu_s]
      rw [a2, if_neg (nI_ne0 (by omega) (by omega)), nI_m1 (by omega), gI_ss, show (31 : Int32) = nI 31 from rfl, pk_mul, c1, b1_s, b2_s, if_neg (by decide), c3 91 0 (by decide), gI_ss]
    · show fX13_undo C2 = _
      unfold fX13_undo
      simp only [pu_s]
      rw [e64, if_neg (nI_ne0 (by omega) (by omega)), nI_m1 (by omega)]
      exact m1
    · rw [m2, ← hrow]
      funext j
      unfold rC
      by_cases hj : j < 31
      · have := pl_4 j hj
        rw [if_pos hj, if_pos hj, m4 _ _ (by omega) (by omega)]
      · rw [if_neg hj, if_neg hj]
    · rw [m4 91 0 (by decide) (by decide), c3 91 0 (by decide), gI_ss]
    · rw [rW_mv (M := M) (fun j => hC 92 j (by decide) (by decide) (fun e => absurd e (by decide))), rA_mv (M := M) (fun j => hM 134 j (by decide) (fun e => absurd e (by decide)) (fun e => absurd e (by decide)))]
      exact a4 i (by omega)
    · rw [hC 2 i (by decide) (by decide) (fun e => absurd e (by decide)), hM 117 i (by decide) (fun e => absurd e (by decide)) (fun e => absurd e (by decide))]
      exact h9 i hi
    · rw [hC 0 2 (by decide) (by decide) (by decide), hM 103 23 (by decide) (by decide) (fun _ => by decide)]
      exact h10
