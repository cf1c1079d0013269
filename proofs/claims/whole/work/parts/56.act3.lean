/-! ACTS that may throw: change, gift; undo -/
def qX (o1 : Option (Except Nat (Int32 × Mem))) (o2 : Mem → Option (Int32 × Mem)) (M : Mem) : Prop := (∃ e, o1 = some (.error e) ∧ ∀ M1, RO M M1 → simM (o2 M1) M1 (.error e)) ∨ (∃ v M1, o1 = some (.ok (v, M1)) ∧ ∀ u, ∃ M2 A', o2 (sL M1 144 0 u) = some (v, M2) ∧ Rel A' M2 ∧ gI M2 103 0 = 0)
theorem actC.sL {M M1 : Mem} {r' : Nat → Int32} (c : actC M M1 r') (u : Int64) : actC M (sL M1 144 0 u) r' := c
theorem keepM_t {M M1 : Mem} {n : Nat} (h64 : gI M 103 64 = nI n) (hn : n ≤ 40) (hk : fX13_keeps (sI M 103 0 0) = some M1) : gI M1 103 0 = 0 := by
  obtain ⟨M9, k1, k2, k3, k4, k5⟩ := keepM_ok (M := sI M 103 0 0) (n := n) (by rw [gI_sj (by decide)]; exact h64) hn
  cases hk.symm.trans k1
  rw [k4 103 0 (by decide) (fun _ => by decide), gI_ss]
theorem ref_qX {A : LA} {M : Mem} {i : Nat} {o1 : Option (Except Nat (Int32 × Mem))} {o2 : Mem → Option (Int32 × Mem)} (h : Rel A M) (hi : i < 3) (h1 : o1 = b2 (fX12_refuse M (nI i)) fun v M1 => some (.ok (v, M1))) (h2 : ∀ u, o2 (sL (sI M 2 i (gI M 2 i + 1)) 144 0 u) = fX13_refuses (sI (sL (sI M 2 i (gI M 2 i + 1)) 144 0 u) 103 0 0) (nI i)) : qX o1 o2 M := by
  refine Or.inr ⟨-1, sI M 2 i (gI M 2 i + 1), by rw [h1, refuseC_ok hi, b2_s], fun u => ⟨_, A, by rw [h2, refuseM_ok hi], ?_, ?_⟩⟩
  · have h9 := (h.ro (RO.rf.sL (a := 144) (i := 0) (v := u))).ref hi
    have e : sI (sI (sL (sI M 2 i (gI M 2 i + 1)) 144 0 u) 103 0 0) 117 i (gI (sI (sL (sI M 2 i (gI M 2 i + 1)) 144 0 u) 103 0 0) 117 i + 1) = sI (sI (sI (sL M 144 0 u) 2 i (gI (sL M 144 0 u) 2 i + 1)) 103 0 0) 117 i (gI (sL M 144 0 u) 117 i + 1) := by
      rw [gI_sa (by decide), show gI (sL (sI M 2 i (gI M 2 i + 1)) 144 0 u) 117 i = gI (sI M 2 i (gI M 2 i + 1)) 117 i from rfl, gI_sa (by decide)]
      rfl
    rw [e]
    exact h9
  · rw [gI_sa (by decide), gI_ss]
theorem okC_way {A : LA} {r : Nat → Int32} {b i d : Nat} (hA : okA A) (h : okC A r) (hb : b < 2) (hi : i < aN A (5 + b)) (hd : d < aN A 0) : okC A (upd r (wp b i) (nI d)) := by
  obtain ⟨y, hy, e9, h⟩ := h
  have h6 := wayLe hA hb
  obtain ⟨g0, g1, g2, g3, g4, g5, g6, g7, g8, g9, g10, g11, g12, g13⟩ := h
  have e : ∀ k, k < 13 ∨ 25 ≤ k → upd r (wp b i) (nI d) k = r k := fun k hk => by unfold wp; rw [upd_a, if_neg (by omega)]
  refine ⟨y, hy, by rw [e _ (by decide)]; exact e9, ?_, ?_, ?_, ?_, ?_, ?_, ?_, ?_, ?_, ?_, ?_, fun b9 hb9 i9 hi9 => ?_, fun i hi => ?_, fun j hj => ?_⟩
  · rw [e _ (by decide)]; exact g0
  · rw [e _ (by decide)]; exact g1
  · rw [e _ (by decide)]; exact g2
  · rw [e _ (by decide)]; exact g3
  · rw [e _ (by decide)]; exact g4
  · rw [e _ (by decide)]; exact g5
  · rw [e _ (by decide)]; exact g6
  · rw [e _ (by decide)]; exact g7
  · rw [e _ (by decide)]; exact g8
  · rw [e _ (by decide)]; exact g9
  · rw [e _ (by decide)]; exact g10
  · rw [upd_a]
    split
    · exact ⟨d, hd, rfl⟩
    · exact g11 b9 hb9 i9 hi9
  · rw [e _ (by omega)]; exact g12 i hi
  · rw [e _ (by omega)]; exact g13 j hj
theorem change_a {A : LA} {M : Mem} (h : Rel A M) (x y z : Int32) : qX (fX12_change M x y z) (fun M1 => fX13_change M1 x y z) M := by
  have h7 : aN A 0 ≤ 7 := h.1.1
  by_cases hx : x = 0 ∨ x = 1
  · by_cases hz : z < 0 ∨ ¬ z < nI (aN A 0)
    · refine Or.inl ⟨1, ?_, fun M1 f => ?_⟩
      · unfold fX12_change
        rw [needBrother_eq, if_pos hx, bE_ok, needDeed_eq h.2.1, if_pos hz, bE_er]
      · show simM (fX13_change M1 _ _ _) M1 _
        unfold fX13_change
        rw [pu_s, gB_eq m00, if_pos hx, gD_eq (m0L (h.ro f).2.2.1) m00, if_pos hz]
        exact sM_er M0_ro
    · obtain ⟨b, hb, eb⟩ := bro_of hx
      obtain ⟨d, hd, ed⟩ := in_of hz (by omega)
      have h6 := wayLe h.1 hb
      by_cases hy : y < 0 ∨ ¬ y < nI (aN A (5 + b))
      · refine ref_qX h (i := 1) (by decide) ?_ (fun u => ?_)
        · unfold fX12_change
          rw [needBrother_eq, if_pos hx, bE_ok, needDeed_eq h.2.1, if_neg hz, bE_ok, eb, hasPlace_eq h.2.1 hb, if_pos hy, b1_s, if_pos rfl]
          rfl
        · have f : RO M (sL M 144 0 u) := RO.rf.sL
          have hL1 : LandM A (sL (sI M 2 1 (gI M 2 1 + 1)) 144 0 u) := h.2.2.1.mv (fun a j q1 q2 => gI_sa (by omega))
          show fX13_change _ _ _ _ = _
          unfold fX13_change fX13_change_b37
          rw [pu_s, gB_eq m00, if_pos hx, gD_eq (m0L hL1) m00, if_neg hz]
          have e : ∀ M1, (b2 (fX13_refuses M1 1) fun vq6 Mq7 => some (vq6, Mq7)) = fX13_refuses M1 (nI 1) := fun M1 => by
            rw [show (1 : Int32) = nI 1 from rfl, refuseM_ok (by decide), b2_s]
          rw [e]
          by_cases h1 : y < 0
          · rw [if_pos h1]
          · rw [if_neg h1, eb, ldI_nI hb (by decide), wayLenM (m0L hL1) hb, if_neg (hy.resolve_left h1)]
      · obtain ⟨i, hi, ei⟩ := in_of hy (by omega)
        obtain ⟨C1, c1, c2, c3⟩ := keepC_row h
        have ew : 13 + (b * 6 + i) = wp b i := by unfold wp; omega
        have cA0 : actC M (sI C1 84 (b * 6 + i) (nI d)) (upd (rB M 0) (wp b i) (nI d)) := actC_of h c1 (by rw [show (84 : Nat) = 81 + 3 from rfl, rC_a3 (k := 81) (by omega), c2, ew]) (frC.rf.st (by omega))
        refine Or.inr ⟨rB M 0 (wp b i), sI C1 84 (b * 6 + i) (nI d), ?_, fun u => ?_⟩
        · unfold fX12_change
          rw [needBrother_eq, if_pos hx, bE_ok, needDeed_eq h.2.1, if_neg hz, bE_ok, eb, hasPlace_eq h.2.1 hb, if_neg hy, b1_s, if_neg (by decide), c1, b1_s, show (6 : Int32) = nI 6 from rfl, pk_mul, ei, nI_add, pu_s, ldI_nI (by omega) (by decide), stI_nI (by omega) (by decide), show gI C1 84 (b * 6 + i) = rC C1 81 (13 + (b * 6 + i)) from gC_a3 (k := 81) (by omega), c2, ew, ed]
        · have cA := cA0.sL u
          obtain ⟨hL, eB, e64⟩ := cA.M h
          obtain ⟨n, hn, en⟩ := h64 h
          obtain ⟨D1, d1, d2, d3⟩ := keepM_row hL (e64.trans en) hn
          have hw31 : wp b i < 31 := by unfold wp; omega
          have mA : actM (sL (sI C1 84 (b * 6 + i) (nI d)) 144 0 u) (sI D1 133 (0 + wp b i) (nI d)) (upd (rB M 0) (wp b i) (nI d)) := actM_of (e64.trans en) hn d1 (by rw [rB_s hw31, d2, eB]) (frM.rf.st (by omega) (by omega))
          refine ⟨sI D1 133 (0 + wp b i) (nI d), A, ?_, h.act cA mA (okC_way h.1 h.2.2.2.2.1 hb hi hd), by rw [gI_sa (by decide)]; exact keepM_t (e64.trans en) hn d1⟩
          show fX13_change _ x y z = _
          unfold fX13_change
          rw [pu_s, gB_eq m00, if_pos hx, gD_eq (m0L hL) m00, if_neg hz, if_neg (fun q => hy (Or.inl q)), eb, ldI_nI hb (by decide), wayLenM (m0L hL) hb, if_pos (Decidable.byContradiction fun q => hy (Or.inr q)), d1, b1_s, ei, show (13 : Int32) = nI 13 from rfl, show (6 : Int32) = nI 6 from rfl, pk_mul, nI_add, nI_add, show 13 + 6 * b + i = wp b i from rfl, ldI_nI (by omega) (by decide), stI_nI (by omega) (by decide), gB0 hw31, d2, eB, ed, Nat.zero_add]
  · refine Or.inl ⟨1, ?_, fun M1 f => ?_⟩
    · unfold fX12_change
      rw [needBrother_eq, if_neg hx, bE_er]
    · show simM (fX13_change M1 _ _ _) M1 _
      unfold fX13_change
      rw [pu_s, gB_eq m00, if_neg hx]
      exact sM_er M0_ro
