/-! CHAMPIONS and GATES: wins, guarded; fault -/
def edgR (A : LA) (r : Nat → Int32) (c g : Nat) : Int32 := (aF A 6 c + (if aF A 7 c = aF A 9 g then 5 else 0)) - r 1 / 10
def winR (A : LA) (r : Nat → Int32) (c g : Nat) : Bool := decide (aF A 8 g < edgR A r c g)
theorem edge_ok {A : LA} {M : Mem} (h : Rel A M) {c g : Nat} (hc : c < aN A 3) (hg : g < aN A 4) : fX12_edge M (nI c) (nI g) = some (edgR A (rB M 0) c g) := by
  obtain ⟨hL4, hl⟩ := h.2.1
  have h3 : aN A 3 ≤ 7 := h.1.2.2.2.1
  have h4 : aN A 4 ≤ 7 := h.1.2.2.2.2.1
  obtain ⟨e1, e2⟩ := hl.2.2.2.2.2.2.2.2.2.2.1 c hc
  obtain ⟨e3, e4⟩ := hl.2.2.2.2.2.2.2.2.2.2.2.1 g hg
  have hk : kd (gR M 28 0 + 8) = 3 := kf4_8 hL4
  have fin : ∀ s0 e9 : Int32, (if s0 = 0 then (0 : Int32) else 5) = e9 → fX12_edge_b40 M (nI c) (gR M 28 0 + 8) s0 = some ((aF A 6 c + e9) - rB M 0 1 / 10) := by
    intro s0 e9 he
    unfold fX12_edge_b40 fX12_edge_b58
    rw [ck_t hk, ldI_nI (by omega) (by decide), show gR M 28 0 + 8 + 1 = gR M 28 0 + 9 from rfl, e1]
    simp only [pu_s]
    rw [gC_f (by decide), rC81 h]
    by_cases h0 : s0 = 0
    · rw [if_pos h0] at he
      rw [if_pos h0, ← he]
    · rw [if_neg h0] at he
      rw [if_neg h0, ← he]
  unfold fX12_edge edgR
  simp only [pu_s, ck_t hL4]
  rw [ldI_nI (by omega) (by decide), ldI_nI (by omega) (by decide), show gR M 28 0 + 8 + 2 = gR M 28 0 + 10 from rfl, show gR M 28 0 + 11 + 2 = gR M 28 0 + 13 from rfl, e2, e4]
  by_cases hq : aF A 7 c = aF A 9 g
  · rw [if_pos hq, if_pos hq]; exact fin 1 5 (if_neg (by decide))
  · rw [if_neg hq, if_neg hq]; exact fin 0 0 (if_pos rfl)
theorem win_iff {A : LA} {r : Nat → Int32} {Y Z c g : Nat} (hA : okA A) (hR : okR A Y Z r) (hc : c < aN A 3) (hg : g < aN A 4) : (aF A 8 g + r 1 / 10 < aF A 6 c + (if aF A 7 c = aF A 9 g then 5 else 0)) ↔ aF A 8 g < edgR A r c g := by
  obtain ⟨⟨s, hs, es⟩, -⟩ := hA.2.2.2.2.2.2.2.2.2.2.1 c hc
  obtain ⟨⟨t, ht, et⟩, -⟩ := hA.2.2.2.2.2.2.2.2.2.2.2.1 g hg
  obtain ⟨w, hw, ew⟩ := hR.2.1
  unfold edgR
  rw [es, et, ew, show (10 : Int32) = nI 10 from rfl, pk_div (by omega) (by decide) (by decide)]
  have key : ∀ e : Nat, e ≤ 5 → ((nI t + nI (w / 10) < nI s + nI e) ↔ nI t < nI s + nI e - nI (w / 10)) := by
    intro e he
    rw [nI_add, nI_add, Int32.lt_iff_toInt_lt, Int32.lt_iff_toInt_lt, pk_sub_toInt (by omega) (by omega), nI_toInt (by omega), nI_toInt (by omega), nI_toInt (by omega)]
    omega
  by_cases hq : aF A 7 c = aF A 9 g
  · rw [if_pos hq]; exact key 5 (by decide)
  · rw [if_neg hq]; exact key 0 (by decide)
theorem isWin_ok {A : LA} {M : Mem} {Y Z : Nat} (hL : LandM A M) (hA : okA A) {r : Nat → Int32} (hr : rB M 0 = r) (hR : okR A Y Z r) {c g : Nat} (hc : c < aN A 3) (hg : g < aN A 4) : fX13_isWin M (nI c) (nI g) = some (if winR A r c g = true then 1 else 0) := by
  have h3 : aN A 3 ≤ 7 := hA.2.2.2.1
  have h4 : aN A 4 ≤ 7 := hA.2.2.2.2.1
  obtain ⟨e1, e2⟩ := hL.2.2.2.2.2.2.2.2.2.2.1 c hc
  obtain ⟨e3, e4⟩ := hL.2.2.2.2.2.2.2.2.2.2.2.1 g hg
  have hw := win_iff hA hR hc hg
  have fin : ∀ e9 : Int32, (aF A 8 g + r 1 / 10 < aF A 6 c + e9 ↔ aF A 8 g < edgR A r c g) → fX13_isWin_b26 M (nI g) e9 (aF A 6 c) = some (if decide (aF A 8 g < edgR A r c g) = true then 1 else 0) := by
    intro e9 hw
    unfold fX13_isWin_b26
    rw [ldI_nI (by omega) (by decide), show (1 : Int32) = nI 1 from rfl, ldI_nI (by decide) (by decide), e3, gB0 (by decide), hr]
    by_cases hz : aF A 8 g + r 1 / 10 < aF A 6 c + e9
    · rw [if_pos hz, if_pos (decide_eq_true (hw.mp hz))]
    · rw [if_neg hz, if_neg (fun q => hz (hw.mpr (of_decide_eq_true q)))]
  unfold fX13_isWin winR
  rw [ldI_nI (by omega) (by decide), ldI_nI (by omega) (by decide), ldI_nI (by omega) (by decide), e1, e2, e4]
  by_cases hq : aF A 7 c = aF A 9 g
  · rw [if_pos hq]
    rw [if_pos hq] at hw
    exact fin 5 hw
  · rw [if_neg hq]
    rw [if_neg hq] at hw
    exact fin 0 hw
theorem wins_q {A : LA} {M : Mem} (h : Rel A M) (x y : Int32) : qR (fX12_wins M x y) (fun M1 => fX13_wins M1 x y) M := by
  have h3 : aN A 3 ≤ 7 := h.1.2.2.2.1
  have h4 : aN A 4 ≤ 7 := h.1.2.2.2.2.1
  have bad : ∀ M1 : Mem, fX13_wins_b34 (sI M1 103 0 0) x y = some (0, sI (sI M1 103 0 0) 103 0 (nI 1)) := fun M1 => by
    unfold fX13_wins_b34 fX13_wins_b35
    rw [right_eq m00 _ _ (by decide), if_pos rfl, b2_s, if_pos rfl]
    rfl
  by_cases hx : x < 0 ∨ ¬ x < nI (aN A 3)
  · refine ⟨.error 1, ?_, fun M1 f => ?_⟩
    · unfold fX12_wins
      rw [needChampion_eq h.2.1, if_pos hx, bE_er]
    · show simM (fX13_wins M1 _ _) M1 _
      unfold fX13_wins
      rw [pu_s, pu_s, (m0L (h.ro f).2.2.1).2.2.2.1, bad]
      by_cases h1 : x < 0
      · rw [if_pos h1]; exact sM_er M0_ro
      · rw [if_neg h1, if_neg (hx.resolve_left h1)]; exact sM_er M0_ro
  · by_cases hy : y < 0 ∨ ¬ y < nI (aN A 4)
    · refine ⟨.error 1, ?_, fun M1 f => ?_⟩
      · unfold fX12_wins
        rw [needChampion_eq h.2.1, if_neg hx, bE_ok, needGate_eq h.2.1, if_pos hy, bE_er]
      · show simM (fX13_wins M1 _ _) M1 _
        unfold fX13_wins
        simp only [pu_s]
        rw [(m0L (h.ro f).2.2.1).2.2.2.1, (m0L (h.ro f).2.2.1).2.2.2.2.1, bad, if_neg (fun q => hx (Or.inl q)), if_pos (Decidable.byContradiction fun q => hx (Or.inr q))]
        by_cases h1 : y < 0
        · rw [if_pos h1]; exact sM_er M0_ro
        · rw [if_neg h1, if_neg (hy.resolve_left h1)]; exact sM_er M0_ro
    · obtain ⟨c, hc, ec⟩ := in_of hx (by omega)
      obtain ⟨g, hg, eg⟩ := in_of hy (by omega)
      refine ⟨.ok (if winR A (rB M 0) c g = true then 1 else 0), ?_, fun M1 f => ?_⟩
      · unfold fX12_wins
        rw [needChampion_eq h.2.1, if_neg hx, bE_ok, needGate_eq h.2.1, if_neg hy, bE_ok, ec, eg, edge_ok h hc hg, b1_s, pu_s, ck_t h.2.1.1, ldI_nI (by omega) (by decide), show gR M 28 0 + 11 + 1 = gR M 28 0 + 12 from rfl, (h.2.1.2.2.2.2.2.2.2.2.2.2.2.2.1 g hg).1]
        unfold winR
        by_cases hz : aF A 8 g < edgR A (rB M 0) c g
        · rw [if_pos hz, if_pos (decide_eq_true hz)]
        · rw [if_neg hz, if_neg (fun q => hz (of_decide_eq_true q))]
      · show simM (fX13_wins M1 _ _) M1 _
        unfold fX13_wins fX13_wins_b35
        simp only [pu_s]
        rw [(m0L (h.ro f).2.2.1).2.2.2.1, (m0L (h.ro f).2.2.1).2.2.2.2.1, if_neg (fun q => hx (Or.inl q)), if_pos (Decidable.byContradiction fun q => hx (Or.inr q)), if_neg (fun q => hy (Or.inl q)), if_pos (Decidable.byContradiction fun q => hy (Or.inr q)), right_eq m00 _ _ (by decide), if_neg (by decide), b2_s, if_neg (by decide), ec, eg, isWin_ok (m0L (h.ro f).2.2.1) h.1 (m0B.trans f.rB) h.okR hc hg, b1_s]
        by_cases hz : winR A (rB M 0) c g = true
        · rw [if_pos hz, if_neg (by decide)]; exact sM_ok M0_ro m00
        · rw [if_neg hz, if_pos rfl]; exact sM_ok M0_ro m00
def guaL (A : LA) (r : Nat → Int32) (g : Nat) : Nat → Nat → Int32 → Int32
  | 0, _, s => s
  | d + 1, c, s => guaL A r g d (c + 1) (if s < edgR A r c g then edgR A r c g else s)
theorem guaC_l {A : LA} {M : Mem} (h : Rel A M) {g : Nat} (hg : g < aN A 4) : ∀ (d c fuel : Nat) (s : Int32), c + d = aN A 3 → d < fuel → fX12_guarded_l9 fuel M (nI g) s (nI c) = some (.ok (guaL A (rB M 0) g d c s)) := by
  have h3 : aN A 3 ≤ 7 := h.1.2.2.2.1
  intro d
  induction d with
  | zero =>
    intro c fuel s hd hf
    obtain ⟨m, rfl⟩ : ∃ m, fuel = m + 1 := ⟨fuel - 1, by omega⟩
    rw [fX12_guarded_l9]
    simp only [pu_s, ck_t h.2.1.1]
    rw [h.2.1.2.2.2.2.1, if_neg (by rw [lt_nI (by omega) (by omega)]; omega)]
    rfl
  | succ d ih =>
    intro c fuel s hd hf
    obtain ⟨m, rfl⟩ : ∃ m, fuel = m + 1 := ⟨fuel - 1, by omega⟩
    rw [fX12_guarded_l9]
    simp only [pu_s, ck_t h.2.1.1]
    rw [h.2.1.2.2.2.2.1, if_pos (by rw [lt_nI (by omega) (by omega)]; omega), edge_ok h (by omega) hg, b1_s, nI_1, ih (c + 1) m _ (by omega) (by omega)]
    rfl
theorem guaM_l {A : LA} {M1 : Mem} {r : Nat → Int32} (hL : LandM A M1) (hA : okA A) (hr : rB M1 0 = r) {g : Nat} (hg : g < aN A 4) : ∀ (d c fuel : Nat) (s : Int32), c + d = aN A 3 → d < fuel → fX13_guarded_l36 fuel M1 (nI g) s (nI c) = some (guaL A r g d c s, M1) := by
  have h3 : aN A 3 ≤ 7 := hA.2.2.2.1
  have h4 : aN A 4 ≤ 7 := hA.2.2.2.2.1
  intro d
  induction d with
  | zero =>
    intro c fuel s hd hf
    obtain ⟨m, rfl⟩ : ∃ m, fuel = m + 1 := ⟨fuel - 1, by omega⟩
    rw [fX13_guarded_l36, pu_s, hL.2.2.2.1, if_neg (by rw [lt_nI (by omega) (by omega)]; omega)]
    rfl
  | succ d ih =>
    intro c fuel s hd hf
    obtain ⟨m, rfl⟩ : ∃ m, fuel = m + 1 := ⟨fuel - 1, by omega⟩
    obtain ⟨e1, e2⟩ := hL.2.2.2.2.2.2.2.2.2.2.1 c (by omega)
    obtain ⟨e3, e4⟩ := hL.2.2.2.2.2.2.2.2.2.2.2.1 g hg
    have fin : ∀ e : Int32, e = (if aF A 7 c = aF A 9 g then 5 else 0) → fX13_guarded_b70 (fX13_guarded_l36 m) M1 (nI g) s (nI c) e (aF A 6 c) = some (guaL A r g (d + 1) c s, M1) := by
      intro e he
      unfold fX13_guarded_b70 fX13_guarded_b95
      rw [show (1 : Int32) = nI 1 from rfl, ldI_nI (by decide) (by decide), gB0 (by decide), hr]
      simp only [pu_s]
      have e9 : aF A 6 c + e - r 1 / 10 = edgR A r c g := by unfold edgR; rw [he]
      rw [e9, nI_add]
      unfold guaL
      by_cases hs : s < edgR A r c g
      · rw [if_pos hs, if_pos hs]; exact ih (c + 1) m _ (by omega) (by omega)
      · rw [if_neg hs, if_neg hs]; exact ih (c + 1) m _ (by omega) (by omega)
    rw [fX13_guarded_l36, pu_s, hL.2.2.2.1, if_pos (by rw [lt_nI (by omega) (by omega)]; omega), ldI_nI (by omega) (by decide), ldI_nI (by omega) (by decide), ldI_nI (by omega) (by decide), e1, e2, e4]
    by_cases hq : aF A 7 c = aF A 9 g
    · rw [if_pos hq]; exact fin 5 (by rw [if_pos hq])
    · rw [if_neg hq]; exact fin 0 (by rw [if_neg hq])
theorem guarded_q {A : LA} {M : Mem} (h : Rel A M) (x : Int32) : qR (fX12_guarded M x) (fun M1 => fX13_guarded M1 x) M := by
  have h3 : aN A 3 ≤ 7 := h.1.2.2.2.1
  have h4 : aN A 4 ≤ 7 := h.1.2.2.2.2.1
  by_cases hx : x < 0 ∨ ¬ x < nI (aN A 4)
  · refine ⟨.error 1, ?_, fun M1 f => ?_⟩
    · unfold fX12_guarded
      rw [needGate_eq h.2.1, if_pos hx, bE_er]
    · show simM (fX13_guarded M1 _) M1 _
      have bad : fX13_guarded_b22 (sI M1 103 0 0) x = some (0, sI (sI M1 103 0 0) 103 0 (nI 1)) := by
        unfold fX13_guarded_b22 fX13_guarded_b23
        rw [right_eq m00 _ _ (by decide), if_pos rfl, b2_s, if_pos rfl]
        rfl
      unfold fX13_guarded
      rw [pu_s, pu_s, (m0L (h.ro f).2.2.1).2.2.2.2.1, bad]
      by_cases h1 : x < 0
      · rw [if_pos h1]; exact sM_er M0_ro
      · rw [if_neg h1, if_neg (hx.resolve_left h1)]; exact sM_er M0_ro
  · obtain ⟨g, hg, eg⟩ := in_of hx (by omega)
    refine ⟨.ok (guaL A (rB M 0) g (aN A 3) 0 0), ?_, fun M1 f => ?_⟩
    · unfold fX12_guarded
      rw [needGate_eq h.2.1, if_neg hx, bE_ok, eg]
      exact guaC_l h hg (aN A 3) 0 FU 0 (by omega) (by show _ < 100000; omega)
    · show simM (fX13_guarded M1 _) M1 _
      unfold fX13_guarded fX13_guarded_b23
      rw [pu_s, pu_s, (m0L (h.ro f).2.2.1).2.2.2.2.1, if_neg (fun q => hx (Or.inl q)), if_pos (Decidable.byContradiction fun q => hx (Or.inr q)), right_eq m00 _ _ (by decide), if_neg (by decide), b2_s, if_neg (by decide), eg]
      rw [show fX13_guarded_l36 FU (sI M1 103 0 0) (nI g) 0 0 = _ from guaM_l (m0L (h.ro f).2.2.1) h.1 (m0B.trans f.rB) hg (aN A 3) 0 FU 0 (by omega) (by show _ < 100000; omega)]
      exact sM_ok M0_ro m00
theorem fault_q {A : LA} {M : Mem} (h : Rel A M) : fX12_fault M = some (gI M 0 2) ∧ ∃ M2, fX13_fault M = some (gI M 0 2, M2) ∧ RO M M2 := by
  refine ⟨rfl, sI M 103 0 0, ?_, M0_ro⟩
  unfold fX13_fault
  rw [pu_s, pu_s, gI_sj (by decide), ← h.2.2.2.2.2.2.2.2.2.1]
