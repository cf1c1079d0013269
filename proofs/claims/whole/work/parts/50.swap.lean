/-! QUESTIONS of the years to come: swap -/
def wp (b i : Nat) : Nat := 13 + 6 * b + i
def swR (r : Nat → Int32) (b i j : Nat) : Nat → Int32 := upd (upd r (wp b i) (r (wp b j))) (wp b j) (r (wp b i))
theorem swR_ii (r : Nat → Int32) (b i : Nat) : swR r b i i = r := by
  funext k
  unfold swR
  rw [upd_a, upd_a]
  by_cases h : k = wp b i
  · rw [if_pos h, h]
  · rw [if_neg h, if_neg h]
theorem swR_inv {r : Nat → Int32} {b i j : Nat} : swR (swR r b i j) b i j = r := by
  funext k
  unfold swR
  simp only [upd_a]
  by_cases h1 : k = wp b j
  · by_cases h2 : wp b i = wp b j
    · simp [h1, h2]
    · simp [h1, h2]
  · by_cases h2 : k = wp b i
    · simp [h2]
      intro h3
      rw [h3]
      intro _
      rfl
    · simp [h1, h2]
theorem okR_sw {A : LA} {Y Z b i j : Nat} {r : Nat → Int32} (h : okR A Y Z r) (hb : b < 2) (hi : i < aN A (5 + b)) (hj : j < aN A (5 + b)) (hA : okA A) : okR A Y Z (swR r b i j) := by
  have h6 := wayLe hA hb
  obtain ⟨g0, g1, g2, g3, g4, g5, g6, g7, g8, g9, g10, g11, g12, g13⟩ := h
  have e : ∀ k, k < 13 ∨ 25 ≤ k → swR r b i j k = r k := fun k hk => by unfold swR wp; rw [upd_a, if_neg (by omega), upd_a, if_neg (by omega)]
  refine ⟨?_, ?_, ?_, ?_, ?_, ?_, ?_, ?_, ?_, ?_, ?_, fun b9 hb9 i9 hi9 => ?_, fun i hi => ?_, fun j hj => ?_⟩
  · rw [e _ (by decide)]; exact g0
  · rw [e _ (by decide)]; exact g1
  · rw [e _ (by decide)]; exact g2
  · rw [e _ (by decide)]; exact g3
  · rw [e _ (by decide)]; exact g4
  · rw [e _ (by decide)]; exact g5
  · rw [e _ (by decide)]; exact g6
  · rw [e _ (by decide)]; exact g7
  · rw [e _ (by decide)]; exact g8
  · rw [e _ (by decide)]; exact g9
  · rw [e _ (by decide)]; exact g10
  · have h69 := wayLe hA hb9
    unfold swR
    rw [upd_a]
    split
    · next q =>
      have hbb : b9 = b := by unfold wp at q; omega
      subst hbb
      exact g11 b9 hb9 i hi
    · rw [upd_a]
      split
      · next q =>
        have hbb : b9 = b := by unfold wp at q; omega
        subst hbb
        exact g11 b9 hb9 j hj
      · exact g11 b9 hb9 i9 hi9
  · rw [e _ (by omega)]; exact g12 i hi
  · rw [e _ (by omega)]; exact g13 j hj
def gloS (A : LA) (r : Nat → Int32) (b i j : Nat) : Int32 := yearsR A (swR r b i j) 30 (6 + b)
theorem gloC_ok {A : LA} {M M1 : Mem} {b i j : Nat} (h : Rel A M) (f : RO M M1) (hb : b < 2) (hij : (i < aN A (5 + b) ∧ j < aN A (5 + b)) ∨ (i = 0 ∧ j = 0)) : ∃ M2, fX12_gloryWithSwap M1 (nI b) (nI i) (nI j) = some (gloS A (rB M 0) b i j, M2) ∧ RO M M2 := by
  have h6 := wayLe h.1 hb
  have hi6 : i < 6 ∧ j < 6 := by omega
  obtain ⟨C1, c1, w1⟩ := c_start h f
  obtain ⟨g, hL, e, e81⟩ := w1
  have g84 : ∀ k, k < 12 → gI C1 84 k = rB M 0 (13 + k) := fun k hk => by rw [← e81]; exact gC_a3 (k := 81) hk
  have w2 : cW A M (swR (rB M 0) b i j) (sI (sI C1 89 (b * 6 + i) (rB M 0 (wp b j))) 89 (b * 6 + j) (rB M 0 (wp b i))) := by
    have fr9 : frC 86 C1 (sI (sI C1 89 (b * 6 + i) (rB M 0 (wp b j))) 89 (b * 6 + j) (rB M 0 (wp b i))) := (frC.rf.st (by omega)).st (by omega)
    refine ⟨g.tr (fr9.RO (Or.inr rfl)), hL.fr (by decide) fr9, ?_, by rw [rC_fr fr9 (by decide) (by decide), e81]⟩
    rw [show (89 : Nat) = 86 + 3 from rfl, rC_a3 (k := 86) (by omega), rC_a3 (k := 86) (by omega), e]
    unfold swR wp
    rw [show 13 + (b * 6 + i) = 13 + 6 * b + i by omega, show 13 + (b * 6 + j) = 13 + 6 * b + j by omega]
  have hR2 : okR A 999 19980 (swR (rB M 0) b i j) := by
    rcases hij with ⟨q1, q2⟩ | ⟨q1, q2⟩
    · exact okR_sw h.okR hb q1 q2 h.1
    · rw [q1, q2, swR_ii]; exact h.okR
  obtain ⟨C3, c3, w3⟩ := c_pass h.1 w2 hR2 (by decide) (by decide) (n := 30) (by decide)
  refine ⟨C3, ?_, w3.1⟩
  unfold fX12_gloryWithSwap
  rw [c1, b1_s, show (6 : Int32) = nI 6 from rfl, pk_mul, pu_s, nI_add, nI_add, ldI_nI (by omega) (by decide), stI_nI (by omega) (by decide), ldI_nI (by omega) (by decide), gI_sa (by decide), stI_nI (by omega) (by decide), g84 _ (by omega), g84 _ (by omega)]
  rw [show 13 + (b * 6 + i) = wp b i by unfold wp; omega, show 13 + (b * 6 + j) = wp b j by unfold wp; omega, show fX7_passMany _ 86 30 = _ from c3, b1_s, ldI_nI hb (by decide), show gI C3 88 b = rC C3 86 (6 + b) from gC_a2 (k := 86) hb, w3.2.2.1]
  rfl
def swI (A : LA) (r : Nat → Int32) (b : Nat) : Nat → Nat → Nat → Int32 × Int32 → Int32 × Int32
  | 0, _, _, s => s
  | d + 1, i, j, s => swI A r b d i (j + 1) (if s.1 < gloS A r b i j then (gloS A r b i j, 10 * nI i + nI j) else s)
def swO (A : LA) (r : Nat → Int32) (b : Nat) : Nat → Nat → Int32 × Int32 → Int32
  | 0, _, s => s.2
  | d + 1, i, s => swO A r b d (i + 1) (swI A r b d i (i + 1) s)
theorem swC_in {A : LA} {M : Mem} {b N i : Nat} (h : Rel A M) (hb : b < 2) (hN : N = aN A (5 + b)) (hi : i < N) (a : Mem → Int32 → Int32 → Int32 → Int32 → Int32 → Option (Except Nat (Int32 × Mem))) : ∀ (d j fuel : Nat) (M1 : Mem) (s : Int32 × Int32), RO M M1 → j + d = N → d < fuel → ∃ M2, fX12_swap_l44 a fuel M1 (nI b) (nI N) s.1 s.2 (nI i) (nI j) = a M2 (nI b) (nI N) (swI A (rB M 0) b d i j s).1 (swI A (rB M 0) b d i j s).2 (nI (i + 1)) ∧ RO M M2 := by
  have h6 := wayLe h.1 hb
  intro d
  induction d with
  | zero =>
    intro j fuel M1 s f hj hf
    obtain ⟨m, rfl⟩ : ∃ m, fuel = m + 1 := ⟨fuel - 1, by omega⟩
    rw [fX12_swap_l44, if_neg (by rw [lt_nI (by omega) (by omega)]; omega), pu_s, nI_1]
    exact ⟨M1, rfl, f⟩
  | succ d ih =>
    intro j fuel M1 s f hj hf
    obtain ⟨m, rfl⟩ : ∃ m, fuel = m + 1 := ⟨fuel - 1, by omega⟩
    obtain ⟨M2, h2, f2⟩ := gloC_ok h f hb (i := i) (j := j) (Or.inl (by omega))
    rw [fX12_swap_l44, if_pos (by rw [lt_nI (by omega) (by omega)]; omega), h2, b2_s]
    unfold fX12_swap_b80
    simp only [pu_s]
    unfold swI
    by_cases hs : s.1 < gloS A (rB M 0) b i j
    · rw [if_pos hs, if_pos hs, nI_1]
      exact ih (j + 1) m M2 (gloS A (rB M 0) b i j, 10 * nI i + nI j) f2 (by omega) (by omega)
    · rw [if_neg hs, if_neg hs, nI_1]
      exact ih (j + 1) m M2 s f2 (by omega) (by omega)
theorem swC_out {A : LA} {M : Mem} {b N : Nat} (h : Rel A M) (hb : b < 2) (hN : N = aN A (5 + b)) : ∀ (d i fuel : Nat) (M1 : Mem) (s : Int32 × Int32), RO M M1 → i + d = N → d < fuel → ∃ M2, fX12_swap_l32 fuel M1 (nI b) (nI N) s.1 s.2 (nI i) = some (.ok (swO A (rB M 0) b d i s, M2)) ∧ RO M M2 := by
  have h6 := wayLe h.1 hb
  intro d
  induction d with
  | zero =>
    intro i fuel M1 s f hj hf
    obtain ⟨m, rfl⟩ : ∃ m, fuel = m + 1 := ⟨fuel - 1, by omega⟩
    rw [fX12_swap_l32, if_neg (by rw [lt_nI (by omega) (by omega)]; omega)]
    exact ⟨M1, rfl, f⟩
  | succ d ih =>
    intro i fuel M1 s f hj hf
    obtain ⟨m, rfl⟩ : ∃ m, fuel = m + 1 := ⟨fuel - 1, by omega⟩
    rw [fX12_swap_l32, if_pos (by rw [lt_nI (by omega) (by omega)]; omega), pu_s, nI_1]
    obtain ⟨M2, h2, f2⟩ := swC_in h hb hN (i := i) (by omega) (fX12_swap_l32 m) d (i + 1) FU M1 s f (by omega) (by show d < 100000; omega)
    rw [h2]
    exact ih (i + 1) m M2 _ f2 (by omega) (by omega)
/-- the reference swaps two places of its own row and asks, then swaps them back -/
theorem swM_ask {A : LA} {M M1 : Mem} {b i j : Nat} (h : Rel A M) (f : RO M M1) (h0 : gI M1 103 0 = 0) (hb : b < 2) (hi : i < aN A (5 + b)) (hj : j < aN A (5 + b)) (hij : i ≠ j) : ∃ M2 M3 M4, fX13_swaps M1 (nI (wp b 0) + nI i) (nI (wp b 0) + nI j) = some M2 ∧ fX13_gloryIn M2 (nI b) = some (gloS A (rB M 0) b i j, M3) ∧ fX13_swaps M3 (nI (wp b 0) + nI i) (nI (wp b 0) + nI j) = some M4 ∧ RO M M4 ∧ gI M4 103 0 = 0 := by
  have h6 := wayLe h.1 hb
  have p1 : wp b 0 + i = wp b i := by unfold wp; omega
  have p2 : wp b 0 + j = wp b j := by unfold wp; omega
  have l1 : wp b i < 31 := by unfold wp; omega
  have l2 : wp b j < 31 := by unfold wp; omega
  have hne : wp b i ≠ wp b j := by unfold wp; omega
  have sw : ∀ (N1 : Mem) (r : Nat → Int32), rB N1 0 = r → fX13_swaps N1 (nI (wp b 0) + nI i) (nI (wp b 0) + nI j) = some (sI (sI N1 133 (wp b i) (r (wp b j))) 133 (wp b j) (r (wp b i))) ∧ rB (sI (sI N1 133 (wp b i) (r (wp b j))) 133 (wp b j) (r (wp b i))) 0 = swR r b i j := by
    intro N1 r hr
    constructor
    · unfold fX13_swaps
      rw [nI_add, nI_add, p1, p2, ldI_nI (by omega) (by decide), ldI_nI (by omega) (by decide), gB0 l1, gB0 l2, hr, stI_nI (by omega) (by decide), stI_nI (by omega) (by decide)]
    · have e1 := rB_s (M := sI N1 133 (wp b i) (r (wp b j))) (b := 0) (i := wp b j) (v := r (wp b i)) l2
      have e2 := rB_s (M := N1) (b := 0) (i := wp b i) (v := r (wp b j)) l1
      rw [Nat.zero_add] at e1 e2
      rw [e1, e2, hr]
      rfl
  have h1 := h.ro f
  obtain ⟨s1, b1⟩ := sw M1 (rB M 0) f.rB
  generalize hM2 : sI (sI M1 133 (wp b i) (rB M 0 (wp b j))) 133 (wp b j) (rB M 0 (wp b i)) = M2 at s1 b1
  have fr2 : frM 0 M1 M2 := by rw [← hM2]; exact (frM.rf.st (by omega) (by omega)).st (by omega) (by omega)
  have hL2 := h1.2.2.1.fr fr2
  have hR2 : okR A 999 19980 (swR (rB M 0) b i j) := okR_sw h.okR hb hi hj h.1
  obtain ⟨M3, d3, e3, f3⟩ := lays0_ok (b := 0) (c := 31) (M := M2) (by decide) (by decide) (by decide)
  obtain ⟨M4, d4, e4, f4⟩ := goesYears_ok (b := 31) (N := 30) (hL2.fr f3) h.1 (by decide) (by decide) (by rw [e3, b1]; exact hR2) (by decide) (by decide)
  have f34 := f3.tr f4
  have b4 : rB M4 0 = swR (rB M 0) b i j := by rw [rB_fr f34 (by decide), b1]
  obtain ⟨s5, b5⟩ := sw M4 _ b4
  rw [swR_inv] at b5
  refine ⟨M2, M4, _, s1, ?_, s5, ?_, ?_⟩
  · unfold fX13_gloryIn
    rw [show fX13_lays0 M2 0 31 = _ from d3, b1_s, show fX13_goesYears M3 31 30 = _ from d4, b1_s, show (37 : Int32) = nI 37 from rfl, nI_add, ldI_nI (by omega) (by decide), show 37 + b = 31 + (6 + b) by omega, rB_g (by omega), e4, e3, b1]
    rfl
  · generalize hM5 : sI (sI M4 133 (wp b i) (swR (rB M 0) b i j (wp b j))) 133 (wp b j) (swR (rB M 0) b i j (wp b i)) = M5 at b5
    have fr5 : frM 0 M4 M5 := by rw [← hM5]; exact (frM.rf.st (by omega) (by omega)).st (by omega) (by omega)
    refine ⟨fun a k hk => ?_, ?_⟩
    · by_cases ha : a = 133
      · by_cases hk31 : k < 31
        · subst ha
          rw [gB0 hk31, b5, gB0 hk31]
        · exact absurd (by unfold scr; omega) hk
      · rw [fr5.1 a k (fun q => absurd q ha) (fun e => hk (by unfold scr; omega)) (fun e => hk (by unfold scr; omega)), f34.1 a k (fun q => absurd q ha) (fun e => hk (by unfold scr; omega)) (fun e => hk (by unfold scr; omega)), fr2.1 a k (fun q => absurd q ha) (fun e => hk (by unfold scr; omega)) (fun e => hk (by unfold scr; omega)), f.1 a k hk]
    · rw [fr5.2, f34.2, fr2.2, f.2]
  · rw [gI_sa (by decide), gI_sa (by decide), f34.1 103 0 (fun q => absurd q (by decide)) (by decide) (by decide), fr2.1 103 0 (fun q => absurd q (by decide)) (by decide) (by decide)]
    exact h0
theorem swM_in {A : LA} {M : Mem} {b N i : Nat} (h : Rel A M) (hb : b < 2) (hN : N = aN A (5 + b)) (hi : i < N) (a : Mem → Int32 → Int32 → Int32 → Int32 → Int32 → Option (Int32 × Mem)) : ∀ (d j fuel : Nat) (M1 : Mem) (s : Int32 × Int32), RO M M1 → gI M1 103 0 = 0 → i < j → j + d = N → d < fuel → ∃ M2, fX13_swap_l52 a fuel M1 (nI b) s.2 s.1 (nI (wp b 0)) (nI i) (nI j) = a M2 (nI b) (swI A (rB M 0) b d i j s).2 (swI A (rB M 0) b d i j s).1 (nI (wp b 0)) (nI (i + 1)) ∧ RO M M2 ∧ gI M2 103 0 = 0 := by
  have h6 := wayLe h.1 hb
  intro d
  induction d with
  | zero =>
    intro j fuel M1 s f h0 hij hj hf
    obtain ⟨m, rfl⟩ : ∃ m, fuel = m + 1 := ⟨fuel - 1, by omega⟩
    rw [fX13_swap_l52, ldI_nI hb (by decide), wayLenM (h.ro f).2.2.1 hb, ← hN, if_neg (by rw [lt_nI (by omega) (by omega)]; omega), pu_s, nI_1]
    exact ⟨M1, rfl, f, h0⟩
  | succ d ih =>
    intro j fuel M1 s f h0 hij hj hf
    obtain ⟨m, rfl⟩ : ∃ m, fuel = m + 1 := ⟨fuel - 1, by omega⟩
    obtain ⟨M2, M3, M4, q2, q3, q4, f4, t4⟩ := swM_ask h f h0 hb (i := i) (j := j) (by omega) (by omega) (by omega)
    rw [fX13_swap_l52, ldI_nI hb (by decide), wayLenM (h.ro f).2.2.1 hb, ← hN, if_pos (by rw [lt_nI (by omega) (by omega)]; omega), q2, b1_s, q3, b2_s, q4, b1_s]
    unfold fX13_swap_b119
    simp only [pu_s]
    unfold swI
    by_cases hs : s.1 < gloS A (rB M 0) b i j
    · rw [if_pos hs, if_pos hs, nI_1]
      exact ih (j + 1) m M4 (gloS A (rB M 0) b i j, 10 * nI i + nI j) f4 t4 (by omega) (by omega) (by omega)
    · rw [if_neg hs, if_neg hs, nI_1]
      exact ih (j + 1) m M4 s f4 t4 (by omega) (by omega) (by omega)
theorem swM_out {A : LA} {M : Mem} {b N : Nat} (h : Rel A M) (hb : b < 2) (hN : N = aN A (5 + b)) : ∀ (d i fuel : Nat) (M1 : Mem) (s : Int32 × Int32), RO M M1 → gI M1 103 0 = 0 → i + d = N → d < fuel → ∃ M2, fX13_swap_l35 fuel M1 (nI b) s.2 s.1 (nI (wp b 0)) (nI i) = some (swO A (rB M 0) b d i s, M2) ∧ RO M M2 ∧ gI M2 103 0 = 0 := by
  have h6 := wayLe h.1 hb
  intro d
  induction d with
  | zero =>
    intro i fuel M1 s f h0 hj hf
    obtain ⟨m, rfl⟩ : ∃ m, fuel = m + 1 := ⟨fuel - 1, by omega⟩
    rw [fX13_swap_l35, ldI_nI hb (by decide), wayLenM (h.ro f).2.2.1 hb, ← hN, if_neg (by rw [lt_nI (by omega) (by omega)]; omega)]
    exact ⟨M1, rfl, f, h0⟩
  | succ d ih =>
    intro i fuel M1 s f h0 hj hf
    obtain ⟨m, rfl⟩ : ∃ m, fuel = m + 1 := ⟨fuel - 1, by omega⟩
    rw [fX13_swap_l35, ldI_nI hb (by decide), wayLenM (h.ro f).2.2.1 hb, ← hN, if_pos (by rw [lt_nI (by omega) (by omega)]; omega), pu_s, nI_1]
    obtain ⟨M2, h2, f2, t2⟩ := swM_in h hb hN (i := i) (by omega) (fX13_swap_l35 m) d (i + 1) FU M1 s f h0 (by omega) (by omega) (by show d < 100000; omega)
    rw [h2]
    exact ih (i + 1) m M2 _ f2 t2 (by omega) (by omega)
theorem swap_q {A : LA} {M : Mem} (h : Rel A M) (x : Int32) : qC (fX12_swap M x) (fun M1 => fX13_swap M1 x) M := by
  by_cases hx : x = 0 ∨ x = 1
  · obtain ⟨b, hb, e⟩ := bro_of hx
    have h6 := wayLe h.1 hb
    refine ⟨.ok (swO A (rB M 0) b (aN A (5 + b)) 0 (gloS A (rB M 0) b 0 0, -1)), ?_, fun M1 f => ?_⟩
    · obtain ⟨C1, c1, f1⟩ := gloC_ok h RO.rf hb (i := 0) (j := 0) (Or.inr ⟨rfl, rfl⟩)
      obtain ⟨C2, c2, f2⟩ := swC_out h hb rfl (aN A (5 + b)) 0 FU C1 (gloS A (rB M 0) b 0 0, -1) f1 (by omega) (by show _ < 100000; omega)
      refine ⟨C2, ?_, f2⟩
      unfold fX12_swap
      rw [needBrother_eq, if_pos hx, bE_ok, pu_s, ck_t h.2.1.1, e, ldI_nI hb (by decide), wayLen h.2.1 hb, show fX12_gloryWithSwap M (nI b) 0 0 = _ from c1, b2_s]
      exact c2
    · have h1 := h.ro f
      obtain ⟨D1, d1, v1⟩ := m_start h1 M0_ro m00
      obtain ⟨D2, d2, v2⟩ := m_pass h.1 v1 h1.okR (by decide) (by decide) (n := 30) (by decide)
      obtain ⟨D3, d3, f3, t3⟩ := swM_out h1 hb rfl (aN A (5 + b)) 0 FU D2 (gloS A (rB M1 0) b 0 0, -1) v2.1 v2.2.2.2.2 (by omega) (by show _ < 100000; omega)
      show simM (fX13_swap M1 _) M1 _
      have eg : fX13_gloryIn (sI M1 103 0 0) (nI b) = some (gloS A (rB M1 0) b 0 0, D2) := by
        unfold fX13_gloryIn
        rw [d1, b1_s, show fX13_goesYears D1 31 30 = _ from d2, b1_s, show (37 : Int32) = nI 37 from rfl, nI_add, ldI_nI (by omega) (by decide), show 37 + b = 31 + (6 + b) by omega, v2.g (by omega)]
        unfold gloS
        rw [swR_ii]
      unfold fX13_swap
      rw [pu_s, gB_eq m00, if_pos hx, e, eg, b2_s, show (13 : Int32) = nI 13 from rfl, show (6 : Int32) = nI 6 from rfl, pk_mul, nI_add, pu_s]
      rw [show 13 + 6 * b = wp b 0 from rfl, show fX13_swap_l35 FU D2 (nI b) (-1) (gloS A (rB M1 0) b 0 0) (nI (wp b 0)) 0 = _ from d3, f.rB]
      exact sM_ok f3 t3
  · refine ⟨.error 1, ?_, fun M1 f => ?_⟩
    · show fX12_swap M x = _
      unfold fX12_swap
      rw [needBrother_eq, if_neg hx, bE_er]
    · show simM (fX13_swap M1 _) M1 _
      unfold fX13_swap
      rw [pu_s, gB_eq m00, if_neg hx]
      exact sM_er M0_ro
