/-! QUESTIONS of the years to come: cost, fair, least -/
def aloneN (A : LA) (r : Nat → Int32) : Nat → (Nat → Int32)
  | 0 => r
  | n + 1 => aloneR A (aloneN A r n)
theorem okR_alones {A : LA} {Y Z : Nat} {r : Nat → Int32} (h : okR A Y Z r) (hA : okA A) (hZ : Z < 10 ^ 8) : ∀ n : Nat, n < 10 ^ 6 → okR A (Y + n) (Z + 20 * n) (aloneN A r n)
  | 0, _ => h
  | n + 1, hn => okR_mono (okR_alone (okR_alones h hA hZ n (by omega)) hA (by omega)) (by omega) (by omega)
theorem costC_l {A : LA} {M : Mem} {r : Nat → Int32} {N : Nat} {v : Int32} (hA : okA A) (hN : N ≤ 60) (hR : okR A 999 19980 r) : ∀ (d j fuel : Nat) (M1 : Mem), cW A M (aloneN A r j) M1 → j + d = N → d < fuel → ∃ M2, fX12_cost_l52 fuel M1 (nI N) v (nI j) = some (.ok (weal (aloneN A r N) - v, M2)) ∧ RO M M2 := by
  intro d
  induction d with
  | zero =>
    intro j fuel M1 w hj hf
    obtain ⟨m, rfl⟩ : ∃ m, fuel = m + 1 := ⟨fuel - 1, by omega⟩
    rw [fX12_cost_l52, if_neg (by rw [lt_nI (by omega) (by omega)]; omega), wealth_eq (by decide), b1_s, w.2.2.1, show j = N by omega]
    exact ⟨M1, rfl, w.1⟩
  | succ d ih =>
    intro j fuel M1 w hj hf
    obtain ⟨m, rfl⟩ : ∃ m, fuel = m + 1 := ⟨fuel - 1, by omega⟩
    obtain ⟨M2, h2, w2⟩ := c_alone hA w (okR_alones hR hA (by decide) j (by omega)) (by omega) (by omega)
    rw [fX12_cost_l52, if_pos (by rw [lt_nI (by omega) (by omega)]; omega), h2, b1_s, pu_s, nI_1]
    exact ih (j + 1) m M2 w2 (by omega) (by omega)
theorem m_alone {A : LA} {M M1 : Mem} {r : Nat → Int32} {Y Z : Nat} (hA : okA A) (h : mW A M r M1) (hR : okR A Y Z r) (hY : Y < 10 ^ 6) (hZ : Z < 10 ^ 6) : ∃ M2, (ldI M1 133 186 34 fun vq13 => b1 (fX13_harvestOf M1 vq13) fun vq14 => b1 (fX13_gathers M1 31 vq14) fun Mq15 => ldI Mq15 133 186 35 fun vq16 => b1 (fX13_wayOf Mq15 31 vq16) fun vq17 => b2 (fX13_does Mq15 31 vq17) fun _ Mq19 => fX13_ends Mq19 31 0) = some M2 ∧ mW A M (aloneR A r) M2 := by
  obtain ⟨f, hL, e, e0, ht⟩ := h
  have hRM : okR A Y Z (rB M1 31) := by rw [e]; exact hR
  obtain ⟨y, hy, ey⟩ := hRM.2.2.2.1
  obtain ⟨hr1, hr2⟩ := ruler_lt hRM
  have hh : harvR A (rB M1 31) = if aN A 1 = 0 then 20 else aF A 4 (y % aN A 1) := by
    unfold harvR
    rw [ey, nI_clamp (by omega)]
  obtain ⟨M2, h2, hB2, f2⟩ := gathers_ok (M := M1) (b := 31) (h := harvR A (rB M1 31)) (by decide)
  have hL2 := hL.fr f2
  have hR2 : okR A Y Z (rB M2 31) := by rw [hB2]; exact okR_gath hRM _
  obtain ⟨hs1, hs2⟩ := ruler_lt hR2
  have hm : ∃ m : Nat, m < 2 ^ 31 ∧ rB M2 31 (10 + ruler (rB M2 31)) = nI m := by
    have hu : ruler (rB M2 31) = 0 ∨ ruler (rB M2 31) = 1 := by omega
    rcases hu with q | q <;> rw [q]
    · obtain ⟨m, q1, q2⟩ := hR2.2.2.2.2.2.2.2.2.1
      exact ⟨m, by omega, q2⟩
    · obtain ⟨m, q1, q2⟩ := hR2.2.2.2.2.2.2.2.2.2.1
      exact ⟨m, by omega, q2⟩
  obtain ⟨m, hm1, hm2⟩ := hm
  have hd := way_dOk hRM hr1
  obtain ⟨M3, h3, hB3, f3⟩ := doX_ok (d := wayR A (rB M1 31) (ruler (rB M1 31))) hL2 hA (by decide) hd hR2
  have hR3 : okR A Y (Z + 20) (rB M3 31) := by rw [hB3]; exact okR_doX hR2 hA hd (by omega)
  obtain ⟨M4, h4, hB4, f4⟩ := ends_ok (asks := 0) (hL2.fr f3) hA (by decide) hR3
  have f9 := (f2.tr f3).tr f4
  refine ⟨M4, ?_, f.tr (f9.RO (by decide)), hL.fr f9, ?_, ?_, ?_⟩
  · rw [show (34 : Int32) = nI (31 + 3) from by decide, ldI_nI (by decide) (by decide), rB_g (by decide), ey, harv_ok hL hA (by omega), b1_s, ← hh, show (31 : Int32) = nI 31 from rfl, h2, b1_s, show (35 : Int32) = nI (31 + 4) from by decide, ldI_nI (by decide) (by decide), rB_g (by decide), hs2, way_ok hL2 hA (by decide) hs1 hm2 hm1, b1_s, hB2, wayR_gath, ruler_gath, h3, b2_s, h4]
  · rw [hB4, if_pos rfl, hB3, hB2, e]; rfl
  · rw [rB_fr f9 (by decide), e0]
  · rw [f9.1 103 0 (fun q => absurd q (by decide)) (by decide) (by decide)]; exact ht
theorem b1_as {α β γ : Type} {o : Option α} {k : α → Option β} {l : β → Option γ} : b1 (b1 o k) l = b1 o fun a => b1 (k a) l := by cases o <;> rfl
theorem b2_as {α β γ : Type} {o : Option (α × Mem)} {k : α → Mem → Option β} {l : β → Option γ} : b1 (b2 o k) l = b2 o fun a M => b1 (k a M) l := by cases o <;> rfl
theorem ld_as {β γ : Type} {M : Mem} {a n : Nat} {i : Int32} {k : Int32 → Option β} {l : β → Option γ} : b1 (ldI M a n i k) l = ldI M a n i fun v => b1 (k v) l := by
  unfold ldI
  split <;> rfl
theorem costM_l {A : LA} {M : Mem} {r : Nat → Int32} {N : Nat} {v : Int32} (hA : okA A) (hN : N ≤ 60) (hR : okR A 999 19980 r) : ∀ (d j fuel : Nat) (M1 : Mem), mW A M (aloneN A r j) M1 → j + d = N → d < fuel → ∃ M2, fX13_cost_l61 fuel M1 (nI N) v (nI j) = some (weal (aloneN A r N) - v, M2) ∧ RO M M2 ∧ gI M2 103 0 = 0 := by
  intro d
  induction d with
  | zero =>
    intro j fuel M1 w hj hf
    obtain ⟨m, rfl⟩ : ∃ m, fuel = m + 1 := ⟨fuel - 1, by omega⟩
    rw [fX13_cost_l61, if_neg (by rw [lt_nI (by omega) (by omega)]; omega), show (31 : Int32) = nI (31 + 0) from by decide, ldI_nI (by decide) (by decide), w.g (by decide), show (33 : Int32) = nI (31 + 2) from by decide, ldI_nI (by decide) (by decide), w.g (by decide), show j = N by omega]
    exact ⟨M1, rfl, w.1, w.2.2.2.2⟩
  | succ d ih =>
    intro j fuel M1 w hj hf
    obtain ⟨m, rfl⟩ : ∃ m, fuel = m + 1 := ⟨fuel - 1, by omega⟩
    obtain ⟨M2, h2, w2⟩ := m_alone hA w (okR_alones hR hA (by decide) j (by omega)) (by omega) (by omega)
    rw [fX13_cost_l61, if_pos (by rw [lt_nI (by omega) (by omega)]; omega)]
    have e : ∀ l : Mem → Option (Int32 × Mem), (ldI M1 133 186 34 fun vq13 => b1 (fX13_harvestOf M1 vq13) fun vq14 => b1 (fX13_gathers M1 31 vq14) fun Mq15 => ldI Mq15 133 186 35 fun vq16 => b1 (fX13_wayOf Mq15 31 vq16) fun vq17 => b2 (fX13_does Mq15 31 vq17) fun _ Mq19 => b1 (fX13_ends Mq19 31 0) l) = l M2 := fun l => by
      have := congrArg (fun o => b1 o l) h2
      simp only [ld_as, b1_as, b2_as, b1_s] at this
      exact this
    rw [e]
    rw [pu_s, nI_1]
    exact ih (j + 1) m M2 w2 (by omega) (by omega)
/-- as qC, but what the class throws the law's wrapper counts as 1 -/
def qC1 (o1 : Option (Except Nat (Int32 × Mem))) (o2 : Mem → Option (Int32 × Mem)) (M : Mem) : Prop := (o1 = some (.error 2) ∧ ∀ M1, RO M M1 → simM (o2 M1) M1 (.error 1)) ∨ ∃ v, simC o1 M (.ok v) ∧ ∀ M1, RO M M1 → simM (o2 M1) M1 (.ok v)
theorem lt1_of {x : Int32} {lo n : Nat} (h : ¬ (x < nI lo ∨ nI n < x)) (hn : n < 2 ^ 31) (hl : lo < 2 ^ 31) : ∃ k : Nat, lo ≤ k ∧ k ≤ n ∧ x = nI k := by
  have h0 : ¬ x < 0 := fun q => h (Or.inl (by
    rw [Int32.lt_iff_toInt_lt] at q ⊢
    rw [nI_toInt hl]
    rw [show ((0 : Int32)).toInt = 0 from by decide] at q
    omega))
  obtain ⟨k, hk, e⟩ := nI_of h0
  refine ⟨k, ?_, ?_, e⟩
  · rw [e] at h
    have : ¬ nI k < nI lo := fun q => h (Or.inl q)
    rw [lt_nI hk hl] at this
    omega
  · rw [e] at h
    have : ¬ nI n < nI k := fun q => h (Or.inr q)
    rw [lt_nI hn hk] at this
    omega
theorem cost_q {A : LA} {M : Mem} (h : Rel A M) (x : Int32) : qC1 (fX12_cost M x) (fun M1 => fX13_cost M1 x) M := by
  by_cases hx : x < 1 ∨ (60 : Int32) < x
  · refine Or.inl ⟨?_, fun M1 f => ?_⟩
    · unfold fX12_cost
      rw [needWithin_eq, if_pos hx, bE_er]
    · show simM (fX13_cost M1 _) M1 _
      unfold fX13_cost
      rw [pu_s, gT_eq m00 (by decide), if_pos hx]
      exact sM_er M0_ro
  · obtain ⟨n, hn1, hn, en⟩ := lt1_of (lo := 1) (n := 60) hx (by decide) (by decide)
    subst en
    refine Or.inr ⟨weal (aloneN A (rB M 0) n) - weal (yearsR A (rB M 0) n), ?_, fun M1 f => ?_⟩
    · obtain ⟨C1, c1, w1⟩ := c_start h RO.rf
      obtain ⟨C2, c2, w2⟩ := c_pass h.1 w1 h.okR (by decide) (by decide) (n := n) (by omega)
      obtain ⟨C3, c3, w3⟩ := c_start h w2.1
      obtain ⟨C4, c4, f4⟩ := costC_l (v := weal (yearsR A (rB M 0) n)) h.1 hn h.okR n 0 FU C3 w3 (by omega) (by show n < 100000; omega)
      refine ⟨C4, ?_, f4⟩
      unfold fX12_cost
      rw [needWithin_eq, if_neg hx, bE_ok, c1, b1_s, c2, b1_s, wealth_eq (by decide), b1_s, w2.2.2.1, c3, b1_s]
      exact c4
    · obtain ⟨D1, d1, v1⟩ := m_start (h.ro f) M0_ro m00
      obtain ⟨D2, d2, v2⟩ := m_pass h.1 v1 (h.ro f).okR (by decide) (by decide) (n := n) (by omega)
      obtain ⟨D3, d3, v3⟩ := m_start (h.ro f) v2.1 v2.2.2.2.2
      obtain ⟨D4, d4, f4, t4⟩ := costM_l (v := weal (yearsR A (rB M1 0) n)) h.1 hn (h.ro f).okR n 0 FU D3 v3 (by omega) (by show n < 100000; omega)
      show simM (fX13_cost M1 _) M1 _
      unfold fX13_cost
      rw [pu_s, gT_eq m00 (by decide), if_neg hx, d1, b1_s, d2, b1_s, show (31 : Int32) = nI (31 + 0) from by decide, ldI_nI (by decide) (by decide), v2.g (by decide), show (33 : Int32) = nI (31 + 2) from by decide, ldI_nI (by decide) (by decide), v2.g (by decide), pu_s]
      rw [show fX13_lays0 D2 0 (nI (31 + 0)) = _ from d3, b1_s, show fX13_cost_l61 FU D3 (nI n) (yearsR A (rB M1 0) n 0 - yearsR A (rB M1 0) n 2) 0 = _ from d4, f.rB]
      exact sM_ok f4 t4
