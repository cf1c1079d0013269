/-! ACTS: term, loan, years, change, gift -/
theorem live_3 {A : LA} {r : Nat → Int32} {h9 d : Int32} (h : ruler r < 2) : liveR A r h9 d 3 = r 3 + 1 := by
  have hg : ruler (gathR r h9) < 2 := by rw [ruler_gath]; exact h
  have hd : ruler (doX A (gathR r h9) d).2 < 2 := by rw [ruler_do hg]; exact hg
  have e3 : ageR (doX A (gathR r h9) d).2 3 = r 3 + 1 := by
    unfold ageR
    rw [upd_a, if_neg (by decide), upd_a, if_neg (by omega), upd_a, if_pos rfl, do_n hg (by omega), gathR_n (by decide) (by decide)]
  unfold liveR turnR
  split
  · exact e3
  · split
    · rw [upd_a, if_neg (by decide)]; exact e3
    · unfold overR
      rw [upd_a, if_neg (by decide), upd_a, if_neg (by decide)]; exact e3
theorem years_3 {A : LA} {r : Nat → Int32} {Y Z y : Nat} (hA : okA A) (h : okR A Y Z r) (hZ : Z < 10 ^ 8) (e : r 3 = nI y) : ∀ n : Nat, n < 10 ^ 6 → yearsR A r n 3 = nI (y + n)
  | 0, _ => e
  | n + 1, hn => by
    rw [yearsR_s]
    unfold goesR
    rw [live_3 (ruler_lt (okR_years h hA hZ n (by omega))).1, years_3 hA h hZ e n (by omega), nI_1]
    rfl
theorem okC_years {A : LA} {r : Nat → Int32} {n y : Nat} (hA : okA A) (e : r 3 = nI y) (h : okR A y (20 * y) r) (hy : y + n ≤ 999) : okC A (yearsR A r n) :=
  ⟨y + n, hy, years_3 hA h (by omega) e n (by omega), okR_mono (okR_years h hA (by omega) n (by omega)) (Nat.le_refl _) (by omega)⟩
theorem h64 {A : LA} {M : Mem} (h : Rel A M) : ∃ n : Nat, n ≤ 40 ∧ gI M 103 64 = nI n := by
  obtain ⟨n, a1, a2, a3, a4⟩ := h.2.2.2.2.2.1
  exact ⟨n, a1, a3⟩
theorem term_a {A : LA} {M : Mem} (h : Rel A M) (x : Int32) : qA (fX12_term M x) (fun M1 => fX13_term M1 x) := by
  by_cases hx : x < 1 ∨ (5 : Int32) < x
  · refine ref_qA h (i := 1) (by decide) ?_ (fun M1 => ?_)
    · unfold fX12_term fX12_term_b10
      have e : (b2 (fX12_refuse M 1) fun vq1 Mq2 => some (vq1, Mq2)) = fX12_refuse M (nI 1) := by
        rw [show (1 : Int32) = nI 1 from rfl, refuseC_ok (by decide), b2_s]
      by_cases h1 : x < 1
      · rw [if_pos h1]; exact e
      · rw [if_neg h1, if_pos (hx.resolve_left h1)]; exact e
    · unfold fX13_term
      rw [pu_s, within_eq, b1_s, if_pos hx, if_pos rfl, show (1 : Int32) = nI 1 from rfl, refuseM_ok (by decide), b2_s]
  · obtain ⟨t, ht1, ht5, et⟩ := lt1_of (lo := 1) (n := 5) hx (by decide) (by decide)
    subst et
    obtain ⟨y, hy, ey, hRy⟩ := h.2.2.2.2.1
    obtain ⟨C1, c1, c2, c3⟩ := keepC_row h
    have cA : actC M (sI C1 81 8 (nI t)) (termR (rB M 0) t) := actC_of h c1 (by rw [rC_f8, c2]; rfl) (frC.rf.st (by omega))
    obtain ⟨hL, eB, e64⟩ := cA.M h
    obtain ⟨n, hn, en⟩ := h64 h
    obtain ⟨D1, d1, d2, d3⟩ := keepM_row hL (e64.trans en) hn
    have mA : actM (sI C1 81 8 (nI t)) (sI D1 133 (0 + 12) (nI t)) (termR (rB M 0) t) := actM_of (e64.trans en) hn d1 (by rw [rB_s (by decide), d2, eB]; rfl) (frM.rf.st (by omega) (by omega))
    refine ⟨rB M 0 12, sI C1 81 8 (nI t), sI D1 133 (0 + 12) (nI t), A, ?_, ?_, h.act cA mA ⟨y, hy, by unfold termR; rw [upd_a, if_neg (by decide)]; exact ey, okR_term hRy ht1 ht5⟩⟩
    · unfold fX12_term
      rw [if_neg (fun q => hx (Or.inl q)), if_neg (fun q => hx (Or.inr q)), c1, b1_s, pu_s, pu_s, gC_f8, c2]
    · show fX13_term (sI C1 81 8 (nI t)) (nI t) = _
      unfold fX13_term
      rw [pu_s, within_eq, b1_s, if_neg hx, if_neg (by decide), d1, b1_s, show (12 : Int32) = nI 12 from rfl, ldI_nI (by decide) (by decide), stI_nI (by decide) (by decide), gB0 (by decide), d2, eB]
def loanR (r : Nat → Int32) (x : Int32) : Nat → Int32 := upd (upd r 0 (kpt (r 0 + x) 0 999)) 2 (kpt (r 2 + x) 0 999)
theorem okC_of2 {A : LA} {r r' : Nat → Int32} (h : okC A r) (h0 : inB (r' 0) 999) (h2 : inB (r' 2) 999) (hr : ∀ j, j ≠ 0 → j ≠ 2 → r' j = r j) : okC A r' := by
  obtain ⟨y, hy, e, h⟩ := h
  exact ⟨y, hy, by rw [hr 3 (by decide) (by decide)]; exact e, okR_of h (Nat.le_refl _) (Nat.le_refl _) (Or.inr h0) (Or.inl (hr _ (by decide) (by decide))) (Or.inr h2) (Or.inl (hr _ (by decide) (by decide))) (Or.inl (hr _ (by decide) (by decide))) (Or.inl (hr _ (by decide) (by decide))) (Or.inl (hr _ (by decide) (by decide))) (Or.inl (hr _ (by decide) (by decide))) (Or.inl (hr _ (by decide) (by decide))) (Or.inl (hr _ (by decide) (by decide))) (fun j hj => hr j (by omega) (by omega))⟩
theorem loan_a {A : LA} {M : Mem} (h : Rel A M) (x : Int32) : qA (fX12_loan M x) (fun M1 => fX13_loan M1 x) := by
  by_cases hx : x < 1 ∨ (99 : Int32) < x
  · refine ref_qA h (i := 1) (by decide) ?_ (fun M1 => ?_)
    · unfold fX12_loan fX12_loan_b11
      have e : (b2 (fX12_refuse M 1) fun vq1 Mq2 => some (vq1, Mq2)) = fX12_refuse M (nI 1) := by
        rw [show (1 : Int32) = nI 1 from rfl, refuseC_ok (by decide), b2_s]
      by_cases h1 : x < 1
      · rw [if_pos h1]; exact e
      · rw [if_neg h1, if_pos (hx.resolve_left h1)]; exact e
    · unfold fX13_loan
      rw [pu_s, within_eq, b1_s, if_pos hx, if_pos rfl, show (1 : Int32) = nI 1 from rfl, refuseM_ok (by decide), b2_s]
  · obtain ⟨t, ht1, ht5, et⟩ := lt1_of (lo := 1) (n := 99) hx (by decide) (by decide)
    have hC := h.2.2.2.2.1
    obtain ⟨y, hy, ey, hRy⟩ := hC
    obtain ⟨s, hs, es⟩ := hRy.1
    obtain ⟨d, hd, ed⟩ := hRy.2.2.1
    have p0 : 0 ≤ (rB M 0 0 + x).toInt := by rw [es, et, nI_add, nI_toInt (by omega)]; omega
    have p2 : 0 ≤ (rB M 0 2 + x).toInt := by rw [ed, et, nI_add, nI_toInt (by omega)]; omega
    obtain ⟨C1, c1, c2, c3⟩ := keepC_row h
    have gC1 : ∀ i, i < 6 → gI C1 81 i = rB M 0 i := fun i hi => by rw [gC_f hi, c2]
    have cA : actC M (sI (sI C1 81 0 (kpt (rB M 0 0 + x) 0 999)) 81 2 (kpt (rB M 0 2 + x) 0 999)) (loanR (rB M 0) x) := actC_of h c1 (by rw [rC_f (by decide), rC_f (by decide), c2]; rfl) ((frC.rf.st (by omega)).st (by omega))
    obtain ⟨hL, eB, e64⟩ := cA.M h
    obtain ⟨n, hn, en⟩ := h64 h
    obtain ⟨D1, d1, d2, d3⟩ := keepM_row hL (e64.trans en) hn
    have gD1 : ∀ i, i < 31 → gI D1 133 i = rB M 0 i := fun i hi => by rw [gB0 hi, d2, eB]
    have mA : actM (sI (sI C1 81 0 (kpt (rB M 0 0 + x) 0 999)) 81 2 (kpt (rB M 0 2 + x) 0 999)) (sI (sI D1 133 (0 + 0) (kpt (rB M 0 0 + x) 0 999)) 133 (0 + 2) (kpt (rB M 0 2 + x) 0 999)) (loanR (rB M 0) x) := actM_of (e64.trans en) hn d1 (by rw [rB_s (by decide), rB_s (by decide), d2, eB]; rfl) ((frM.rf.st (by omega) (by omega)).st (by omega) (by omega))
    refine ⟨kpt (rB M 0 0 + x) 0 999, sI (sI C1 81 0 (kpt (rB M 0 0 + x) 0 999)) 81 2 (kpt (rB M 0 2 + x) 0 999), sI (sI D1 133 (0 + 0) (kpt (rB M 0 0 + x) 0 999)) 133 (0 + 2) (kpt (rB M 0 2 + x) 0 999), A, ?_, ?_, h.act cA mA (okC_of2 h.2.2.2.2.1 ?_ ?_ (fun j q0 q2 => by unfold loanR; rw [upd_a, if_neg q2, upd_a, if_neg q0]))⟩
    · unfold fX12_loan
      rw [if_neg (fun q => hx (Or.inl q)), if_neg (fun q => hx (Or.inr q)), c1, b1_s]
      simp only [pu_s]
      rw [gC1 0 (by decide), min_kpt _ _ p0]
      simp (disch := omega) only [gI_sj, gC1, gI_ss]
      rw [min_kpt _ _ p2]
    · show fX13_loan _ x = _
      unfold fX13_loan
      rw [pu_s, within_eq, b1_s, if_neg hx, if_neg (by decide), d1, b1_s, show (0 : Int32) = nI 0 from rfl, show (2 : Int32) = nI 2 from rfl, ldI_nI (by decide) (by decide), gD1 0 (by decide), kept_eq, b1_s, stI_nI (by decide) (by decide), ldI_nI (by decide) (by decide), gI_sj (by decide), gD1 2 (by decide), kept_eq, b1_s, stI_nI (by decide) (by decide), ldI_nI (by decide) (by decide), gI_sj (by decide), gI_ss]
    · unfold loanR; rw [upd_a, if_neg (by decide), upd_a, if_pos rfl]; exact kpt_999 _
    · unfold loanR; rw [upd_a, if_pos rfl]; exact kpt_999 _
theorem years_a {A : LA} {M : Mem} (h : Rel A M) (x : Int32) : qA (fX12_years M x) (fun M1 => fX13_years M1 x) := by
  obtain ⟨y, hy, ey, hRy⟩ := h.2.2.2.2.1
  have e : (b2 (fX12_refuse M 1) fun vq1 Mq2 => some (vq1, Mq2)) = fX12_refuse M (nI 1) := by
    rw [show (1 : Int32) = nI 1 from rfl, refuseC_ok (by decide), b2_s]
  have em : ∀ M1, (b2 (fX13_refuses M1 1) fun vq1 Mq2 => some (vq1, Mq2)) = fX13_refuses M1 (nI 1) := fun M1 => by
    rw [show (1 : Int32) = nI 1 from rfl, refuseM_ok (by decide), b2_s]
  by_cases hx : x < 1 ∨ (20 : Int32) < x
  · refine ref_qA h (i := 1) (by decide) ?_ (fun M1 => ?_)
    · unfold fX12_years fX12_years_b26
      by_cases h1 : x < 1
      · rw [if_pos h1]; exact e
      · rw [if_neg h1, if_pos (hx.resolve_left h1)]; exact e
    · unfold fX13_years fX13_years_b29
      rw [pu_s, within_eq, b1_s, if_pos hx, if_pos rfl]
      exact em _
  · obtain ⟨t, ht1, ht5, et⟩ := lt1_of (lo := 1) (n := 20) hx (by decide) (by decide)
    by_cases h9 : 999 < y + t
    · -- too far: both refuse
      obtain ⟨M1', M2', A', r1, r2, r3⟩ : ∃ M1 M2 A', fX12_refuse M (nI 1) = some (-1, M1) ∧ fX13_refuses (sI M1 103 0 0) (nI 1) = some (-1, M2) ∧ Rel A' M2 := by
        have := h.ref (i := 1) (by decide)
        refine ⟨_, _, A, refuseC_ok (by decide), refuseM_ok (by decide), ?_⟩
        rwa [show gI (sI (sI M 2 1 (gI M 2 1 + 1)) 103 0 0) 117 1 = gI M 117 1 from by rw [gI_sa (by decide), gI_sa (by decide)]]
      have hM1 : M1' = sI M 2 1 (gI M 2 1 + 1) := by
        rw [refuseC_ok (by decide)] at r1
        cases r1; rfl
      refine ⟨-1, M1', M2', A', ?_, ?_, r3⟩
      · unfold fX12_years fX12_years_b26
        rw [if_neg (fun q => hx (Or.inl q)), if_neg (fun q => hx (Or.inr q)), pu_s, gC_f (by decide), rC81 h, ey, et, nI_add, show (999 : Int32) = nI 999 from rfl, if_pos (by rw [lt_nI (by decide) (by omega)]; exact h9), e]
        exact r1
      · show fX13_years M1' x = _
        unfold fX13_years fX13_years_b29
        have e3 : gI (sI M1' 103 0 0) 133 3 = nI y := by rw [gI_sa (by decide), hM1, gI_sa (by decide), gB0 (by decide), ey]
        rw [pu_s, within_eq, b1_s, if_neg hx, if_neg (by decide), show (3 : Int32) = nI 3 from rfl, ldI_nI (by decide) (by decide), e3, et, nI_add, show (999 : Int32) = nI 999 from rfl, if_pos (by rw [lt_nI (by decide) (by omega)]; exact h9), em]
        exact r2
    · obtain ⟨C1, c1, c2, c3⟩ := keepC_row h
      have hR : okR A 999 19980 (rC C1 81) := by rw [c2]; exact h.okR
      obtain ⟨C2, p1, p2, p3⟩ := pass_ok (k := 81) (N := t) c3 h.1 (by decide) (by omega) hR (by decide) (by decide)
      have cA : actC M C2 (yearsR A (rB M 0) t) := actC_of h c1 (by rw [p2, c2]) p3
      obtain ⟨hL, eB, e64⟩ := cA.M h
      obtain ⟨n, hn, en⟩ := h64 h
      obtain ⟨D1, d1, d2, d3⟩ := keepM_row hL (e64.trans en) hn
      obtain ⟨D2, q1, q2, q3⟩ := goesYears_ok (b := 0) (N := t) d3 h.1 (by decide) (by omega) (by rw [d2, eB]; exact h.okR) (by decide) (by decide)
      have mA : actM C2 D2 (yearsR A (rB M 0) t) := actM_of (e64.trans en) hn d1 (by rw [q2, d2, eB]) q3
      refine ⟨yearsR A (rB M 0) t 3, C2, D2, A, ?_, ?_, h.act cA mA (okC_years h.1 ey hRy (by omega))⟩
      · unfold fX12_years
        rw [if_neg (fun q => hx (Or.inl q)), if_neg (fun q => hx (Or.inr q)), pu_s, gC_f (by decide), rC81 h, ey, et, nI_add, show (999 : Int32) = nI 999 from rfl, if_neg (by rw [lt_nI (by decide) (by omega)]; exact h9), c1, b1_s, p1, b1_s, pu_s, gC_f (by decide), p2, c2]
      · show fX13_years C2 x = _
        unfold fX13_years
        have e3 : gI (sI C2 103 0 0) 133 3 = nI y := by rw [gI_sa (by decide), gB0 (by decide), eB, ey]
        rw [pu_s, within_eq, b1_s, if_neg hx, if_neg (by decide), show (3 : Int32) = nI 3 from rfl, ldI_nI (by decide) (by decide), e3, et, nI_add, show (999 : Int32) = nI 999 from rfl, if_neg (by rw [lt_nI (by decide) (by omega)]; exact h9), d1, b1_s, show fX13_goesYears D1 0 (nI t) = _ from q1, b1_s, ldI_nI (by decide) (by decide), gB0 (by decide), q2, d2, eB]
