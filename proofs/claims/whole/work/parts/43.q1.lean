/-! QUESTIONS: count, deed, way, brother, friend -/
def qR (o1 : Option (Except Nat Int32)) (o2 : Mem → Option (Int32 × Mem)) (M : Mem) : Prop := ∃ sp, o1 = some sp ∧ ∀ M1, RO M M1 → simM (o2 M1) M1 sp
def qC (o1 : Option (Except Nat (Int32 × Mem))) (o2 : Mem → Option (Int32 × Mem)) (M : Mem) : Prop := ∃ sp, simC o1 M sp ∧ ∀ M1, RO M M1 → simM (o2 M1) M1 sp
theorem m00 {M : Mem} : gI (sI M 103 0 0) 103 0 = 0 := gI_ss
theorem m0L {A : LA} {M : Mem} (h : LandM A M) : LandM A (sI M 103 0 0) := M0_ro.M h
theorem m0B {M : Mem} : rB (sI M 103 0 0) 0 = rB M 0 := M0_ro.rB
theorem sM_er {M M0 : Mem} {e : Nat} {b : Int32} (h : RO M M0) : simM (some (b, sI M0 103 0 (nI e))) M (.error e) := ⟨b, _, rfl, h.st (by unfold scr; omega), gI_ss⟩
theorem sM_ok {M M2 : Mem} {v : Int32} (h : RO M M2) (h0 : gI M2 103 0 = 0) : simM (some (v, M2)) M (.ok v) := ⟨v, M2, rfl, h, h0, rfl⟩
theorem lt_of {x : Int32} {n : Nat} (h : ¬ (x < 0 ∨ nI n < x)) (hn : n < 2 ^ 31) : ∃ k : Nat, k ≤ n ∧ x = nI k := by
  have h0 : ¬ x < 0 := fun q => h (Or.inl q)
  obtain ⟨k, hk, e⟩ := nI_of h0
  refine ⟨k, ?_, e⟩
  rw [e] at h
  have : ¬ nI n < nI k := fun q => h (Or.inr q)
  rw [lt_nI hn hk] at this
  omega
theorem in_of {x : Int32} {n : Nat} (h : ¬ (x < 0 ∨ ¬ x < nI n)) (hn : n < 2 ^ 31) : ∃ k : Nat, k < n ∧ x = nI k := by
  have h0 : ¬ x < 0 := fun q => h (Or.inl q)
  obtain ⟨k, hk, e⟩ := nI_of h0
  refine ⟨k, ?_, e⟩
  rw [e] at h
  have : nI k < nI n := Decidable.byContradiction fun q => h (Or.inr q)
  rw [lt_nI hk hn] at this
  exact this
theorem bro_of {x : Int32} (h : x = 0 ∨ x = 1) : ∃ k : Nat, k < 2 ∧ x = nI k := by
  rcases h with e | e <;> subst e
  · exact ⟨0, by decide, rfl⟩
  · exact ⟨1, by decide, rfl⟩
theorem rC81 {A : LA} {M : Mem} (h : Rel A M) : rC M 81 = rB M 0 := h.2.2.2.1
theorem gB0 {M : Mem} {i : Nat} (hi : i < 31) : gI M 133 i = rB M 0 i := by
  have := rB_g (M := M) (b := 0) hi
  rwa [Nat.zero_add] at this
theorem count_q {A : LA} {M : Mem} (h : Rel A M) (x : Int32) : qR (fX12_count M x) (fun M1 => fX13_count M1 x) M := by
  by_cases hx : x < 0 ∨ nI 18 < x
  · have hne : ∀ k : Nat, k ≤ 18 → ¬ x = nI k := by
      intro k hk e
      subst e
      rcases hx with q | q
      · exact nI_pos (by omega) q
      · rw [lt_nI (by decide) (by omega)] at q; omega
    refine ⟨.error 1, ?_, fun M1 f => ?_⟩
    · unfold fX12_count
      rw [if_neg (show ¬ x = 0 from hne 0 (by decide)), if_neg (show ¬ x = 1 from hne 1 (by decide)), if_neg (show ¬ x = 2 from hne 2 (by decide)), if_neg (show ¬ x = 3 from hne 3 (by decide)), if_neg (show ¬ x = 4 from hne 4 (by decide)), if_neg (show ¬ x = 5 from hne 5 (by decide)), if_neg (show ¬ x = 6 from hne 6 (by decide)), if_neg (show ¬ x = 7 from hne 7 (by decide)), if_neg (show ¬ x = 8 from hne 8 (by decide)), if_neg (show ¬ x = 9 from hne 9 (by decide)), if_neg (show ¬ x = 10 from hne 10 (by decide)), if_neg (show ¬ x = 11 from hne 11 (by decide)), if_neg (show ¬ x = 12 from hne 12 (by decide)), if_neg (show ¬ x = 13 from hne 13 (by decide)), if_neg (show ¬ x = 14 from hne 14 (by decide)), if_neg (show ¬ x = 15 from hne 15 (by decide)), if_neg (show ¬ x = 16 from hne 16 (by decide)), if_neg (show ¬ x = 17 from hne 17 (by decide)), if_neg (show ¬ x = 18 from hne 18 (by decide))]
    · show simM (fX13_count M1 _) M1 _
      unfold fX13_count
      rw [pu_s, within_eq, b1_s, show (18 : Int32) = nI 18 from rfl, if_pos hx, right_eq m00 _ _ (by decide), if_pos rfl, b2_s, if_pos rfl]
      exact sM_er M0_ro
  · obtain ⟨k, hk, e⟩ := lt_of hx (by decide)
    have hm : ∀ M1 : Mem, (pu (sI M1 103 0 0) fun Mq1 => b1 (fX13_within x 0 18) fun vq2 => fX13_right Mq1 vq2 1) = some (1, sI M1 103 0 0) := fun M1 => by
      rw [pu_s, within_eq, b1_s, show (18 : Int32) = nI 18 from rfl, if_neg hx, right_eq m00 _ _ (by decide), if_neg (by decide)]
    subst e
    rcases (show k = 0 ∨ k = 1 ∨ k = 2 ∨ k = 3 ∨ k = 4 ∨ k = 5 ∨ k = 6 ∨ k = 7 ∨ k = 8 ∨ k = 9 ∨ k = 10 ∨ k = 11 ∨ k = 12 ∨ k = 13 ∨ k = 14 ∨ k = 15 ∨ k = 16 ∨ k = 17 ∨ k = 18 by omega) with q | q | q | q | q | q | q | q | q | q | q | q | q | q | q | q | q | q | q <;> subst q
    · have e1 : fX12_count M (nI 0) = some (.ok (gI M 81 0)) := rfl
      have e2 : ∀ M1, fX13_count M1 (nI 0) = b2 (pu (sI M1 103 0 0) fun Mq1 => b1 (fX13_within (nI 0) 0 18) fun vq2 => fX13_right Mq1 vq2 1) fun vq3 Mq4 => if vq3 = 0 then some (0, Mq4) else ldI Mq4 133 186 (0 + nI 0) fun v => some (v, Mq4) := fun M1 => rfl
      refine ⟨.ok (rB M 0 0), by rw [e1, gC_f (by decide), rC81 h], fun M1 f => ?_⟩
      have h1 := h.ro f
      show simM (fX13_count M1 _) M1 _
      rw [e2, hm, b2_s, if_neg (by decide), show (0 : Int32) + nI 0 = nI 0 from by decide, ldI_nI (by decide) (by decide), gI_sa (by decide), gB0 (by decide), f.rB]
      exact sM_ok M0_ro m00
    · have e1 : fX12_count M (nI 1) = some (.ok (gI M 81 1)) := rfl
      have e2 : ∀ M1, fX13_count M1 (nI 1) = b2 (pu (sI M1 103 0 0) fun Mq1 => b1 (fX13_within (nI 1) 0 18) fun vq2 => fX13_right Mq1 vq2 1) fun vq3 Mq4 => if vq3 = 0 then some (0, Mq4) else ldI Mq4 133 186 (0 + nI 1) fun v => some (v, Mq4) := fun M1 => rfl
      refine ⟨.ok (rB M 0 1), by rw [e1, gC_f (by decide), rC81 h], fun M1 f => ?_⟩
      have h1 := h.ro f
      show simM (fX13_count M1 _) M1 _
      rw [e2, hm, b2_s, if_neg (by decide), show (0 : Int32) + nI 1 = nI 1 from by decide, ldI_nI (by decide) (by decide), gI_sa (by decide), gB0 (by decide), f.rB]
      exact sM_ok M0_ro m00
    · have e1 : fX12_count M (nI 2) = some (.ok (gI M 81 2)) := rfl
      have e2 : ∀ M1, fX13_count M1 (nI 2) = b2 (pu (sI M1 103 0 0) fun Mq1 => b1 (fX13_within (nI 2) 0 18) fun vq2 => fX13_right Mq1 vq2 1) fun vq3 Mq4 => if vq3 = 0 then some (0, Mq4) else ldI Mq4 133 186 (0 + nI 2) fun v => some (v, Mq4) := fun M1 => rfl
      refine ⟨.ok (rB M 0 2), by rw [e1, gC_f (by decide), rC81 h], fun M1 f => ?_⟩
      have h1 := h.ro f
      show simM (fX13_count M1 _) M1 _
      rw [e2, hm, b2_s, if_neg (by decide), show (0 : Int32) + nI 2 = nI 2 from by decide, ldI_nI (by decide) (by decide), gI_sa (by decide), gB0 (by decide), f.rB]
      exact sM_ok M0_ro m00
    · have e1 : fX12_count M (nI 3) = some (.ok (gI M 81 3)) := rfl
      have e2 : ∀ M1, fX13_count M1 (nI 3) = b2 (pu (sI M1 103 0 0) fun Mq1 => b1 (fX13_within (nI 3) 0 18) fun vq2 => fX13_right Mq1 vq2 1) fun vq3 Mq4 => if vq3 = 0 then some (0, Mq4) else ldI Mq4 133 186 (0 + nI 3) fun v => some (v, Mq4) := fun M1 => rfl
      refine ⟨.ok (rB M 0 3), by rw [e1, gC_f (by decide), rC81 h], fun M1 f => ?_⟩
      have h1 := h.ro f
      show simM (fX13_count M1 _) M1 _
      rw [e2, hm, b2_s, if_neg (by decide), show (0 : Int32) + nI 3 = nI 3 from by decide, ldI_nI (by decide) (by decide), gI_sa (by decide), gB0 (by decide), f.rB]
      exact sM_ok M0_ro m00
    · have e1 : fX12_count M (nI 4) = some (.ok (gI M 81 4)) := rfl
      have e2 : ∀ M1, fX13_count M1 (nI 4) = b2 (pu (sI M1 103 0 0) fun Mq1 => b1 (fX13_within (nI 4) 0 18) fun vq2 => fX13_right Mq1 vq2 1) fun vq3 Mq4 => if vq3 = 0 then some (0, Mq4) else ldI Mq4 133 186 (0 + nI 4) fun v => some (v, Mq4) := fun M1 => rfl
      refine ⟨.ok (rB M 0 4), by rw [e1, gC_f (by decide), rC81 h], fun M1 f => ?_⟩
      have h1 := h.ro f
      show simM (fX13_count M1 _) M1 _
      rw [e2, hm, b2_s, if_neg (by decide), show (0 : Int32) + nI 4 = nI 4 from by decide, ldI_nI (by decide) (by decide), gI_sa (by decide), gB0 (by decide), f.rB]
      exact sM_ok M0_ro m00
    · have e1 : fX12_count M (nI 5) = some (.ok (gI M 81 5)) := rfl
      have e2 : ∀ M1, fX13_count M1 (nI 5) = b2 (pu (sI M1 103 0 0) fun Mq1 => b1 (fX13_within (nI 5) 0 18) fun vq2 => fX13_right Mq1 vq2 1) fun vq3 Mq4 => if vq3 = 0 then some (0, Mq4) else ldI Mq4 133 186 (0 + nI 5) fun v => some (v, Mq4) := fun M1 => rfl
      refine ⟨.ok (rB M 0 5), by rw [e1, gC_f (by decide), rC81 h], fun M1 f => ?_⟩
      have h1 := h.ro f
      show simM (fX13_count M1 _) M1 _
      rw [e2, hm, b2_s, if_neg (by decide), show (0 : Int32) + nI 5 = nI 5 from by decide, ldI_nI (by decide) (by decide), gI_sa (by decide), gB0 (by decide), f.rB]
      exact sM_ok M0_ro m00
    · have e1 : fX12_count M (nI 6) = some (.ok (gI M 81 8)) := rfl
      have e2 : ∀ M1, fX13_count M1 (nI 6) = b2 (pu (sI M1 103 0 0) fun Mq1 => b1 (fX13_within (nI 6) 0 18) fun vq2 => fX13_right Mq1 vq2 1) fun vq3 Mq4 => if vq3 = 0 then some (0, Mq4) else ldI Mq4 133 186 (nI 12) fun v => some (v, Mq4) := fun M1 => rfl
      refine ⟨.ok (rB M 0 12), by rw [e1, gC_f8, rC81 h], fun M1 f => ?_⟩
      have h1 := h.ro f
      show simM (fX13_count M1 _) M1 _
      rw [e2, hm, b2_s, if_neg (by decide), ldI_nI (by decide) (by decide), gI_sa (by decide), gB0 (by decide), f.rB]
      exact sM_ok M0_ro m00
    · have e1 : fX12_count M (nI 7) = some (.ok (gI M 81 6)) := rfl
      have e2 : ∀ M1, fX13_count M1 (nI 7) = b2 (pu (sI M1 103 0 0) fun Mq1 => b1 (fX13_within (nI 7) 0 18) fun vq2 => fX13_right Mq1 vq2 1) fun vq3 Mq4 => if vq3 = 0 then some (0, Mq4) else ldI Mq4 133 186 (nI 8) fun v => some (v, Mq4) := fun M1 => rfl
      refine ⟨.ok (rB M 0 8), by rw [e1, gC_f6, rC81 h], fun M1 f => ?_⟩
      have h1 := h.ro f
      show simM (fX13_count M1 _) M1 _
      rw [e2, hm, b2_s, if_neg (by decide), ldI_nI (by decide) (by decide), gI_sa (by decide), gB0 (by decide), f.rB]
      exact sM_ok M0_ro m00
    · have e1 : fX12_count M (nI 8) = some (.ok (gI M 81 7)) := rfl
      have e2 : ∀ M1, fX13_count M1 (nI 8) = b2 (pu (sI M1 103 0 0) fun Mq1 => b1 (fX13_within (nI 8) 0 18) fun vq2 => fX13_right Mq1 vq2 1) fun vq3 Mq4 => if vq3 = 0 then some (0, Mq4) else ldI Mq4 133 186 (nI 9) fun v => some (v, Mq4) := fun M1 => rfl
      refine ⟨.ok (rB M 0 9), by rw [e1, gC_f7, rC81 h], fun M1 f => ?_⟩
      have h1 := h.ro f
      show simM (fX13_count M1 _) M1 _
      rw [e2, hm, b2_s, if_neg (by decide), ldI_nI (by decide) (by decide), gI_sa (by decide), gB0 (by decide), f.rB]
      exact sM_ok M0_ro m00
    · have e1 : fX12_count M (nI 9) = ck (kd (gR M 28 0) = 4) (some (.ok (gI M (gR M 28 0) 0))) := rfl
      have e2 : ∀ M1, fX13_count M1 (nI 9) = b2 (pu (sI M1 103 0 0) fun Mq1 => b1 (fX13_within (nI 9) 0 18) fun vq2 => fX13_right Mq1 vq2 1) fun vq3 Mq4 => if vq3 = 0 then some (0, Mq4) else some (gI Mq4 103 1, Mq4) := fun M1 => rfl
      refine ⟨.ok (nI (aN A 0)), by rw [e1, ck_t h.2.1.1, h.2.1.2.1], fun M1 f => ?_⟩
      have h1 := h.ro f
      show simM (fX13_count M1 _) M1 _
      rw [e2, hm, b2_s, if_neg (by decide), gI_sj (by decide), h1.2.2.1.1]
      exact sM_ok M0_ro m00
    · have e1 : fX12_count M (nI 10) = ck (kd (gR M 28 0) = 4) (some (.ok (gI M (gR M 28 0) 8))) := rfl
      have e2 : ∀ M1, fX13_count M1 (nI 10) = b2 (pu (sI M1 103 0 0) fun Mq1 => b1 (fX13_within (nI 10) 0 18) fun vq2 => fX13_right Mq1 vq2 1) fun vq3 Mq4 => if vq3 = 0 then some (0, Mq4) else some (gI Mq4 103 3, Mq4) := fun M1 => rfl
      refine ⟨.ok (nI (aN A 2)), by rw [e1, ck_t h.2.1.1, h.2.1.2.2.2.1], fun M1 f => ?_⟩
      have h1 := h.ro f
      show simM (fX13_count M1 _) M1 _
      rw [e2, hm, b2_s, if_neg (by decide), gI_sj (by decide), h1.2.2.1.2.2.1]
      exact sM_ok M0_ro m00
    · have e1 : fX12_count M (nI 11) = ck (kd (gR M 28 0) = 4) (some (.ok (gI M (gR M 28 0 + 8) 0))) := rfl
      have e2 : ∀ M1, fX13_count M1 (nI 11) = b2 (pu (sI M1 103 0 0) fun Mq1 => b1 (fX13_within (nI 11) 0 18) fun vq2 => fX13_right Mq1 vq2 1) fun vq3 Mq4 => if vq3 = 0 then some (0, Mq4) else some (gI Mq4 103 4, Mq4) := fun M1 => rfl
      refine ⟨.ok (nI (aN A 3)), by rw [e1, ck_t h.2.1.1, h.2.1.2.2.2.2.1], fun M1 f => ?_⟩
      have h1 := h.ro f
      show simM (fX13_count M1 _) M1 _
      rw [e2, hm, b2_s, if_neg (by decide), gI_sj (by decide), h1.2.2.1.2.2.2.1]
      exact sM_ok M0_ro m00
    · have e1 : fX12_count M (nI 12) = ck (kd (gR M 28 0) = 4) (some (.ok (gI M (gR M 28 0 + 11) 0))) := rfl
      have e2 : ∀ M1, fX13_count M1 (nI 12) = b2 (pu (sI M1 103 0 0) fun Mq1 => b1 (fX13_within (nI 12) 0 18) fun vq2 => fX13_right Mq1 vq2 1) fun vq3 Mq4 => if vq3 = 0 then some (0, Mq4) else some (gI Mq4 103 5, Mq4) := fun M1 => rfl
      refine ⟨.ok (nI (aN A 4)), by rw [e1, ck_t h.2.1.1, h.2.1.2.2.2.2.2.1], fun M1 f => ?_⟩
      have h1 := h.ro f
      show simM (fX13_count M1 _) M1 _
      rw [e2, hm, b2_s, if_neg (by decide), gI_sj (by decide), h1.2.2.1.2.2.2.2.1]
      exact sM_ok M0_ro m00
    · have e1 : fX12_count M (nI 13) = some (.ok (gI M 91 0)) := rfl
      have e2 : ∀ M1, fX13_count M1 (nI 13) = b2 (pu (sI M1 103 0 0) fun Mq1 => b1 (fX13_within (nI 13) 0 18) fun vq2 => fX13_right Mq1 vq2 1) fun vq3 Mq4 => if vq3 = 0 then some (0, Mq4) else some (gI Mq4 103 64, Mq4) := fun M1 => rfl
      refine ⟨.ok (gI M 91 0), by rw [e1], fun M1 f => ?_⟩
      have h1 := h.ro f
      show simM (fX13_count M1 _) M1 _
      rw [e2, hm, b2_s, if_neg (by decide), gI_sj (by decide), show gI M1 103 64 = gI M 91 0 from by obtain ⟨n, -, q1, q2, -⟩ := h.2.2.2.2.2.1; rw [f.1 _ _ (by unfold scr; omega), q1, q2]]
      exact sM_ok M0_ro m00
    · have e1 : fX12_count M (nI 14) = some (.ok (gI M 93 0)) := rfl
      have e2 : ∀ M1, fX13_count M1 (nI 14) = b2 (pu (sI M1 103 0 0) fun Mq1 => b1 (fX13_within (nI 14) 0 18) fun vq2 => fX13_right Mq1 vq2 1) fun vq3 Mq4 => if vq3 = 0 then some (0, Mq4) else some (gI Mq4 103 69, Mq4) := fun M1 => rfl
      refine ⟨.ok (gI M 93 0), by rw [e1], fun M1 f => ?_⟩
      have h1 := h.ro f
      show simM (fX13_count M1 _) M1 _
      rw [e2, hm, b2_s, if_neg (by decide), gI_sj (by decide), show gI M1 103 69 = gI M 93 0 from by obtain ⟨n, -, q1, q2, -⟩ := h.2.2.2.2.2.2.1; rw [f.1 _ _ (by unfold scr; omega), q1, q2]]
      exact sM_ok M0_ro m00
    · have e1 : fX12_count M (nI 15) = some (.ok (gI M 0 1)) := rfl
      have e2 : ∀ M1, fX13_count M1 (nI 15) = b2 (pu (sI M1 103 0 0) fun Mq1 => b1 (fX13_within (nI 15) 0 18) fun vq2 => fX13_right Mq1 vq2 1) fun vq3 Mq4 => if vq3 = 0 then some (0, Mq4) else some (gI Mq4 103 21, Mq4) := fun M1 => rfl
      refine ⟨.ok (gI M 0 1), by rw [e1], fun M1 f => ?_⟩
      have h1 := h.ro f
      show simM (fX13_count M1 _) M1 _
      rw [e2, hm, b2_s, if_neg (by decide), gI_sj (by decide), show gI M1 103 21 = gI M 0 1 from by obtain ⟨n, -, q1, q2, -⟩ := h.2.2.2.2.2.2.2.1; rw [f.1 _ _ (by unfold scr; omega), q1, q2]]
      exact sM_ok M0_ro m00
    · have e1 : fX12_count M (nI 16) = ldI M 2 3 (nI 0) fun v => some (.ok v) := rfl
      have e2 : ∀ M1, fX13_count M1 (nI 16) = b2 (pu (sI M1 103 0 0) fun Mq1 => b1 (fX13_within (nI 16) 0 18) fun vq2 => fX13_right Mq1 vq2 1) fun vq3 Mq4 => if vq3 = 0 then some (0, Mq4) else ldI Mq4 117 3 (nI 16 - 16) fun v => some (v, Mq4) := fun M1 => rfl
      refine ⟨.ok (gI M 2 0), by rw [e1, ldI_nI (by decide) (by decide)], fun M1 f => ?_⟩
      have h1 := h.ro f
      show simM (fX13_count M1 _) M1 _
      rw [e2, hm, b2_s, if_neg (by decide), show (nI 16 - 16 : Int32) = nI 0 from by decide, ldI_nI (by decide) (by decide), gI_sa (by decide), f.1 117 0 (by unfold scr; omega), ← h.2.2.2.2.2.2.2.2.1 0 (by decide)]
      exact sM_ok M0_ro m00
    · have e1 : fX12_count M (nI 17) = ldI M 2 3 (nI 1) fun v => some (.ok v) := rfl
      have e2 : ∀ M1, fX13_count M1 (nI 17) = b2 (pu (sI M1 103 0 0) fun Mq1 => b1 (fX13_within (nI 17) 0 18) fun vq2 => fX13_right Mq1 vq2 1) fun vq3 Mq4 => if vq3 = 0 then some (0, Mq4) else ldI Mq4 117 3 (nI 17 - 16) fun v => some (v, Mq4) := fun M1 => rfl
      refine ⟨.ok (gI M 2 1), by rw [e1, ldI_nI (by decide) (by decide)], fun M1 f => ?_⟩
      have h1 := h.ro f
      show simM (fX13_count M1 _) M1 _
      rw [e2, hm, b2_s, if_neg (by decide), show (nI 17 - 16 : Int32) = nI 1 from by decide, ldI_nI (by decide) (by decide), gI_sa (by decide), f.1 117 1 (by unfold scr; omega), ← h.2.2.2.2.2.2.2.2.1 1 (by decide)]
      exact sM_ok M0_ro m00
    · have e1 : fX12_count M (nI 18) = ldI M 2 3 (nI 2) fun v => some (.ok v) := rfl
      have e2 : ∀ M1, fX13_count M1 (nI 18) = b2 (pu (sI M1 103 0 0) fun Mq1 => b1 (fX13_within (nI 18) 0 18) fun vq2 => fX13_right Mq1 vq2 1) fun vq3 Mq4 => if vq3 = 0 then some (0, Mq4) else ldI Mq4 117 3 (nI 18 - 16) fun v => some (v, Mq4) := fun M1 => rfl
      refine ⟨.ok (gI M 2 2), by rw [e1, ldI_nI (by decide) (by decide)], fun M1 f => ?_⟩
      have h1 := h.ro f
      show simM (fX13_count M1 _) M1 _
      rw [e2, hm, b2_s, if_neg (by decide), show (nI 18 - 16 : Int32) = nI 2 from by decide, ldI_nI (by decide) (by decide), gI_sa (by decide), f.1 117 2 (by unfold scr; omega), ← h.2.2.2.2.2.2.2.2.1 2 (by decide)]
      exact sM_ok M0_ro m00
