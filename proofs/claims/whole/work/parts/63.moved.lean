/-! QUESTIONS: moved -/
theorem folN_fBw {A : LA} {r : Nat → Int32} {w : Nat} : ∀ n, folN A r w n = fB (fun i => youR A r i 0 0 == (w == 1)) n := by
  intro n
  induction n with
  | zero => rfl
  | succ n ih =>
    rw [folN, fB, ih]
    by_cases h : youR A r n 0 0 = (w == 1)
    · rw [if_pos h, if_pos (by rw [h]; exact beq_self_eq_true _)]
    · rw [if_neg h, if_neg (fun q => h (eq_of_beq q))]
theorem fB_up {y : Nat → Bool} {n : Nat} : ∀ d, fB (fun i => decide (i < n) && y i) (n + d) = fB y n := by
  intro d
  induction d with
  | zero => exact fB_congr n (fun i hi => by rw [decide_eq_true hi, Bool.true_and])
  | succ d ih =>
    rw [show n + (d + 1) = (n + d) + 1 from rfl, fB, ih, if_neg]
    rw [decide_eq_false (by omega), Bool.false_and]
    exact Bool.false_ne_true
theorem fB_six {y : Nat → Bool} {n : Nat} (hn : n ≤ 6) : ∃ b0 b1 b2 b3 b4 b5 : Bool, (∀ i, i < 6 → (decide (i < n) && y i) = [b0, b1, b2, b3, b4, b5].getD i false) ∧ fB y n = fB (fun i => [b0, b1, b2, b3, b4, b5].getD i false) 6 := by
  let z : Nat → Bool := fun i => decide (i < n) && y i
  have e : ∀ i, i < 6 → z i = [z 0, z 1, z 2, z 3, z 4, z 5].getD i false := fun i hi => by
    rcases (show i = 0 ∨ i = 1 ∨ i = 2 ∨ i = 3 ∨ i = 4 ∨ i = 5 by omega) with h | h | h | h | h | h <;> subst h <;> rfl
  refine ⟨z 0, z 1, z 2, z 3, z 4, z 5, e, ?_⟩
  rw [← fB_up (y := y) (n := n) (6 - n), show n + (6 - n) = 6 by omega]
  exact fB_congr 6 e
theorem fB_andn6 : ∀ a0 a1 a2 a3 a4 a5 b0 b1 b2 b3 b4 b5 : Bool, fB (fun i => [a0, a1, a2, a3, a4, a5].getD i false) 6 &&& (fB (fun i => [b0, b1, b2, b3, b4, b5].getD i false) 6 ^^^ (-1)) = fB (fun i => [a0, a1, a2, a3, a4, a5].getD i false && !([b0, b1, b2, b3, b4, b5].getD i false)) 6 := by decide +kernel
theorem fB_andn {y z : Nat → Bool} {n : Nat} (hn : n ≤ 6) : fB y n &&& (fB z n ^^^ (-1)) = fB (fun i => y i && !z i) n := by
  obtain ⟨a0, a1, a2, a3, a4, a5, ha, ea⟩ := fB_six (y := y) hn
  obtain ⟨b0, b1, b2, b3, b4, b5, hb, eb⟩ := fB_six (y := z) hn
  rw [ea, eb, fB_andn6, ← fB_up (y := fun i => y i && !z i) (n := n) (6 - n), show n + (6 - n) = 6 by omega]
  refine fB_congr 6 fun i hi => ?_
  rw [← ha i hi, ← hb i hi]
  cases decide (i < n) <;> simp
def movR (r : Nat → Int32) (b : Nat) (x : Int32) : Nat → Int32 := upd r (6 + b) (r (6 + b) + x)
theorem youR_mov {A : LA} {r : Nat → Int32} {b f : Nat} {x : Int32} (hb : b < 2) : youR A (movR r b x) f 0 0 = youR A r f (if b = 0 then x else 0) (if b = 0 then 0 else x) := by
  have e : ∀ j, j ≠ 6 + b → movR r b x j = r j := fun j hj => by unfold movR; rw [upd_a, if_neg hj]
  have l : ∀ w, w < 2 → likR A (movR r b x) f w 0 = likR A r f w (if w = b then x else 0) := fun w hw => by
    unfold likR
    congr 1
    funext i
    unfold likV
    rw [e 4 (by omega), e (25 + f) (by omega), e 0 (by omega), e 2 (by omega)]
    by_cases hwb : w = b
    · rw [if_pos hwb, hwb, show movR r b x (6 + b) = r (6 + b) + x from by unfold movR; rw [upd_a, if_pos rfl], Int32.add_zero]
    · rw [if_neg hwb, e (6 + w) (by omega)]
  unfold youR
  rw [e (25 + f) (by omega), l 0 (by decide), l 1 (by decide)]
  rcases (show b = 0 ∨ b = 1 by omega) with q | q <;> subst q <;> rfl
theorem okR_mov {A : LA} {Y Z b k : Nat} {r : Nat → Int32} (h : okR A Y Z r) (hb : b < 2) (hk : k ≤ 99) (hZ : Z < 10 ^ 6) : okR A Y (Z + 99) (movR r b (nI k)) := by
  have e : ∀ j, j ≠ 6 + b → movR r b (nI k) j = r j := fun j hj => by unfold movR; rw [upd_a, if_neg hj]
  have z : inZ (nI k) 99 := by
    unfold inZ
    rw [nI_toInt (by omega)]
    omega
  have e6 : movR r b (nI k) (6 + b) = r (6 + b) + nI k := by unfold movR; rw [upd_a, if_pos rfl]
  refine okR_of h (Nat.le_refl _) (by omega) (Or.inl (e _ (by omega))) (Or.inl (e _ (by omega))) (Or.inl (e _ (by omega))) (Or.inl (e _ (by omega))) (Or.inl (e _ (by omega))) (Or.inl (e _ (by omega))) ?_ ?_ (Or.inl (e _ (by omega))) (Or.inl (e _ (by omega))) (fun j hj => e _ (by omega))
  · by_cases q : b = 0
    · subst q
      refine Or.inr ?_
      rw [show (6 : Nat) = 6 + 0 from rfl, e6]
      exact inZ_add h.2.2.2.2.2.2.1 z (by omega)
    · exact Or.inl (e _ (by omega))
  · by_cases q : b = 1
    · subst q
      refine Or.inr ?_
      rw [show (7 : Nat) = 6 + 1 from rfl, e6]
      exact inZ_add h.2.2.2.2.2.2.2.1 z (by omega)
    · exact Or.inl (e _ (by omega))
def movY (A : LA) (r : Nat → Int32) (b : Nat) (x : Int32) (i : Nat) : Bool := (youR A (movR r b x) i 0 0 == (b == 1)) && !(youR A r i 0 0 == (b == 1))
theorem one0 {c : Prop} [Decidable c] {b : Nat} (hb : b < 2) : ((if c then (1 : Int32) else 0) = nI b) = ((decide c) = (b == 1)) := by
  rcases (show b = 0 ∨ b = 1 by omega) with q | q <;> subst q <;> by_cases h : c <;> simp [h] <;> decide
theorem movedM_l {A : LA} {M : Mem} {b k : Nat} (h : Rel A M) (hb : b < 2) : ∀ (d i fuel : Nat) (M1 : Mem), RO M M1 → gI M1 103 0 = 0 → i + d = aN A 2 → d < fuel → ∃ M2, fX13_moved_l35 fuel M1 (nI b) (nI k) (fB (movY A (rB M 0) b (nI k)) i) (nI i) = some (fB (movY A (rB M 0) b (nI k)) (aN A 2), M2) ∧ RO M M2 ∧ gI M2 103 0 = 0 := by
  have h6 : aN A 2 ≤ 6 := h.1.2.2.1
  intro d
  induction d with
  | zero =>
    intro i fuel M1 f h0 hi hf
    obtain ⟨m, rfl⟩ : ∃ m, fuel = m + 1 := ⟨fuel - 1, by omega⟩
    refine ⟨M1, ?_, f, h0⟩
    rw [fX13_moved_l35, pu_s, (h.ro f).2.2.1.2.2.1, if_neg (by rw [lt_nI (by omega) (by omega)]; omega), show i = aN A 2 by omega]
  | succ d ih =>
    intro i fuel M1 f h0 hi hf
    obtain ⟨m, rfl⟩ : ∃ m, fuel = m + 1 := ⟨fuel - 1, by omega⟩
    have hL := (h.ro f).2.2.1
    obtain ⟨N1, a1, a2⟩ := follows_ok (b := 0) (f := i) (who := 0) (more := 0) hL h.1 (by decide) (by omega) (by decide)
    rw [f.rB, if_pos rfl] at a1
    have f1 : RO M N1 := f.tr a2.RO
    have z1 : gI N1 103 0 = 0 := by rw [a2.1 103 0 (by decide) (by decide)]; exact h0
    obtain ⟨N2, c1, c2⟩ := follows_ok (b := 0) (f := i) (who := b) (more := nI k) (h.ro f1).2.2.1 h.1 (by decide) (by omega) hb
    rw [f1.rB, ← youR_mov hb] at c1
    have f2 : RO M N2 := f1.tr c2.RO
    have z2 : gI N2 103 0 = 0 := by rw [c2.1 103 0 (by decide) (by decide)]; exact z1
    have nx : ∀ (N : Mem) (v : Int32), RO M N → gI N 103 0 = 0 → v = fB (movY A (rB M 0) b (nI k)) (i + 1) → ∃ M2, (pu v fun vq10 => pu (nI i + 1) fun vq11 => fX13_moved_l35 m N (nI b) (nI k) vq10 vq11) = some (fB (movY A (rB M 0) b (nI k)) (aN A 2), M2) ∧ RO M M2 ∧ gI M2 103 0 = 0 := fun N v g1 g2 g3 => by
      rw [pu_s, pu_s, g3, nI_1]
      exact ih (i + 1) m N g1 g2 (by omega) (by omega)
    rw [fX13_moved_l35, pu_s, hL.2.2.1, if_pos (by rw [lt_nI (by omega) (by omega)]; omega), show fX13_follows M1 0 (nI i) 0 0 = _ from a1, b2_s]
    unfold fX13_moved_b78 fX13_moved_b79
    by_cases q1 : youR A (rB M 0) i 0 0 = (b == 1)
    · rw [if_pos (by rw [one0 hb, Bool.decide_eq_true]; exact q1)]
      refine nx N1 _ f1 z1 ?_
      rw [fB, if_neg (by unfold movY; rw [q1, beq_self_eq_true, Bool.not_true, Bool.and_false]; exact Bool.false_ne_true), Int32.or_zero]
    · rw [if_neg (by rw [one0 hb, Bool.decide_eq_true]; exact q1), show fX13_follows N1 0 (nI i) (nI b) (nI k) = _ from c1, b2_s]
      by_cases q2 : youR A (movR (rB M 0) b (nI k)) i 0 0 = (b == 1)
      · rw [if_pos (by rw [one0 hb, Bool.decide_eq_true]; exact q2)]
        refine nx N2 _ f2 z2 ?_
        rw [fB, if_pos (by unfold movY; rw [q2, beq_self_eq_true, Bool.true_and, beq_eq_false_iff_ne.mpr q1]; rfl)]
        rfl
      · rw [if_neg (by rw [one0 hb, Bool.decide_eq_true]; exact q2)]
        refine nx N2 _ f2 z2 ?_
        rw [fB, if_neg (by unfold movY; rw [beq_eq_false_iff_ne.mpr q2, Bool.false_and]; exact Bool.false_ne_true), Int32.or_zero]
theorem wi_of {x : Int32} {lo n : Nat} (h : ¬ (x < nI lo ∨ nI n < x)) (hl : lo < 2 ^ 31) (hn : n < 2 ^ 31) : ∃ k : Nat, lo ≤ k ∧ k ≤ n ∧ x = nI k := by
  have h0 : ¬ (x < 0 ∨ nI n < x) := by
    rintro (q | q)
    · refine h (Or.inl ?_)
      rw [Int32.lt_iff_toInt_lt] at q ⊢
      rw [nI_toInt hl]
      rw [show ((0 : Int32)).toInt = 0 from by decide] at q
      omega
    · exact h (Or.inr q)
  obtain ⟨k, hk, e⟩ := lt_of h0 hn
  subst e
  refine ⟨k, ?_, hk, rfl⟩
  rcases Nat.lt_or_ge k lo with q | q
  · exact absurd (Or.inl (by rw [lt_nI (by omega) hl]; exact q)) h
  · exact q
theorem moved_q {A : LA} {M : Mem} (h : Rel A M) (x y : Int32) : qC (fX12_moved M x y) (fun M1 => fX13_moved M1 x y) M := by
  by_cases hx : x = 0 ∨ x = 1
  · by_cases hy : y < 1 ∨ (99 : Int32) < y
    · refine ⟨.error 2, ?_, fun M1 f => ?_⟩
      · show fX12_moved M x y = _
        unfold fX12_moved
        rw [needBrother_eq, if_pos hx, bE_ok, needWithin_eq, if_pos hy, bE_er]
      · show simM (fX13_moved M1 _ _) M1 _
        unfold fX13_moved
        rw [pu_s, gB_eq m00, if_pos hx, gT_eq m00 (by decide), if_pos hy]
        exact sM_er M0_ro
    · obtain ⟨b, hb, e⟩ := bro_of hx
      obtain ⟨k, k1, hk, ek⟩ := wi_of (lo := 1) (n := 99) hy (by decide) (by decide)
      refine ⟨.ok (fB (movY A (rB M 0) b (nI k)) (aN A 2)), ?_, fun M1 f => ?_⟩
      · obtain ⟨C1, c1, g1, g2, g3, g4⟩ := c_start h RO.rf
        have w2 : cW A M (movR (rB M 0) b (nI k)) (sI C1 88 b (gI C1 88 b + nI k)) := by
          refine ⟨g1.st (by unfold scr; omega), g2.fr (k := 86) (by decide) (frC.rf.st (by omega)), ?_, ?_⟩
          · rw [show (88 : Nat) = 86 + 2 from rfl, rC_a2 hb, gC_a2 hb, g3]; rfl
          · rw [rC_n (by omega), g4]
        obtain ⟨p1, p2, p3, p4⟩ := w2
        obtain ⟨C3, d1, d2⟩ := fol_ok (who := b) p2 h.1 (k := 86) (by decide) (by rw [p3]; exact okR_mov h.okR hb hk (by decide)) hb
        obtain ⟨C4, e1, e2⟩ := fol_ok (who := b) (p2.k d2.K) h.1 (k := 81) (by decide) (by rw [rC_k d2.K (by decide), p4]; exact h.okR) hb
        refine ⟨C4, ?_, (p1.tr d2.K.RO).tr e2.K.RO⟩
        unfold fX12_moved
        rw [needBrother_eq, if_pos hx, bE_ok, needWithin_eq, if_neg hy, bE_ok, c1, b1_s, e, ek, ldI_nI hb (by decide), stI_nI hb (by decide), d1, b2_s, e1, b2_s, p3, rC_k d2.K (by decide), p4, folN_fBw, folN_fBw, fB_andn h.1.2.2.1]
        rfl
      · show simM (fX13_moved M1 _ _) M1 _
        have h1 := h.ro f
        obtain ⟨D1, d1, f1, t1⟩ := movedM_l (k := k) h1 hb (aN A 2) 0 FU (sI M1 103 0 0) M0_ro m00 (by omega) (by have := h.1.2.2.1; show _ < 100000; omega)
        unfold fX13_moved
        rw [pu_s, gB_eq m00, if_pos hx, gT_eq m00 (by decide), if_neg hy, e, ek, show fX13_moved_l35 FU (sI M1 103 0 0) (nI b) (nI k) 0 0 = _ from d1, f.rB]
        exact sM_ok f1 t1
  · refine ⟨.error 1, ?_, fun M1 f => ?_⟩
    · show fX12_moved M x y = _
      unfold fX12_moved
      rw [needBrother_eq, if_neg hx, bE_er]
    · show simM (fX13_moved M1 _ _) M1 _
      unfold fX13_moved
      rw [pu_s, gB_eq m00, if_neg hx]
      exact sM_er M0_ro
