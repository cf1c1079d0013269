/-! QUESTIONS: the next year that tells. The reference -/
def xM (s : SX) (M : Mem) : Prop := ∀ a, a < s.1 → ∀ k, k < 30 → gI M 140 (30 * a + k) = s.2 a k
theorem nxI_b {R : Nat → Nat → Bool} {V : Nat → Nat → Nat → Int32} {y : Nat} : ∀ (d k : Nat) (s : SX), (nxI R V y d k s).1 ≤ s.1 + d := by
  intro d
  induction d with
  | zero => intro k s; exact Nat.le_refl _
  | succ d ih =>
    intro k s
    unfold nxI
    by_cases q : R y k = true
    · rw [if_pos q]
      have := ih (k + 1) (sxA s (V y k))
      have e : (sxA s (V y k)).1 = s.1 + 1 := rfl
      omega
    · rw [if_neg q]
      have := ih (k + 1) s
      omega
theorem copyM_l {A : LA} {M : Mem} {s : SX} {v : Nat → Int32} {w x3 x4 : Int32} (hs : s.1 < 84) (a20 : Mem → Int32 → Int32 → Int32 → Option (Int32 × Mem)) (a29 : Mem → Int32 → Int32 → Int32 → Int32 → Option (Int32 × Mem)) : ∀ (d i fuel : Nat) (M1 : Mem), RO M M1 → gI M1 103 0 = 0 → (∀ k, k < 30 → gI M1 139 k = v k) → xM s M1 → (∀ k, k < i → gI M1 140 (30 * s.1 + k) = v k) → i + d = 30 → d < fuel → ∃ M2, fX13_next_l54 a20 a29 fuel M1 w (nI s.1) x3 x4 (nI i) = fX13_next_b89 a20 a29 M2 w (nI (s.1 + 1)) x3 x4 ∧ RO M M2 ∧ gI M2 103 0 = 0 ∧ xM (sxA s v) M2 := by
  intro d
  induction d with
  | zero =>
    intro i fuel M1 f h0 h139 hx hi2 hi hf
    obtain ⟨m, rfl⟩ : ∃ m, fuel = m + 1 := ⟨fuel - 1, by omega⟩
    rw [fX13_next_l54, show (30 : Int32) = nI 30 from rfl, if_neg (by rw [lt_nI (by omega) (by omega)]; omega), pu_s, nI_1]
    refine ⟨M1, rfl, f, h0, fun a ha k hk => ?_⟩
    show _ = if a = s.1 then v k else s.2 a k
    by_cases q : a = s.1
    · rw [if_pos q, q]; exact hi2 k (by omega)
    · have : a < s.1 + 1 := ha
      rw [if_neg q]; exact hx a (by omega) k hk
  | succ d ih =>
    intro i fuel M1 f h0 h139 hx hi2 hi hf
    obtain ⟨m, rfl⟩ : ∃ m, fuel = m + 1 := ⟨fuel - 1, by omega⟩
    rw [fX13_next_l54, show (30 : Int32) = nI 30 from rfl, if_pos (by rw [lt_nI (by omega) (by omega)]; omega), ldI_nI (by omega) (by decide), h139 i (by omega), pk_mul, nI_add, stI_nI (by omega) (by decide), pu_s, nI_1]
    refine ih (i + 1) m _ (f.st (by unfold scr; omega)) (by rw [gI_sa (by decide)]; exact h0) (fun k hk => by rw [gI_sa (by decide)]; exact h139 k hk) (fun a ha k hk => by rw [gI_sj (by omega)]; exact hx a ha k hk) (fun k hk => ?_) (by omega) (by omega)
    by_cases q : k = i
    · rw [q, gI_ss]
    · rw [gI_sj (by omega)]; exact hi2 k (by omega)
theorem nexI {A : LA} {M : Mem} {n : Nat} {sy : Nat → Nat} {ss : Nat → Int32} {y : Nat} {w : Int32} (h : Rel A M) (hM : seM n sy ss M) (hn : n ≤ 8) (hs : ∀ i, i < n → 1 ≤ sy i ∧ sy i ≤ 30) (hy : y ≤ 12) (a : Mem → Int32 → Int32 → Int32 → Option (Int32 × Mem)) : ∀ (d k fuel : Nat) (M1 : Mem) (s : SX), RO M M1 → gI M1 103 0 = 0 → xM s M1 → s.1 + d ≤ 84 → k + d = aN A 0 → d < fuel → ∃ M2, fX13_next_l29 a fuel M1 w (nI s.1) (nI y) (nI k) = a M2 w (nI (nxI (fun y k => fitB A (rB M 0) n sy ss y (nI k)) (vOf A (rB M 0)) y d k s).1) (nI (y + 1)) ∧ RO M M2 ∧ gI M2 103 0 = 0 ∧ xM (nxI (fun y k => fitB A (rB M 0) n sy ss y (nI k)) (vOf A (rB M 0)) y d k s) M2 := by
  have h7 := h.1.1
  intro d
  induction d with
  | zero =>
    intro k fuel M1 s f h0 hx hb hk hf
    obtain ⟨m, rfl⟩ : ∃ m, fuel = m + 1 := ⟨fuel - 1, by omega⟩
    have hL := (h.ro f).2.2.1
    rw [fX13_next_l29, pu_s, hL.1, if_neg (by rw [lt_nI (by omega) (by omega)]; omega), pu_s, nI_1]
    exact ⟨M1, rfl, f, h0, hx⟩
  | succ d ih =>
    intro k fuel M1 s f h0 hx hb hk hf
    obtain ⟨m, rfl⟩ : ∃ m, fuel = m + 1 := ⟨fuel - 1, by omega⟩
    have hL := (h.ro f).2.2.1
    have hk7 : k < aN A 0 := by omega
    obtain ⟨M2, p1, p2, p3, p4, p5⟩ := isSeen_ok (y := y) (D := nI k) h f h0 hM hn hs (Or.inr ⟨k, hk7, rfl⟩) (by omega)
    have hx2 : xM s M2 := fun a ha j hj => by rw [p5]; exact hx a ha j hj
    have b89 : ∀ (N : Mem) (s' : SX), RO M N → gI N 103 0 = 0 → xM s' N → s'.1 + d ≤ 84 → ∃ M9, fX13_next_b89 a (fX13_next_l29 a m) N w (nI s'.1) (nI y) (nI k) = a M9 w (nI (nxI (fun y k => fitB A (rB M 0) n sy ss y (nI k)) (vOf A (rB M 0)) y d (k + 1) s').1) (nI (y + 1)) ∧ RO M M9 ∧ gI M9 103 0 = 0 ∧ xM (nxI (fun y k => fitB A (rB M 0) n sy ss y (nI k)) (vOf A (rB M 0)) y d (k + 1) s') M9 := by
      intro N s' q1 q2 q3 q4
      unfold fX13_next_b89
      rw [pu_s, nI_1]
      exact ih (k + 1) m N s' q1 q2 q3 q4 (by omega) (by omega)
    rw [fX13_next_l29, pu_s, hL.1, if_pos (by rw [lt_nI (by omega) (by omega)]; omega), p1, b2_s, nxI]
    by_cases q : fitB A (rB M 0) n sy ss y (nI k) = true
    · obtain ⟨M3, t1, t2, t3, t4⟩ := copyM_l (A := A) (v := vOf A (rB M 0) y k) (w := w) (x3 := nI y) (x4 := nI k) (s := s) (by omega) a (fX13_next_l29 a m) 30 0 FU M2 p2 p3 (fun i hi => p4 i hi) hx2 (fun i q => absurd q (by omega)) (by omega) (by show _ < 100000; omega)
      rw [if_pos q, if_pos q, if_neg (show ¬ (1 : Int32) = 0 by decide), show fX13_next_l54 a (fX13_next_l29 a m) FU M2 w (nI s.1) (nI y) (nI k) 0 = _ from t1]
      exact b89 M3 (sxA s (vOf A (rB M 0) y k)) t2 t3 t4 (by show s.1 + 1 + d ≤ 84; omega)
    · rw [if_neg q, if_neg q, if_pos (show (0 : Int32) = 0 from rfl)]
      exact b89 M2 s p2 p3 hx2 (by omega)
theorem isM_l {s : SX} {M1 : Mem} (hx : xM s M1) (hb : s.1 ≤ 84) {k a : Nat} (hk : k < 30) (ha : a < s.1) {w m9 b t n9 : Int32} (a109 : Mem → Int32 → Int32 → Int32 → Int32 → Int32 → Option (Int32 × Mem)) (a122 : Mem → Int32 → Int32 → Int32 → Int32 → Int32 → Int32 → Int32 → Option (Int32 × Mem)) : ∀ (d c fuel : Nat), (∀ j, j < c → ¬ s.2 j k = s.2 a k) → c + d = a → d + 1 < fuel → fX13_next_l134 a109 a122 fuel M1 w m9 b t (nI k) n9 (nI a) 1 (nI c) = a122 M1 w m9 b t (nI k) (n9 + (if ∀ j, j < a → ¬ s.2 j k = s.2 a k then 1 else 0)) (nI (a + 1)) := by
  have b188 : ∀ x : Int32, (x = 0 ∨ x = 1) → fX13_next_b188 a109 a122 M1 w m9 b t (nI k) n9 (nI a) x = a122 M1 w m9 b t (nI k) (n9 + x) (nI (a + 1)) := by
    intro x hx
    unfold fX13_next_b188 fX13_next_b200
    rcases hx with e | e <;> subst e
    · rw [if_pos rfl, pu_s, pu_s, nI_1]
    · rw [if_neg (by decide), pu_s, pu_s, nI_1]
  intro d
  induction d with
  | zero =>
    intro c fuel hj hc hf
    obtain ⟨m, rfl⟩ : ∃ m, fuel = m + 1 := ⟨fuel - 1, by omega⟩
    rw [fX13_next_l134, if_neg (by rw [lt_nI (by omega) (by omega)]; omega), b188 1 (Or.inr rfl), if_pos (fun j q => hj j (by omega))]
  | succ d ih =>
    intro c fuel hj hc hf
    obtain ⟨m, rfl⟩ : ∃ m, fuel = m + 1 := ⟨fuel - 1, by omega⟩
    rw [fX13_next_l134, if_pos (by rw [lt_nI (by omega) (by omega)]; omega), if_neg (show ¬ (1 : Int32) = 0 by decide), show (30 : Int32) = nI 30 from rfl, pk_mul, nI_add, ldI_nI (by omega) (by decide), pk_mul, nI_add, ldI_nI (by omega) (by decide), hx a ha k hk, hx c (by omega) k hk]
    by_cases q : s.2 a k = s.2 c k
    · rw [if_pos q, if_neg (fun z => z c (by omega) q.symm)]
      unfold fX13_next_b180
      rw [pu_s, nI_1]
      obtain ⟨m2, rfl⟩ : ∃ m2, m = m2 + 1 := ⟨m - 1, by omega⟩
      rw [fX13_next_l134]
      by_cases q2 : c + 1 < a
      · rw [if_pos (by rw [lt_nI (by omega) (by omega)]; exact q2), if_pos (show (0 : Int32) = 0 from rfl), b188 0 (Or.inl rfl)]
      · rw [if_neg (by rw [lt_nI (by omega) (by omega)]; exact q2), b188 0 (Or.inl rfl)]
    · rw [if_neg q]
      unfold fX13_next_b180
      rw [pu_s, nI_1]
      refine ih (c + 1) m (fun j hj2 => ?_) (by omega) (by omega)
      by_cases e : j = c
      · rw [e]; exact fun z => q z.symm
      · exact hj j (by omega)
theorem cntM_l {s : SX} {M1 : Mem} (hx : xM s M1) (hb : s.1 ≤ 84) {k : Nat} (hk : k < 30) {w b t : Int32} (a109 : Mem → Int32 → Int32 → Int32 → Int32 → Int32 → Option (Int32 × Mem)) : ∀ (d a fuel : Nat), a + d = s.1 → d < fuel → fX13_next_l122 a109 fuel M1 w (nI s.1) b t (nI k) (nI (cnS s.2 k a)) (nI a) = (if t < nI (cnS s.2 k s.1) then a109 M1 w (nI s.1) (nI (k + 1)) (nI (cnS s.2 k s.1)) (nI (k + 1)) else a109 M1 w (nI s.1) b t (nI (k + 1))) := by
  intro d
  induction d with
  | zero =>
    intro a fuel ha hf
    obtain ⟨m, rfl⟩ : ∃ m, fuel = m + 1 := ⟨fuel - 1, by omega⟩
    have e : a = s.1 := by omega
    rw [fX13_next_l122, if_neg (by rw [lt_nI (by omega) (by omega)]; omega), e]
    unfold fX13_next_b228
    simp only [pu_s, nI_1]
  | succ d ih =>
    intro a fuel ha hf
    obtain ⟨m, rfl⟩ : ∃ m, fuel = m + 1 := ⟨fuel - 1, by omega⟩
    rw [fX13_next_l122, if_pos (by rw [lt_nI (by omega) (by omega)]; omega), show (0 : Int32) = nI 0 from rfl, isM_l hx hb hk (a := a) (by omega) a109 (fX13_next_l122 a109 m) a 0 FU (fun j q => absurd q (by omega)) (by omega) (by show _ < 100000; omega)]
    have e : nI (cnS s.2 k a) + (if ∀ j, j < a → ¬ s.2 j k = s.2 a k then 1 else 0) = nI (cnS s.2 k (a + 1)) := by
      rw [cnS]
      by_cases q : ∀ j, j < a → ¬ s.2 j k = s.2 a k
      · rw [if_pos q, if_pos q, nI_1]
      · rw [if_neg q, if_neg q, Int32.add_zero, Nat.add_zero]
    rw [e]
    exact ih (a + 1) m (by omega) (by omega)
theorem nextM_l {s : SX} {M1 : Mem} {w : Int32} (hx : xM s M1) (hb : s.1 ≤ 84) : ∀ (d k fuel : Nat) (b t : Int32), k + d = 30 → d < fuel → fX13_next_l109 fuel M1 w (nI s.1) b t (nI k) = some (bsF s w d k b t, M1) := by
  intro d
  induction d with
  | zero =>
    intro k fuel b t hk hf
    obtain ⟨m, rfl⟩ : ∃ m, fuel = m + 1 := ⟨fuel - 1, by omega⟩
    rw [fX13_next_l109, show (30 : Int32) = nI 30 from rfl, if_neg (by rw [lt_nI (by omega) (by omega)]; omega), bsF]
    by_cases h0 : w = 0
    · rw [if_pos h0, if_pos h0]
    · rw [if_neg h0, if_neg h0]
  | succ d ih =>
    intro k fuel b t hk hf
    obtain ⟨m, rfl⟩ : ∃ m, fuel = m + 1 := ⟨fuel - 1, by omega⟩
    have e := cntM_l (w := w) (b := b) (t := t) hx hb (k := k) (by omega) (fX13_next_l109 m) s.1 0 FU (by omega) (by show _ < 100000; omega)
    rw [fX13_next_l109, show (30 : Int32) = nI 30 from rfl, if_pos (by rw [lt_nI (by omega) (by omega)]; omega), show fX13_next_l122 (fX13_next_l109 m) FU M1 w (nI s.1) b t (nI k) 0 0 = _ from e, bsF]
    by_cases q : t < nI (cnS s.2 k s.1)
    · rw [if_pos q, if_pos q]
      exact ih (k + 1) m _ _ (by omega) (by omega)
    · rw [if_neg q, if_neg q]
      exact ih (k + 1) m _ _ (by omega) (by omega)
theorem nexO {A : LA} {M : Mem} {n : Nat} {sy : Nat → Nat} {ss : Nat → Int32} {w : Int32} (h : Rel A M) (hM : seM n sy ss M) (hn : n ≤ 8) (hs : ∀ i, i < n → 1 ≤ sy i ∧ sy i ≤ 30) : ∀ (c y fuel : Nat) (M1 : Mem) (s : SX), RO M M1 → gI M1 103 0 = 0 → xM s M1 → s.1 + 7 * c ≤ 84 → y + c = 13 → c < fuel → ∃ M2, fX13_next_l20 fuel M1 w (nI s.1) (nI y) = some (bsF (nxO (fun y k => fitB A (rB M 0) n sy ss y (nI k)) (vOf A (rB M 0)) (aN A 0) c y s) w 30 0 (-1) 0, M2) ∧ RO M M2 ∧ gI M2 103 0 = 0 := by
  have h7 := h.1.1
  intro c
  induction c with
  | zero =>
    intro y fuel M1 s f h0 hx hb hy hf
    obtain ⟨m, rfl⟩ : ∃ m, fuel = m + 1 := ⟨fuel - 1, by omega⟩
    refine ⟨M1, ?_, f, h0⟩
    rw [fX13_next_l20, show (12 : Int32) = nI 12 from rfl, if_pos (by rw [lt_nI (by omega) (by omega)]; omega), nxO]
    exact nextM_l hx (by omega) 30 0 FU (-1) 0 (by omega) (by show _ < 100000; omega)
  | succ c ih =>
    intro y fuel M1 s f h0 hx hb hy hf
    obtain ⟨m, rfl⟩ : ∃ m, fuel = m + 1 := ⟨fuel - 1, by omega⟩
    obtain ⟨M2, p1, p2, p3, p4⟩ := nexI (w := w) h hM hn hs (y := y) (by omega) (fX13_next_l20 m) (aN A 0) 0 FU M1 s f h0 hx (by omega) (by omega) (by show _ < 100000; omega)
    have hb2 := nxI_b (R := fun y k => fitB A (rB M 0) n sy ss y (nI k)) (V := vOf A (rB M 0)) (y := y) (aN A 0) 0 s
    rw [fX13_next_l20, show (12 : Int32) = nI 12 from rfl, if_neg (by rw [lt_nI (by omega) (by omega)]; omega), nxO, show fX13_next_l29 (fX13_next_l20 m) FU M1 w (nI s.1) (nI y) 0 = _ from p1]
    exact ih (y + 1) m M2 _ p2 p3 p4 (by omega) (by omega) (by omega)
theorem next_q {A : LA} {M : Mem} (h : Rel A M) (x : Int32) : qC (fX12_next M x) (fun M1 => fX13_next M1 x) M := by
  obtain ⟨n, sy, ss, hn, hs, hC, hM⟩ := h.se
  by_cases hx : x < 0 ∨ (1 : Int32) < x
  · refine ⟨.error 1, ?_, fun M1 f => ?_⟩
    · show fX12_next M x = _
      unfold fX12_next
      rw [needWhat_eq, if_pos hx, bE_er]
    · show simM (fX13_next M1 _) M1 _
      unfold fX13_next
      rw [pu_s, gW_eq m00, if_pos hx]
      exact sM_er M0_ro
  · refine ⟨.ok (bsF (nxO (fun y k => fitB A (rB M 0) n sy ss y (nI k)) (vOf A (rB M 0)) (aN A 0) 12 1 (0, fun _ _ => 0)) x 30 0 (-1) 0), ?_, fun M1 f => ?_⟩
    · obtain ⟨C1, c1, c2, c3⟩ := survey_ok h RO.rf hC hn hs
      refine ⟨C1, ?_, c2⟩
      unfold fX12_next
      rw [needWhat_eq, if_neg hx, bE_ok, c1, b1_s]
      exact nextC_l c3 30 0 FU (-1) 0 (by omega) (by show _ < 100000; omega)
    · show simM (fX13_next M1 _) M1 _
      obtain ⟨D1, d1, d2, d3⟩ := nexO (w := x) (h.ro f) (hM.ro f) hn hs 12 1 FU (sI M1 103 0 0) (0, fun _ _ => 0) M0_ro m00 (fun a ha => absurd ha (Nat.not_lt_zero a)) (by decide) (by omega) (by show _ < 100000; omega)
      unfold fX13_next
      rw [pu_s, gW_eq m00, if_neg hx, show fX13_next_l20 FU (sI M1 103 0 0) x 0 1 = _ from d1, f.rB]
      exact sM_ok d2 d3
