/-! TEXTS: expressions as the class reads them -/
/-- what an expression leaves as it was: the land P, the rule o, whose code begins at s0 -/
def frE (P o s0 : Nat) (M M' : Mem) : Prop := (∀ a j, a ≠ 27 → (a = 3 → j ≠ 3 ∧ j ≠ 4) → (a = o → j ≠ 2 ∧ j ≠ 3) → (a = P + 14 → j < s0) → gI M' a j = gI M a j) ∧ ∀ a j, a ≠ 27 → gR M' a j = gR M a j
theorem frE.rf {P o s0 : Nat} {M : Mem} : frE P o s0 M M := ⟨fun _ _ _ _ _ _ => rfl, fun _ _ _ => rfl⟩
theorem frE.tr {P o s0 : Nat} {M M1 M2 : Mem} (h : frE P o s0 M M1) (h2 : frE P o s0 M1 M2) : frE P o s0 M M2 := ⟨fun a j x y z u => (h2.1 a j x y z u).trans (h.1 a j x y z u), fun a j x => (h2.2 a j x).trans (h.2 a j x)⟩
theorem frT7.E {P o s0 : Nat} {M M1 : Mem} (h : frT7 M M1) : frE P o s0 M M1 := ⟨fun a j x _ _ _ => h.1 a j x, fun a j x => h.2 a j x⟩
theorem frE.st {P o s0 : Nat} {M M1 : Mem} {a i : Nat} {v : Int32} (h : frE P o s0 M M1) (ha : (a = 3 ∧ (i = 3 ∨ i = 4)) ∨ (a = o ∧ (i = 2 ∨ i = 3)) ∨ (a = P + 14 ∧ s0 ≤ i)) : frE P o s0 M (sI M1 a i v) := ⟨fun b j x y z u => by
  rw [gI_sI, if_neg]
  · exact h.1 b j x y z u
  · rintro ⟨q1, q2⟩
    subst q1
    subst q2
    rcases ha with ⟨e1, e2⟩ | ⟨e1, e2⟩ | ⟨e1, e2⟩
    · have := y e1; omega
    · have := z e1; omega
    · have := u e1; omega, fun b j x => h.2 b j x⟩
def HX (P o : Nat) (M0 : Mem) : Prop := (P = 4 ∨ P = 29) ∧ (o = P + 15 ∨ o = P + 16) ∧ gR M0 3 1 = P ∧ gR M0 3 7 = o
theorem HX.k {P o : Nat} {M0 : Mem} (h : HX P o M0) : kd P = 4 ∧ kd o = 7 ∧ rcT o = P + 14 := by
  obtain ⟨h1, h2, -, -⟩ := h
  rcases h1 with e | e <;> rcases h2 with e2 | e2 <;> subst e <;> subst e2 <;> decide
/-- at the token from q on, with the code l so far and room for k more -/
def cX0 (c : Nat → Nat) (L P o s0 : Nat) (M0 : Mem) (k q : Nat) (l : List Int32) (M : Mem) : Prop := tpC c L M ∧ tkC c L q M ∧ q ≤ L ∧ gI M o 2 = nI (s0 + l.length) ∧ (∀ i, i < l.length → l[i]? = some (gI M (P + 14) (s0 + i))) ∧ s0 + l.length + k ≤ q ∧ frE P o s0 M0 M
def cX (c : Nat → Nat) (L P o s0 : Nat) (M0 : Mem) (k q : Nat) (l : List Int32) (M : Mem) : Prop := cX0 c L P o s0 M0 k q l M ∧ (gI M o 3 = 0 ∨ gI M o 3 = 1) ∧ (gI M o 3 = 0 → ∀ x ∈ l, x ≠ -6)
def LevC (c : Nat → Nat) (L P o s0 : Nat) (M0 : Mem) (X : Mem → Option (Int32 × Mem)) (r : Nat → RE) : Prop := ∀ k l q M, cX c L P o s0 M0 k q l M → match r q with
  | .error e => ∃ M', X M = some (0, M') ∧ frE P o s0 M0 M' ∧ gI M' 3 3 = nI e.1 ∧ gI M' 3 4 = nI e.2
  | .ok v => ∃ M', X M = some (1, M') ∧ cX c L P o s0 M0 k v.2 (l ++ v.1) M'
theorem refC {c : Nat → Nat} {L P o s0 : Nat} {M0 : Mem} {k q : Nat} {l : List Int32} {M : Mem} {e : Nat} (h : cX0 c L P o s0 M0 k q l M) : ∃ M', (b2 (fX6_refuse M (nI e)) fun v Mq => zz v (some (v, Mq))) = some (0, M') ∧ frE P o s0 M0 M' ∧ gI M' 3 3 = nI e ∧ gI M' 3 4 = nI (tP c L q) := by
  refine ⟨sI (sI M 3 3 (nI e)) 3 4 (nI (tP c L q)), ?_, (h.2.2.2.2.2.2.st (Or.inl ⟨rfl, Or.inl rfl⟩)).st (Or.inl ⟨rfl, Or.inr rfl⟩), ?_, gI_ss⟩
  · unfold fX6_refuse
    rw [pu_s, pu_s, pu_s, gI_sa (by decide), h.2.1.2.2.1, b2_s, zz0]
  · rw [gI_sj (by decide), gI_ss]
theorem stepX0 {c : Nat → Nat} {L P o s0 : Nat} {M0 : Mem} {k q : Nat} {l : List Int32} {M : Mem} (hX : HX P o M0) (h : cX0 c L P o s0 M0 k q l M) (hk : tK c L q ≠ 0) : ∃ M', fX10_step M = some M' ∧ cX0 c L P o s0 M0 (k + 1) (tN c L q) l M' ∧ gI M' o 3 = gI M o 3 := by
  obtain ⟨h1, h2, h3, h4, h5, h6, h7⟩ := h
  obtain ⟨x1, x2, x3, x4⟩ := hX
  obtain ⟨n1, n2⟩ := tN_gt (c := c) h3 hk
  obtain ⟨p1, p2⟩ := tP_le (c := c) h3
  obtain ⟨n3, n4⟩ := tN_le (c := c) h3
  obtain ⟨M', s1, s2, s3⟩ := stepC h1 n4 h2.1 h2.2.1
  refine ⟨M', s1, ⟨h1.fr s3, s2, n4, ?_, fun i hi => ?_, by omega, h7.tr s3.E⟩, s3.1 _ _ (by omega)⟩
  · rw [s3.1 _ _ (by omega)]; exact h4
  · rw [s3.1 _ _ (by omega)]; exact h5 i hi
theorem stepX {c : Nat → Nat} {L P o s0 : Nat} {M0 : Mem} {k q : Nat} {l : List Int32} {M : Mem} (hX : HX P o M0) (h : cX c L P o s0 M0 k q l M) (hk : tK c L q ≠ 0) : ∃ M', fX10_step M = some M' ∧ cX c L P o s0 M0 (k + 1) (tN c L q) l M' := by
  obtain ⟨M', s1, s2, s3⟩ := stepX0 hX h.1 hk
  exact ⟨M', s1, s2, by rw [s3]; exact h.2.1, by rw [s3]; exact h.2.2⟩
theorem cX0.le {c : Nat → Nat} {L P o s0 : Nat} {M0 : Mem} {k j q : Nat} {l : List Int32} {M : Mem} (h : cX0 c L P o s0 M0 k q l M) (hj : j ≤ k) : cX0 c L P o s0 M0 j q l M := by
  obtain ⟨h1, h2, h3, h4, h5, h6, h7⟩ := h
  exact ⟨h1, h2, h3, h4, h5, by omega, h7⟩
theorem cX.le {c : Nat → Nat} {L P o s0 : Nat} {M0 : Mem} {k j q : Nat} {l : List Int32} {M : Mem} (h : cX c L P o s0 M0 k q l M) (hj : j ≤ k) : cX c L P o s0 M0 j q l M := ⟨h.1.le hj, h.2⟩
theorem appX0 {c : Nat → Nat} {L P o s0 : Nat} {M0 : Mem} {k q : Nat} {l : List Int32} {M : Mem} {x : Int32} (hX : HX P o M0) (h : cX0 c L P o s0 M0 k q l M) (hr : s0 + l.length < 700) (hk : s0 + l.length + 1 + (k - 1) ≤ q ∨ tK c L q ≠ 0) : ∃ M', fX8_append M o x = some M' ∧ tpC c L M' ∧ tkC c L q M' ∧ gI M' o 2 = nI (s0 + (l ++ [x]).length) ∧ (∀ i, i < (l ++ [x]).length → (l ++ [x])[i]? = some (gI M' (P + 14) (s0 + i))) ∧ frE P o s0 M0 M' ∧ gI M' o 3 = gI M o 3 ∧ ∀ a j, gR M' a j = gR M a j := by
  obtain ⟨k1, k2, k3⟩ := hX.k
  obtain ⟨h1, h2, h3, h4, h5, h6, h7⟩ := h
  obtain ⟨x1, x2, x3, x4⟩ := hX
  refine ⟨sI (sI M (P + 14) (s0 + l.length) x) o 2 (nI (s0 + l.length + 1)), ?_, ⟨h1.1, fun i hi => ⟨(h1.2 i hi).1, ?_⟩⟩, ⟨?_, ?_, ?_, ?_, ?_, h2.2.2.2.2.2⟩, ?_, fun i hi => ?_, (h7.st (Or.inr (Or.inr ⟨rfl, by omega⟩))).st (Or.inr (Or.inl ⟨rfl, Or.inl rfl⟩)), ?_, fun _ _ => rfl⟩
  · unfold fX8_append
    rw [ck_t k2, pu_s, h4, show (700 : Int32) = nI 700 from rfl, if_pos (by rw [lt_nI (by omega) (by omega)]; exact hr), pu_s, k3, stI_nI hr (by decide), pu_s, pu_s, gI_sa (by omega), h4, nI_1]
  · rw [gI_sa (by omega), gI_sa (by omega)]; exact (h1.2 i hi).2
  · rw [gI_sa (by omega), gI_sa (by omega)]; exact h2.1
  · rw [gI_sa (by omega), gI_sa (by omega)]; exact h2.2.1
  · rw [gI_sa (by omega), gI_sa (by omega)]; exact h2.2.2.1
  · rw [gI_sa (by omega), gI_sa (by omega)]; exact h2.2.2.2.1
  · rw [gI_sa (by omega), gI_sa (by omega)]; exact h2.2.2.2.2.1
  · rw [gI_ss, List.length_append, List.length_singleton, Nat.add_assoc]
  · rw [List.length_append, List.length_singleton] at hi
    rw [gI_sa (by omega)]
    by_cases e : i < l.length
    · rw [List.getElem?_append_left e, gI_sj (by omega)]; exact h5 i e
    · rw [List.getElem?_append_right (by omega), show i - l.length = 0 by omega, show s0 + i = s0 + l.length by omega, gI_ss]; rfl
  · rw [gI_sj (by decide), gI_sa (by omega)]
/-- an operator behind what is there -/
theorem appX {c : Nat → Nat} {L P o s0 : Nat} {M0 : Mem} {k q : Nat} {l : List Int32} {M : Mem} {x : Int32} (hX : HX P o M0) (h : cX c L P o s0 M0 (k + 1) q l M) (hx : x ≠ -6) : ∃ M', fX8_append M o x = some M' ∧ cX c L P o s0 M0 k q (l ++ [x]) M' := by
  have hL := h.1.1.1
  have h3 := h.1.2.2.1
  have h6 := h.1.2.2.2.2.2.1
  obtain ⟨M', a1, a2, a3, a4, a5, a6, a7, a8⟩ := appX0 (x := x) hX h.1 (by omega) (Or.inl (by omega))
  refine ⟨M', a1, ⟨a2, a3, h3, a4, a5, by rw [List.length_append, List.length_singleton]; omega, a6⟩, by rw [a7]; exact h.2.1, fun z y hy => ?_⟩
  rw [a7] at z
  rcases List.mem_append.mp hy with w | w
  · exact h.2.2 z y w
  · rw [List.mem_singleton.mp w]; exact hx
def vfo (P o w : Nat) : Int32 := if o = P + 15 then wIS (1000 + w) else wIL (1000 + w)
theorem wI_men : ∀ w, w ≤ 22 → (wIS (1000 + w) = 5 → w = 19) ∧ wIL (1000 + w) ≠ 5 := by
  intro w hw
  exact (by decide : ∀ w, w < 23 → (wIS (1000 + w) = 5 → w = 19) ∧ wIL (1000 + w) ≠ 5) w (by omega)
theorem vfo_S {P o : Nat} (h : o = P + 15) : vfOk (vfo P o) 6 := ⟨by decide, fun w hw => by
  have : ∀ w, w < 23 → wIS (1000 + w) = -1 ∨ ∃ i, i < 6 ∧ wIS (1000 + w) = nI i := by decide
  unfold vfo
  rw [if_pos h]
  exact this w (by omega)⟩
theorem vfo_L {P o : Nat} (h : o ≠ P + 15) : vfOk (vfo P o) 5 := ⟨by decide, fun w hw => by
  have : ∀ w, w < 23 → wIL (1000 + w) = -1 ∨ ∃ i, i < 5 ∧ wIL (1000 + w) = nI i := by decide
  unfold vfo
  rw [if_neg h]
  exact this w (by omega)⟩
theorem m6v {x : Int32} (h : (-1 : Int32) - x = -6) : x = 5 := by
  have := congrArg Int32.toInt h
  rw [Int32.toInt_sub] at this
  refine Int32.toInt_inj.mp ?_
  rw [show ((5 : Int32)).toInt = 5 from by decide]
  rw [show ((-1 : Int32)).toInt = -1 from by decide, show ((-6 : Int32)).toInt = -6 from by decide] at this
  have h1 := Int32.le_toInt x
  have h2 := Int32.toInt_lt x
  have h3 := Int.bmod_def (-1 - x.toInt) (2 ^ 32)
  omega
theorem partC {c : Nat → Nat} {L P o s0 : Nat} {M0 : Mem} (hX : HX P o M0) {r : Mem → Int32 → Option (Int32 × Mem)} {rr : Nat → Nat → RE} {a : Nat} (hr : LevC c L P o s0 M0 (fun M => r M (nI (a + 1))) (rr (a + 1))) : LevC c L P o s0 M0 (fun M => fX6_part r M (nI a)) (partR c L (vfo P o) rr a) := by
  intro k l q M h
  obtain ⟨k1, k2, k3⟩ := hX.k
  have hT := h.1.2.1
  have hq := h.1.2.2.1
  have hL := h.1.1.1
  have hfr := h.1.2.2.2.2.2.2
  have hlen := h.1.2.2.2.2.2.1
  have g1 : gR M 3 1 = P := (hfr.2 3 1 (by decide)).trans hX.2.2.1
  have g7 : gR M 3 7 = o := (hfr.2 3 7 (by decide)).trans hX.2.2.2
  have e4 : gI M 27 4 = nI (tK c L q) := hT.2.2.2.1
  have kle : tK c L q ≤ 61 := by rcases tK_cases (c := c) (L := L) (q := q) with z | z | z | z | z <;> omega
  have hP := tP_le (c := c) hq
  unfold partR
  by_cases q2 : tK c L q = 2
  · rw [if_pos q2]
    have hg := tN_gt (c := c) hq (by omega)
    have hv := (tV_le (c := c) (L := L) hq).1
    by_cases v : tV c L q = 10000
    · rw [if_pos v]
      obtain ⟨M', r1, r2⟩ := refC (e := 2) h.1
      refine ⟨M', ?_, r2⟩
      show fX6_part r M (nI a) = _
      unfold fX6_part
      rw [pu_s, e4, q2, if_pos (by decide), pu_s, hT.2.2.2.2.1, v, if_pos (by decide)]
      exact r1
    · rw [if_neg v]
      obtain ⟨M', a1, a2, a3, a4, a5, a6, a7, a8⟩ := appX0 (x := nI (tV c L q)) hX h.1 (by omega) (Or.inr (by omega))
      obtain ⟨n1, n2⟩ := hg
      obtain ⟨n3, n4⟩ := tN_le (c := c) hq
      obtain ⟨M2, s1, s2, s3⟩ := stepC a2 n4 a3.1 a3.2.1
      have ho27 : o ≠ 27 := by obtain ⟨x1, x2, -, -⟩ := hX; omega
      have hP27 : P + 14 ≠ 27 := by obtain ⟨x1, -, -, -⟩ := hX; omega
      refine ⟨M2, ?_, ⟨a2.fr s3, s2, n4, ?_, fun i hi => ?_, ?_, a6.tr s3.E⟩, ?_, fun z y hy => ?_⟩
      · show fX6_part r M (nI a) = _
        unfold fX6_part
        rw [pu_s, e4, q2, if_pos (by decide), pu_s, hT.2.2.2.2.1, if_neg (by rw [show (10000 : Int32) = nI 10000 from rfl, eq_nI (by omega) (by omega)]; exact v), pu_s, g7, ck_t k2, pu_s, a1, b1_s, s1, b1_s]
      · rw [s3.1 _ _ ho27]; exact a4
      · rw [s3.1 _ _ hP27]; exact a5 i hi
      · rw [List.length_append, List.length_singleton]; show s0 + (l.length + 1) + k ≤ tN c L q; omega
      · rw [s3.1 _ _ ho27, a7]; exact h.2.1
      · rw [s3.1 _ _ ho27, a7] at z
        rcases List.mem_append.mp hy with w | w
        · exact h.2.2 z y w
        · rw [List.mem_singleton.mp w]
          intro w2
          have := congrArg Int32.toInt w2
          rw [nI_toInt (by omega), show ((-6 : Int32)).toInt = -6 from by decide] at this
          omega
  · rw [if_neg q2]
    have hn2 : ¬ nI (tK c L q) = 2 := by rw [show (2 : Int32) = nI 2 from rfl, eq_nI (by omega) (by omega)]; exact q2
    by_cases q1 : tK c L q = 1
    · rw [if_pos q1]
      have hg := tN_gt (c := c) hq (by omega)
      have hwle := tW_le (c := c) (L := L) (q := q)
      have key : fX6_part r M (nI a) = fX6_part_b101 r M (vfo P o (tW c L q)) := by
        unfold fX6_part
        rw [pu_s, e4, if_neg hn2, pu_s, q1, if_pos (by decide), pu_s, g7, ck_t k2, pu_s, g1, ck_t k1]
        unfold vfo
        by_cases e : o = P + 15
        · rw [if_pos e, if_pos e, pu_s, hT.2.2.2.2.2, ck_t ⟨by omega, by omega⟩, pu_s]
        · rw [if_neg e, if_neg e, pu_s, hT.2.2.2.2.2, ck_t ⟨by omega, by omega⟩, pu_s]
      by_cases v : vfo P o (tW c L q) = -1
      · rw [if_pos v]
        obtain ⟨M', r1, r2⟩ := refC (e := 3) h.1
        refine ⟨M', ?_, r2⟩
        show fX6_part r M (nI a) = _
        rw [key]
        unfold fX6_part_b101
        rw [if_pos v]
        exact r1
      · rw [if_neg v]
        obtain ⟨M', a1, a2, a3, a4, a5, a6, a7, a8⟩ := appX0 (x := (-1) - vfo P o (tW c L q)) hX h.1 (by omega) (Or.inr (by omega))
        obtain ⟨n1, n2⟩ := hg
        obtain ⟨n3, n4⟩ := tN_le (c := c) hq
        have ho27 : o ≠ 27 := by obtain ⟨x1, x2, -, -⟩ := hX; omega
        have hoP : o ≠ P + 14 := by obtain ⟨x1, x2, -, -⟩ := hX; omega
        have ho1 : o ≠ 1 := by obtain ⟨x1, x2, -, -⟩ := hX; omega
        have hP27 : P + 14 ≠ 27 := by obtain ⟨x1, -, -, -⟩ := hX; omega
        have b155 : ∀ s9 : Int32, (s9 = 0 ∨ s9 = 1) → (s9 = 0 → gI M o 3 = 0 ∧ tW c L q ≠ 19) → ∃ M2, fX6_part_b155 r M' s9 o = some (1, M2) ∧ cX c L P o s0 M0 k (tN c L q) (l ++ [(-1) - vfo P o (tW c L q)]) M2 := by
          intro s9 hs hs0
          have hz : ∀ {β : Type} (K : Option β), zz s9 K = K := fun K => if_pos hs
          have t2 : tpC c L (sI M' o 3 s9) := ⟨a2.1, fun i hi => ⟨(a2.2 i hi).1, by rw [gI_sa ho1.symm]; exact (a2.2 i hi).2⟩⟩
          obtain ⟨M2, s1, s2, s3⟩ := stepC t2 n4 (by rw [gI_sa ho27.symm]; exact a3.1) (by rw [gI_sa ho27.symm]; exact a3.2.1)
          refine ⟨M2, ?_, ⟨t2.fr s3, s2, n4, ?_, fun i hi => ?_, ?_, (a6.st (Or.inr (Or.inl ⟨rfl, Or.inr rfl⟩))).tr s3.E⟩, ?_, fun z y hy => ?_⟩
          · unfold fX6_part_b155
            rw [ck_t k2, hz, pu_s, s1, b1_s]
          · rw [s3.1 _ _ ho27, gI_sj (by decide)]; exact a4
          · rw [s3.1 _ _ hP27, gI_sa hoP.symm]; exact a5 i hi
          · rw [List.length_append, List.length_singleton]; omega
          · rw [s3.1 _ _ ho27, gI_ss]; exact hs
          · rw [s3.1 _ _ ho27, gI_ss] at z
            obtain ⟨f1, f2⟩ := hs0 z
            rcases List.mem_append.mp hy with w | w
            · exact h.2.2 f1 y w
            · rw [List.mem_singleton.mp w]
              intro w2
              have w3 := m6v w2
              unfold vfo at w3
              obtain ⟨m1, m2⟩ := wI_men (tW c L q) hwle
              by_cases e : o = P + 15
              · rw [if_pos e] at w3; exact f2 (m1 w3)
              · rw [if_neg e] at w3; exact m2 w3
        have key2 : fX6_part_b101 r M (vfo P o (tW c L q)) = (if gI M o 3 = 0 then (if tW c L q = 19 then fX6_part_b155 r M' 1 o else fX6_part_b155 r M' 0 o) else fX6_part_b155 r M' 1 o) := by
          have b150 : fX6_part_b150 r M' o = fX6_part_b155 r M' 1 o := by
            unfold fX6_part_b150
            rw [ck_t k2]
          unfold fX6_part_b101
          rw [if_neg v, pu_s, g7, ck_t k2, a1, b1_s, pu_s, a8, g7, ck_t k2, pu_s, ck_t k2, pu_s, a7]
          by_cases z : gI M o 3 = 0
          · rw [if_pos z, if_pos z, pu_s, a3.2.2.2.2.2, ck_t ⟨by omega, by omega⟩]
            by_cases w : tW c L q = 19
            · rw [if_pos w, if_pos (by omega), b150]
            · rw [if_neg w, if_neg (by omega)]
          · rw [if_neg z, if_neg z, b150]
        have hfin : ∃ M2, fX6_part r M (nI a) = some (1, M2) ∧ cX c L P o s0 M0 k (tN c L q) (l ++ [(-1) - vfo P o (tW c L q)]) M2 := by
          rw [key, key2]
          by_cases z : gI M o 3 = 0
          · rw [if_pos z]
            by_cases w : tW c L q = 19
            · rw [if_pos w]
              exact b155 1 (Or.inr rfl) (fun y => absurd y (by decide))
            · rw [if_neg w]
              exact b155 0 (Or.inl rfl) (fun _ => ⟨z, w⟩)
          · rw [if_neg z]
            exact b155 1 (Or.inr rfl) (fun y => absurd y (by decide))
        exact hfin
    · rw [if_neg q1]
      have hn1 : ¬ nI (tK c L q) = 1 := by rw [show (1 : Int32) = nI 1 from rfl, eq_nI (by omega) (by omega)]; exact q1
      by_cases q40 : tK c L q = 40
      · rw [if_pos q40]
        obtain ⟨M1, s1, s2⟩ := stepX hX h (by omega)
        have hh := hr (k + 1) l (tN c L q) M1 s2
        cases hv : rr (a + 1) (tN c L q) with
        | error e =>
          rw [hv] at hh
          obtain ⟨M2, u1, u2⟩ := hh
          refine ⟨M2, ?_, u2⟩
          show fX6_part r M (nI a) = _
          unfold fX6_part
          rw [pu_s, e4, if_neg hn2, pu_s, if_neg hn1, pu_s, if_pos (by rw [q40]; rfl), s1, b1_s, nI_1, show r M1 (nI (a + 1)) = _ from u1, b2_s, if_pos rfl]
        | ok w =>
          rw [hv] at hh
          obtain ⟨M2, u1, u2⟩ := hh
          obtain ⟨l2, q2'⟩ := w
          have e42 : gI M2 27 4 = nI (tK c L q2') := u2.1.2.1.2.2.2.1
          have kle2 : tK c L q2' ≤ 61 := by rcases tK_cases (c := c) (L := L) (q := q2') with z | z | z | z | z <;> omega
          dsimp only
          by_cases q41 : tK c L q2' = 41
          · rw [if_pos q41]
            obtain ⟨M3, s3, s4⟩ := stepX (q := q2') hX u2 (by omega)
            refine ⟨M3, ?_, s4.le (by omega)⟩
            show fX6_part r M (nI a) = _
            unfold fX6_part
            rw [pu_s, e4, if_neg hn2, pu_s, if_neg hn1, pu_s, if_pos (by rw [q40]; rfl), s1, b1_s, nI_1, show r M1 (nI (a + 1)) = _ from u1, b2_s, if_neg (by decide), pu_s, e42, if_pos (by rw [q41]; rfl), s3, b1_s]
          · rw [if_neg q41]
            obtain ⟨M3, r1, r2⟩ := refC (e := 1) u2.1
            refine ⟨M3, ?_, r2⟩
            show fX6_part r M (nI a) = _
            unfold fX6_part
            rw [pu_s, e4, if_neg hn2, pu_s, if_neg hn1, pu_s, if_pos (by rw [q40]; rfl), s1, b1_s, nI_1, show r M1 (nI (a + 1)) = _ from u1, b2_s, if_neg (by decide), pu_s, e42, if_neg (by rw [show (41 : Int32) = nI 41 from rfl, eq_nI (by omega) (by omega)]; exact q41)]
            exact r1
      · rw [if_neg q40]
        obtain ⟨M', r1, r2⟩ := refC (e := 1) h.1
        refine ⟨M', ?_, r2⟩
        show fX6_part r M (nI a) = _
        unfold fX6_part
        rw [pu_s, e4, if_neg hn2, pu_s, if_neg hn1, pu_s, if_neg (by rw [show (40 : Int32) = nI 40 from rfl, eq_nI (by omega) (by omega)]; exact q40)]
        exact r1
theorem productC_l {c : Nat → Nat} {L P o s0 : Nat} {M0 : Mem} (hX : HX P o M0) {r : Mem → Int32 → Option (Int32 × Mem)} {sub : Nat → RE} {a : Nat} (hs : LevC c L P o s0 M0 (fun M => fX6_part r M (nI a)) sub) : ∀ (n i fuel k : Nat) (l0 l : List Int32) (q : Nat) (M : Mem), i + n = 700 → n < fuel → cX c L P o s0 M0 k q (l0 ++ l) M → match opL c L (opP c L) sub n l q with
  | .error e => ∃ M', fX6_product_l12 r fuel M (nI a) (nI i) = some (0, M') ∧ frE P o s0 M0 M' ∧ gI M' 3 3 = nI e.1 ∧ gI M' 3 4 = nI e.2
  | .ok v => ∃ M', fX6_product_l12 r fuel M (nI a) (nI i) = some (1, M') ∧ cX c L P o s0 M0 k v.2 (l0 ++ v.1) M' := by
  obtain ⟨kk1, kk2, kk3⟩ := hX.k
  intro n
  induction n with
  | zero =>
    intro i fuel k l0 l q M hi hf h
    obtain ⟨m, rfl⟩ : ∃ m, fuel = m + 1 := ⟨fuel - 1, by omega⟩
    refine ⟨M, ?_, h⟩
    rw [fX6_product_l12, show (700 : Int32) = nI 700 from rfl, if_neg (by rw [lt_nI (by omega) (by omega)]; omega)]
  | succ n ih =>
    intro i fuel k l0 l q M hi hf h
    obtain ⟨m, rfl⟩ : ∃ m, fuel = m + 1 := ⟨fuel - 1, by omega⟩
    have e4 : gI M 27 4 = nI (tK c L q) := h.1.2.1.2.2.2.1
    have kle : tK c L q ≤ 61 := by rcases tK_cases (c := c) (L := L) (q := q) with z | z | z | z | z <;> omega
    have x1 : (nI (tK c L q) = 42) = (tK c L q = 42) := eq_nI (b := 42) (by omega) (by omega)
    have x2 : (nI (tK c L q) = 47) = (tK c L q = 47) := eq_nI (b := 47) (by omega) (by omega)
    have key : fX6_product_l12 r (m + 1) M (nI a) (nI i) = (match opP c L q with
      | none => some (1, M)
      | some x => fX6_product_b62 r (fX6_product_l12 r m) M (nI a) (nI i) x) := by
      rw [fX6_product_l12, show (700 : Int32) = nI 700 from rfl, if_pos (by rw [lt_nI (by omega) (by omega)]; omega), pu_s, e4]
      unfold opP fX6_product_b43
      by_cases z1 : tK c L q = 42
      · rw [if_pos (x1.mpr z1), if_pos z1, pu_s, e4, if_pos (x1.mpr z1)]
      · rw [if_neg (fun y => z1 (x1.mp y)), if_neg z1, pu_s]
        by_cases z2 : tK c L q = 47
        · rw [if_pos (x2.mpr z2), if_pos z2, pu_s, e4, if_neg (fun y => z1 (x1.mp y))]
        · rw [if_neg (fun y => z2 (x2.mp y)), if_neg z2]
    rw [key]
    unfold opL
    cases h0 : opP c L q with
    | none => exact ⟨M, rfl, h⟩
    | some x =>
      have hx := opP_o h0
      obtain ⟨M1, s1, s2⟩ := stepX hX h (opP_0 (by rw [h0]; exact fun y => by cases y))
      have hh := hs (k + 1) (l0 ++ l) (tN c L q) M1 s2
      dsimp only
      cases hv : sub (tN c L q) with
      | error e =>
        rw [hv] at hh
        obtain ⟨M2, u1, u2⟩ := hh
        refine ⟨M2, ?_, u2⟩
        unfold fX6_product_b62
        rw [s1, b1_s, show fX6_part r M1 (nI a) = _ from u1, b2_s, if_pos rfl]
      | ok w =>
        rw [hv] at hh
        obtain ⟨M2, u1, u2⟩ := hh
        obtain ⟨l2, q2⟩ := w
        obtain ⟨M3, a1, a2⟩ := appX (x := x) hX u2 (fun y => okO_n hx (by rw [y]; decide))
        have g7 : gR M2 3 7 = o := (u2.1.2.2.2.2.2.2.2 3 7 (by decide)).trans hX.2.2.2
        have e : fX6_product_b62 r (fX6_product_l12 r m) M (nI a) (nI i) x = fX6_product_l12 r m M3 (nI a) (nI (i + 1)) := by
          unfold fX6_product_b62
          rw [s1, b1_s, show fX6_part r M1 (nI a) = _ from u1, b2_s, if_neg (by decide), pu_s, g7, ck_t kk2, a1, b1_s, pu_s, nI_1]
        have a2' : cX c L P o s0 M0 k q2 (l0 ++ (l ++ l2 ++ [x])) M3 := by
          rw [show l0 ++ (l ++ l2 ++ [x]) = l0 ++ l ++ l2 ++ [x] from by simp only [List.append_assoc]]
          exact a2
        dsimp only
        rw [e]
        exact ih (i + 1) m k l0 (l ++ l2 ++ [x]) q2 M3 (by omega) (by omega) a2'
theorem productC {c : Nat → Nat} {L P o s0 : Nat} {M0 : Mem} (hX : HX P o M0) {r : Mem → Int32 → Option (Int32 × Mem)} {sub : Nat → RE} {a : Nat} (hs : LevC c L P o s0 M0 (fun M => fX6_part r M (nI a)) sub) : LevC c L P o s0 M0 (fun M => fX6_product r M (nI a)) (opsR c L (opP c L) sub) := by
  intro k l q M h
  have hh := hs k l q M h
  unfold opsR
  cases hv : sub q with
  | error e =>
    rw [hv] at hh
    obtain ⟨M2, u1, u2⟩ := hh
    refine ⟨M2, ?_, u2⟩
    show fX6_product r M (nI a) = _
    unfold fX6_product
    rw [show fX6_part r M (nI a) = _ from u1, b2_s, if_pos rfl]
  | ok w =>
    rw [hv] at hh
    obtain ⟨M2, u1, u2⟩ := hh
    obtain ⟨l2, q2⟩ := w
    have hl := productC_l hX hs 700 0 FU k l l2 q2 M2 (by omega) (by show _ < 100000; omega) u2
    have e : fX6_product r M (nI a) = fX6_product_l12 r FU M2 (nI a) (nI 0) := by
      unfold fX6_product
      rw [show fX6_part r M (nI a) = _ from u1, b2_s, if_neg (by decide)]
      rfl
    dsimp only
    rw [e]
    exact hl
theorem sumC_l {c : Nat → Nat} {L P o s0 : Nat} {M0 : Mem} (hX : HX P o M0) {r : Mem → Int32 → Option (Int32 × Mem)} {sub : Nat → RE} {a : Nat} (hs : LevC c L P o s0 M0 (fun M => fX6_product r M (nI a)) sub) : ∀ (n i fuel k : Nat) (l0 l : List Int32) (q : Nat) (M : Mem), i + n = 700 → n < fuel → cX c L P o s0 M0 k q (l0 ++ l) M → match opL c L (opS c L) sub n l q with
  | .error e => ∃ M', fX6_sum_l12 r fuel M (nI a) (nI i) = some (0, M') ∧ frE P o s0 M0 M' ∧ gI M' 3 3 = nI e.1 ∧ gI M' 3 4 = nI e.2
  | .ok v => ∃ M', fX6_sum_l12 r fuel M (nI a) (nI i) = some (1, M') ∧ cX c L P o s0 M0 k v.2 (l0 ++ v.1) M' := by
  obtain ⟨kk1, kk2, kk3⟩ := hX.k
  intro n
  induction n with
  | zero =>
    intro i fuel k l0 l q M hi hf h
    obtain ⟨m, rfl⟩ : ∃ m, fuel = m + 1 := ⟨fuel - 1, by omega⟩
    refine ⟨M, ?_, h⟩
    rw [fX6_sum_l12, show (700 : Int32) = nI 700 from rfl, if_neg (by rw [lt_nI (by omega) (by omega)]; omega)]
  | succ n ih =>
    intro i fuel k l0 l q M hi hf h
    obtain ⟨m, rfl⟩ : ∃ m, fuel = m + 1 := ⟨fuel - 1, by omega⟩
    have e4 : gI M 27 4 = nI (tK c L q) := h.1.2.1.2.2.2.1
    have kle : tK c L q ≤ 61 := by rcases tK_cases (c := c) (L := L) (q := q) with z | z | z | z | z <;> omega
    have x1 : (nI (tK c L q) = 43) = (tK c L q = 43) := eq_nI (b := 43) (by omega) (by omega)
    have x2 : (nI (tK c L q) = 45) = (tK c L q = 45) := eq_nI (b := 45) (by omega) (by omega)
    have key : fX6_sum_l12 r (m + 1) M (nI a) (nI i) = (match opS c L q with
      | none => some (1, M)
      | some x => fX6_sum_b62 r (fX6_sum_l12 r m) M (nI a) (nI i) x) := by
      rw [fX6_sum_l12, show (700 : Int32) = nI 700 from rfl, if_pos (by rw [lt_nI (by omega) (by omega)]; omega), pu_s, e4]
      unfold opS fX6_sum_b43
      by_cases z1 : tK c L q = 43
      · rw [if_pos (x1.mpr z1), if_pos z1, pu_s, e4, if_pos (x1.mpr z1)]
      · rw [if_neg (fun y => z1 (x1.mp y)), if_neg z1, pu_s]
        by_cases z2 : tK c L q = 45
        · rw [if_pos (x2.mpr z2), if_pos z2, pu_s, e4, if_neg (fun y => z1 (x1.mp y))]
        · rw [if_neg (fun y => z2 (x2.mp y)), if_neg z2]
    rw [key]
    unfold opL
    cases h0 : opS c L q with
    | none => exact ⟨M, rfl, h⟩
    | some x =>
      have hx := opS_o h0
      obtain ⟨M1, s1, s2⟩ := stepX hX h (opS_0 (by rw [h0]; exact fun y => by cases y))
      have hh := hs (k + 1) (l0 ++ l) (tN c L q) M1 s2
      dsimp only
      cases hv : sub (tN c L q) with
      | error e =>
        rw [hv] at hh
        obtain ⟨M2, u1, u2⟩ := hh
        refine ⟨M2, ?_, u2⟩
        unfold fX6_sum_b62
        rw [s1, b1_s, show fX6_product r M1 (nI a) = _ from u1, b2_s, if_pos rfl]
      | ok w =>
        rw [hv] at hh
        obtain ⟨M2, u1, u2⟩ := hh
        obtain ⟨l2, q2⟩ := w
        obtain ⟨M3, a1, a2⟩ := appX (x := x) hX u2 (fun y => okO_n hx (by rw [y]; decide))
        have g7 : gR M2 3 7 = o := (u2.1.2.2.2.2.2.2.2 3 7 (by decide)).trans hX.2.2.2
        have e : fX6_sum_b62 r (fX6_sum_l12 r m) M (nI a) (nI i) x = fX6_sum_l12 r m M3 (nI a) (nI (i + 1)) := by
          unfold fX6_sum_b62
          rw [s1, b1_s, show fX6_product r M1 (nI a) = _ from u1, b2_s, if_neg (by decide), pu_s, g7, ck_t kk2, a1, b1_s, pu_s, nI_1]
        have a2' : cX c L P o s0 M0 k q2 (l0 ++ (l ++ l2 ++ [x])) M3 := by
          rw [show l0 ++ (l ++ l2 ++ [x]) = l0 ++ l ++ l2 ++ [x] from by simp only [List.append_assoc]]
          exact a2
        dsimp only
        rw [e]
        exact ih (i + 1) m k l0 (l ++ l2 ++ [x]) q2 M3 (by omega) (by omega) a2'
theorem sumC {c : Nat → Nat} {L P o s0 : Nat} {M0 : Mem} (hX : HX P o M0) {r : Mem → Int32 → Option (Int32 × Mem)} {sub : Nat → RE} {a : Nat} (hs : LevC c L P o s0 M0 (fun M => fX6_product r M (nI a)) sub) : LevC c L P o s0 M0 (fun M => fX6_sum r M (nI a)) (opsR c L (opS c L) sub) := by
  intro k l q M h
  have hh := hs k l q M h
  unfold opsR
  cases hv : sub q with
  | error e =>
    rw [hv] at hh
    obtain ⟨M2, u1, u2⟩ := hh
    refine ⟨M2, ?_, u2⟩
    show fX6_sum r M (nI a) = _
    unfold fX6_sum
    rw [show fX6_product r M (nI a) = _ from u1, b2_s, if_pos rfl]
  | ok w =>
    rw [hv] at hh
    obtain ⟨M2, u1, u2⟩ := hh
    obtain ⟨l2, q2⟩ := w
    have hl := sumC_l hX hs 700 0 FU k l l2 q2 M2 (by omega) (by show _ < 100000; omega) u2
    have e : fX6_sum r M (nI a) = fX6_sum_l12 r FU M2 (nI a) (nI 0) := by
      unfold fX6_sum
      rw [show fX6_product r M (nI a) = _ from u1, b2_s, if_neg (by decide)]
      rfl
    dsimp only
    rw [e]
    exact hl
theorem testC {c : Nat → Nat} {L P o s0 : Nat} {M0 : Mem} (hX : HX P o M0) {r : Mem → Int32 → Option (Int32 × Mem)} {sub : Nat → RE} {a : Nat} (hs : LevC c L P o s0 M0 (fun M => fX6_sum r M (nI a)) sub) : LevC c L P o s0 M0 (fun M => fX6_test r M (nI a)) (testR c L sub) := by
  intro k l q M h
  obtain ⟨kk1, kk2, kk3⟩ := hX.k
  have hh := hs k l q M h
  unfold testR
  cases hv : sub q with
  | error e =>
    rw [hv] at hh
    obtain ⟨M2, u1, u2⟩ := hh
    refine ⟨M2, ?_, u2⟩
    show fX6_test r M (nI a) = _
    unfold fX6_test
    rw [show fX6_sum r M (nI a) = _ from u1, b2_s, if_pos rfl]
  | ok w =>
    rw [hv] at hh
    obtain ⟨M2, u1, u2⟩ := hh
    obtain ⟨l2, q2⟩ := w
    have e4 : gI M2 27 4 = nI (tK c L q2) := u2.1.2.1.2.2.2.1
    have kle : tK c L q2 ≤ 61 := by rcases tK_cases (c := c) (L := L) (q := q2) with z | z | z | z | z <;> omega
    have x1 : (nI (tK c L q2) = 60) = (tK c L q2 = 60) := eq_nI (b := 60) (by omega) (by omega)
    have x2 : (nI (tK c L q2) = 61) = (tK c L q2 = 61) := eq_nI (b := 61) (by omega) (by omega)
    have key : fX6_test r M (nI a) = if tK c L q2 = 60 ∨ tK c L q2 = 61 then fX6_test_b55 r M2 (nI a) (if tK c L q2 = 60 then -10 else -11) else some (1, M2) := by
      unfold fX6_test fX6_test_b36
      rw [show fX6_sum r M (nI a) = _ from u1, b2_s, if_neg (by decide), pu_s, e4]
      by_cases z1 : tK c L q2 = 60
      · rw [if_pos (x1.mpr z1), if_pos (Or.inl z1), if_pos z1, pu_s, if_pos (x1.mpr z1)]
      · rw [if_neg (fun y => z1 (x1.mp y)), pu_s]
        by_cases z2 : tK c L q2 = 61
        · rw [if_pos (x2.mpr z2), if_pos (Or.inr z2), if_neg z1, pu_s, if_neg (fun y => z1 (x1.mp y))]
        · rw [if_neg (fun y => z2 (x2.mp y)), if_neg (by rintro (y | y); exact z1 y; exact z2 y)]
    dsimp only
    rw [key]
    by_cases z : tK c L q2 = 60 ∨ tK c L q2 = 61
    · rw [if_pos z, if_pos z]
      obtain ⟨M3, s1, s2⟩ := stepX (q := q2) hX u2 (by omega)
      have hh2 := hs (k + 1) (l ++ l2) (tN c L q2) M3 s2
      cases hv2 : sub (tN c L q2) with
      | error e =>
        rw [hv2] at hh2
        obtain ⟨M4, v1, v2⟩ := hh2
        refine ⟨M4, ?_, v2⟩
        unfold fX6_test_b55
        rw [s1, b1_s, show fX6_sum r M3 (nI a) = _ from v1, b2_s, if_pos rfl]
      | ok w2 =>
        rw [hv2] at hh2
        obtain ⟨M4, v1, v2⟩ := hh2
        obtain ⟨l3, q3⟩ := w2
        obtain ⟨M5, a1, a2⟩ := appX (x := if tK c L q2 = 60 then -10 else -11) hX v2 (by split <;> decide)
        have g7 : gR M4 3 7 = o := (v2.1.2.2.2.2.2.2.2 3 7 (by decide)).trans hX.2.2.2
        refine ⟨M5, ?_, ?_⟩
        · unfold fX6_test_b55
          rw [s1, b1_s, show fX6_sum r M3 (nI a) = _ from v1, b2_s, if_neg (by decide), pu_s, g7, ck_t kk2, a1, b1_s]
        · dsimp only
          rw [show l ++ (l2 ++ l3 ++ [if tK c L q2 = 60 then (-10 : Int32) else -11]) = l ++ l2 ++ l3 ++ [if tK c L q2 = 60 then (-10 : Int32) else -11] from by simp only [List.append_assoc]]
          exact a2
    · rw [if_neg z, if_neg z]
      exact ⟨M2, rfl, u2⟩
theorem not58 {c : Nat → Nat} {L P o s0 : Nat} {M0 : Mem} (hX : HX P o M0) {r : Mem → Int32 → Option (Int32 × Mem)} {kc k q : Nat} (hkc : kc ≤ 6) : ∀ (d j fuel : Nat) (l : List Int32) (M : Mem), j + d = kc → d < fuel → cX c L P o s0 M0 (k + d) q l M → ∃ M', fX6_not_l58 r fuel M (nI kc) (nI j) = some (1, M') ∧ cX c L P o s0 M0 k q (l ++ List.replicate d (-7)) M' := by
  obtain ⟨kk1, kk2, kk3⟩ := hX.k
  intro d
  induction d with
  | zero =>
    intro j fuel l M hj hf h
    obtain ⟨m, rfl⟩ : ∃ m, fuel = m + 1 := ⟨fuel - 1, by omega⟩
    refine ⟨M, ?_, by rw [List.replicate_zero, List.append_nil]; exact h⟩
    rw [fX6_not_l58, if_neg (by rw [lt_nI (by omega) (by omega)]; omega)]
  | succ d ih =>
    intro j fuel l M hj hf h
    obtain ⟨m, rfl⟩ : ∃ m, fuel = m + 1 := ⟨fuel - 1, by omega⟩
    obtain ⟨M1, a1, a2⟩ := appX (x := -7) (k := k + d) hX h (by decide)
    have g7 : gR M 3 7 = o := (h.1.2.2.2.2.2.2.2 3 7 (by decide)).trans hX.2.2.2
    obtain ⟨M2, p1, p2⟩ := ih (j + 1) m (l ++ [-7]) M1 (by omega) (by omega) a2
    refine ⟨M2, ?_, ?_⟩
    · rw [fX6_not_l58, if_pos (by rw [lt_nI (by omega) (by omega)]; omega), pu_s, g7, ck_t kk2, a1, b1_s, pu_s, nI_1]
      exact p1
    · rw [List.replicate_succ, show l ++ (-7 :: List.replicate d (-7)) = l ++ [-7] ++ List.replicate d (-7) from by simp only [List.append_assoc, List.singleton_append]]
      exact p2
theorem notC_l {c : Nat → Nat} {L P o s0 : Nat} {M0 : Mem} (hX : HX P o M0) {r : Mem → Int32 → Option (Int32 × Mem)} {sub : Nat → RE} {a : Nat} (hs : LevC c L P o s0 M0 (fun M => fX6_test r M (nI a)) sub) : ∀ (m kc fuel k : Nat) (l : List Int32) (q : Nat) (M : Mem), kc + m = 6 → m < fuel → cX c L P o s0 M0 (k + kc) q l M → match notR c L sub m q with
  | .error e => ∃ M', fX6_not_l2 r fuel M (nI a) (nI kc) = some (0, M') ∧ frE P o s0 M0 M' ∧ gI M' 3 3 = nI e.1 ∧ gI M' 3 4 = nI e.2
  | .ok v => ∃ M', fX6_not_l2 r fuel M (nI a) (nI kc) = some (1, M') ∧ cX c L P o s0 M0 k v.2 (l ++ v.1 ++ List.replicate kc (-7)) M' := by
  have b46 : ∀ (kc k : Nat) (l : List Int32) (q : Nat) (M : Mem), kc ≤ 6 → cX c L P o s0 M0 (k + kc) q l M → match sub q with
      | .error e => ∃ M', fX6_not_b46 r M (nI a) (nI kc) = some (0, M') ∧ frE P o s0 M0 M' ∧ gI M' 3 3 = nI e.1 ∧ gI M' 3 4 = nI e.2
      | .ok v => ∃ M', fX6_not_b46 r M (nI a) (nI kc) = some (1, M') ∧ cX c L P o s0 M0 k v.2 (l ++ v.1 ++ List.replicate kc (-7)) M' := by
    intro kc k l q M hkc h
    have hh := hs (k + kc) l q M h
    cases hv : sub q with
    | error e =>
      rw [hv] at hh
      obtain ⟨M2, u1, u2⟩ := hh
      refine ⟨M2, ?_, u2⟩
      unfold fX6_not_b46
      rw [show fX6_test r M (nI a) = _ from u1, b2_s, if_pos rfl]
    | ok w =>
      rw [hv] at hh
      obtain ⟨M2, u1, u2⟩ := hh
      obtain ⟨M3, p1, p2⟩ := not58 (r := r) hX hkc kc 0 FU (l ++ w.1) M2 (by omega) (by show _ < 100000; omega) u2
      refine ⟨M3, ?_, p2⟩
      unfold fX6_not_b46
      rw [show fX6_test r M (nI a) = _ from u1, b2_s, if_neg (by decide)]
      exact p1
  intro m
  induction m with
  | zero =>
    intro kc fuel k l q M hk hf h
    obtain ⟨f, rfl⟩ : ∃ f, fuel = f + 1 := ⟨fuel - 1, by omega⟩
    have e6 : gR M 27 6 = 1000 + tW c L q := h.1.2.1.2.2.2.2.2
    have hwle := tW_le (c := c) (L := L) (q := q)
    have hb := b46 kc k l q M (by omega) h
    rw [fX6_not_l2, show (6 : Int32) = nI 6 from rfl, if_neg (show ¬ nI 6 < nI kc by rw [lt_nI (by omega) (by omega)]; omega), pu_s, e6, ck_t ⟨by omega, by omega⟩]
    unfold notR
    by_cases z : tW c L q = 13
    · rw [if_pos z, if_pos (show 1000 + tW c L q = 1013 by omega), if_pos (show nI kc = nI 6 by rw [show kc = 6 by omega])]
      exact refC (e := 2) h.1
    · rw [if_neg z, if_neg (show ¬ 1000 + tW c L q = 1013 by omega)]
      exact hb
  | succ m ih =>
    intro kc fuel k l q M hk hf h
    obtain ⟨f, rfl⟩ : ∃ f, fuel = f + 1 := ⟨fuel - 1, by omega⟩
    have e6 : gR M 27 6 = 1000 + tW c L q := h.1.2.1.2.2.2.2.2
    have hwle := tW_le (c := c) (L := L) (q := q)
    have hb := b46 kc k l q M (by omega) h
    rw [fX6_not_l2, show (6 : Int32) = nI 6 from rfl, if_neg (show ¬ nI 6 < nI kc by rw [lt_nI (by omega) (by omega)]; omega), pu_s, e6, ck_t ⟨by omega, by omega⟩]
    unfold notR
    by_cases z : tW c L q = 13
    · rw [if_pos z, if_pos (show 1000 + tW c L q = 1013 by omega), if_neg (show ¬ nI kc = nI 6 by rw [eq_nI (by omega) (by omega)]; omega)]
      have hk1 := tW_1 z (by decide)
      obtain ⟨M1, s1, s2⟩ := stepX hX h (by omega)
      have hh := ih (kc + 1) f k l (tN c L q) M1 (by omega) (by omega) s2
      rw [s1, b1_s, pu_s, nI_1]
      cases hv : notR c L sub m (tN c L q) with
      | error e =>
        rw [hv] at hh
        exact hh
      | ok w =>
        rw [hv] at hh
        obtain ⟨M2, u1, u2⟩ := hh
        refine ⟨M2, u1, ?_⟩
        dsimp only
        rw [List.replicate_succ] at u2
        rw [show l ++ (w.1 ++ [-7]) ++ List.replicate kc (-7) = l ++ w.1 ++ (-7 :: List.replicate kc (-7)) from by simp only [List.append_assoc, List.singleton_append]]
        exact u2
    · rw [if_neg z, if_neg (show ¬ 1000 + tW c L q = 1013 by omega)]
      exact hb
theorem notC {c : Nat → Nat} {L P o s0 : Nat} {M0 : Mem} (hX : HX P o M0) {r : Mem → Int32 → Option (Int32 × Mem)} {sub : Nat → RE} {a : Nat} (hs : LevC c L P o s0 M0 (fun M => fX6_test r M (nI a)) sub) : LevC c L P o s0 M0 (fun M => fX6_not r M (nI a)) (notR c L sub 6) := by
  intro k l q M h
  have hh := notC_l hX hs 6 0 FU k l q M (by omega) (by show _ < 100000; omega) h
  cases hv : notR c L sub 6 q with
  | error e =>
    rw [hv] at hh
    exact hh
  | ok w =>
    rw [hv] at hh
    obtain ⟨M2, u1, u2⟩ := hh
    rw [List.replicate_zero, List.append_nil] at u2
    exact ⟨M2, u1, u2⟩
theorem andC_l {c : Nat → Nat} {L P o s0 : Nat} {M0 : Mem} (hX : HX P o M0) {r : Mem → Int32 → Option (Int32 × Mem)} {sub : Nat → RE} {a : Nat} (hs : LevC c L P o s0 M0 (fun M => fX6_not r M (nI a)) sub) : ∀ (n i fuel k : Nat) (l0 l : List Int32) (q : Nat) (M : Mem), i + n = 700 → n < fuel → cX c L P o s0 M0 k q (l0 ++ l) M → match opL c L (opA c L) sub n l q with
  | .error e => ∃ M', fX6_and_l12 r fuel M (nI a) (nI i) = some (0, M') ∧ frE P o s0 M0 M' ∧ gI M' 3 3 = nI e.1 ∧ gI M' 3 4 = nI e.2
  | .ok v => ∃ M', fX6_and_l12 r fuel M (nI a) (nI i) = some (1, M') ∧ cX c L P o s0 M0 k v.2 (l0 ++ v.1) M' := by
  obtain ⟨kk1, kk2, kk3⟩ := hX.k
  intro n
  induction n with
  | zero =>
    intro i fuel k l0 l q M hi hf h
    obtain ⟨m, rfl⟩ : ∃ m, fuel = m + 1 := ⟨fuel - 1, by omega⟩
    refine ⟨M, ?_, h⟩
    rw [fX6_and_l12, show (700 : Int32) = nI 700 from rfl, if_neg (by rw [lt_nI (by omega) (by omega)]; omega)]
  | succ n ih =>
    intro i fuel k l0 l q M hi hf h
    obtain ⟨m, rfl⟩ : ∃ m, fuel = m + 1 := ⟨fuel - 1, by omega⟩
    have e6 : gR M 27 6 = 1000 + tW c L q := h.1.2.1.2.2.2.2.2
    have hwle := tW_le (c := c) (L := L) (q := q)
    unfold opL
    rw [fX6_and_l12, show (700 : Int32) = nI 700 from rfl, if_pos (by rw [lt_nI (by omega) (by omega)]; omega), pu_s, e6, ck_t ⟨by omega, by omega⟩]
    by_cases z : tW c L q = 12
    · have h0 : opA c L q = some (-9) := if_pos z
      rw [h0, if_pos (by omega)]
      obtain ⟨M1, s1, s2⟩ := stepX hX h (opA_0 (by rw [h0]; exact fun y => by cases y))
      have hh := hs (k + 1) (l0 ++ l) (tN c L q) M1 s2
      dsimp only
      cases hv : sub (tN c L q) with
      | error e =>
        rw [hv] at hh
        obtain ⟨M2, u1, u2⟩ := hh
        refine ⟨M2, ?_, u2⟩
        rw [s1, b1_s, show fX6_not r M1 (nI a) = _ from u1, b2_s, if_pos rfl]
      | ok w =>
        rw [hv] at hh
        obtain ⟨M2, u1, u2⟩ := hh
        obtain ⟨l2, q2⟩ := w
        obtain ⟨M3, a1, a2⟩ := appX (x := -9) hX u2 (by decide)
        have g7 : gR M2 3 7 = o := (u2.1.2.2.2.2.2.2.2 3 7 (by decide)).trans hX.2.2.2
        have a2' : cX c L P o s0 M0 k q2 (l0 ++ (l ++ l2 ++ [-9])) M3 := by
          rw [show l0 ++ (l ++ l2 ++ [-9]) = l0 ++ l ++ l2 ++ [-9] from by simp only [List.append_assoc]]
          exact a2
        dsimp only
        rw [s1, b1_s, show fX6_not r M1 (nI a) = _ from u1, b2_s, if_neg (by decide), pu_s, g7, ck_t kk2, a1, b1_s, pu_s, nI_1]
        exact ih (i + 1) m k l0 (l ++ l2 ++ [-9]) q2 M3 (by omega) (by omega) a2'
    · have h0 : opA c L q = none := if_neg z
      rw [h0, if_neg (by omega)]
      exact ⟨M, rfl, h⟩
theorem exprC_l {c : Nat → Nat} {L P o s0 : Nat} {M0 : Mem} (hX : HX P o M0) {r : Mem → Int32 → Option (Int32 × Mem)} {sub : Nat → RE} {a : Nat} (hs : LevC c L P o s0 M0 (fun M => fX6_and r M (nI a)) sub) : ∀ (n i fuel k : Nat) (l0 l : List Int32) (q : Nat) (M : Mem), i + n = 700 → n < fuel → cX c L P o s0 M0 k q (l0 ++ l) M → match opL c L (opO c L) sub n l q with
  | .error e => ∃ M', fX6_expr_l68 r fuel M (nI a) (nI i) = some (0, M') ∧ frE P o s0 M0 M' ∧ gI M' 3 3 = nI e.1 ∧ gI M' 3 4 = nI e.2
  | .ok v => ∃ M', fX6_expr_l68 r fuel M (nI a) (nI i) = some (1, M') ∧ cX c L P o s0 M0 k v.2 (l0 ++ v.1) M' := by
  obtain ⟨kk1, kk2, kk3⟩ := hX.k
  intro n
  induction n with
  | zero =>
    intro i fuel k l0 l q M hi hf h
    obtain ⟨m, rfl⟩ : ∃ m, fuel = m + 1 := ⟨fuel - 1, by omega⟩
    refine ⟨M, ?_, h⟩
    rw [fX6_expr_l68, show (700 : Int32) = nI 700 from rfl, if_neg (by rw [lt_nI (by omega) (by omega)]; omega)]
  | succ n ih =>
    intro i fuel k l0 l q M hi hf h
    obtain ⟨m, rfl⟩ : ∃ m, fuel = m + 1 := ⟨fuel - 1, by omega⟩
    have e6 : gR M 27 6 = 1000 + tW c L q := h.1.2.1.2.2.2.2.2
    have hwle := tW_le (c := c) (L := L) (q := q)
    unfold opL
    rw [fX6_expr_l68, show (700 : Int32) = nI 700 from rfl, if_pos (by rw [lt_nI (by omega) (by omega)]; omega), pu_s, e6, ck_t ⟨by omega, by omega⟩]
    by_cases z : tW c L q = 11
    · have h0 : opO c L q = some (-8) := if_pos z
      rw [h0, if_pos (by omega)]
      obtain ⟨M1, s1, s2⟩ := stepX hX h (opO_0 (by rw [h0]; exact fun y => by cases y))
      have hh := hs (k + 1) (l0 ++ l) (tN c L q) M1 s2
      dsimp only
      cases hv : sub (tN c L q) with
      | error e =>
        rw [hv] at hh
        obtain ⟨M2, u1, u2⟩ := hh
        refine ⟨M2, ?_, u2⟩
        rw [s1, b1_s, show fX6_and r M1 (nI a) = _ from u1, b2_s, if_pos rfl]
      | ok w =>
        rw [hv] at hh
        obtain ⟨M2, u1, u2⟩ := hh
        obtain ⟨l2, q2⟩ := w
        obtain ⟨M3, a1, a2⟩ := appX (x := -8) hX u2 (by decide)
        have g7 : gR M2 3 7 = o := (u2.1.2.2.2.2.2.2.2 3 7 (by decide)).trans hX.2.2.2
        have a2' : cX c L P o s0 M0 k q2 (l0 ++ (l ++ l2 ++ [-8])) M3 := by
          rw [show l0 ++ (l ++ l2 ++ [-8]) = l0 ++ l ++ l2 ++ [-8] from by simp only [List.append_assoc]]
          exact a2
        dsimp only
        rw [s1, b1_s, show fX6_and r M1 (nI a) = _ from u1, b2_s, if_neg (by decide), pu_s, g7, ck_t kk2, a1, b1_s, pu_s, nI_1]
        exact ih (i + 1) m k l0 (l ++ l2 ++ [-8]) q2 M3 (by omega) (by omega) a2'
    · have h0 : opO c L q = none := if_neg z
      rw [h0, if_neg (by omega)]
      exact ⟨M, rfl, h⟩
theorem andC {c : Nat → Nat} {L P o s0 : Nat} {M0 : Mem} (hX : HX P o M0) {r : Mem → Int32 → Option (Int32 × Mem)} {sub : Nat → RE} {a : Nat} (hs : LevC c L P o s0 M0 (fun M => fX6_not r M (nI a)) sub) : LevC c L P o s0 M0 (fun M => fX6_and r M (nI a)) (opsR c L (opA c L) sub) := by
  intro k l q M h
  have hh := hs k l q M h
  unfold opsR
  cases hv : sub q with
  | error e =>
    rw [hv] at hh
    obtain ⟨M2, u1, u2⟩ := hh
    refine ⟨M2, ?_, u2⟩
    show fX6_and r M (nI a) = _
    unfold fX6_and
    rw [show fX6_not r M (nI a) = _ from u1, b2_s, if_pos rfl]
  | ok w =>
    rw [hv] at hh
    obtain ⟨M2, u1, u2⟩ := hh
    obtain ⟨l2, q2⟩ := w
    have hl := andC_l hX hs 700 0 FU k l l2 q2 M2 (by omega) (by show _ < 100000; omega) u2
    have e : fX6_and r M (nI a) = fX6_and_l12 r FU M2 (nI a) (nI 0) := by
      unfold fX6_and
      rw [show fX6_not r M (nI a) = _ from u1, b2_s, if_neg (by decide)]
      rfl
    dsimp only
    rw [e]
    exact hl
theorem exprS_key {c : Nat → Nat} {L P o s0 : Nat} {M0 : Mem} {k q : Nat} {l : List Int32} {M : Mem} {r : Mem → Int32 → Option (Int32 × Mem)} {a : Nat} (ha : a ≤ 6) (h : cX0 c L P o s0 M0 k q l M) : fX6_expr_s r M (nI a) = if 6 ≤ a ∧ begB c L q = true then (b2 (fX6_refuse M (nI 2)) fun v Mq => zz v (some (v, Mq))) else fX6_expr_b56 r M (nI a) := by
  have e4 : gI M 27 4 = nI (tK c L q) := h.2.1.2.2.2.1
  have kle : tK c L q ≤ 61 := by rcases tK_cases (c := c) (L := L) (q := q) with z | z | z | z | z <;> omega
  have x1 : (nI (tK c L q) = 2) = (tK c L q = 2) := eq_nI (b := 2) (by omega) (by omega)
  have x2 : (nI (tK c L q) = 1) = (tK c L q = 1) := eq_nI (b := 1) (by omega) (by omega)
  have x3 : (nI (tK c L q) = 40) = (tK c L q = 40) := eq_nI (b := 40) (by omega) (by omega)
  have b39 : ∀ s : Int32, (s = 0 ↔ ¬ begB c L q = true) → fX6_expr_b39 r M (nI a) s = if 6 ≤ a ∧ begB c L q = true then (b2 (fX6_refuse M (nI 2)) fun v Mq => zz v (some (v, Mq))) else fX6_expr_b56 r M (nI a) := by
    intro s hs
    unfold fX6_expr_b39
    by_cases z : a < 6
    · rw [if_pos (by rw [show (6 : Int32) = nI 6 from rfl, lt_nI (by omega) (by omega)]; exact z), if_neg (fun y => by have := y.1; omega)]
    · rw [if_neg (by rw [show (6 : Int32) = nI 6 from rfl, lt_nI (by omega) (by omega)]; exact z)]
      by_cases w : begB c L q = true
      · rw [if_neg (fun y => hs.mp y w), if_pos ⟨by omega, w⟩]
        rfl
      · rw [if_pos (hs.mpr w), if_neg (fun y => w y.2)]
  have bt : (tK c L q = 2 ∨ tK c L q = 1 ∨ tK c L q = 40) → begB c L q = true := fun z => decide_eq_true z
  have bf : ¬ (tK c L q = 2 ∨ tK c L q = 1 ∨ tK c L q = 40) → ¬ begB c L q = true := fun z y => z (of_decide_eq_true y)
  unfold fX6_expr_s fX6_expr_b34
  rw [pu_s, e4]
  by_cases z1 : tK c L q = 2
  · rw [if_pos (x1.mpr z1)]
    exact b39 1 ⟨fun y => absurd y (by decide), fun y => absurd (bt (Or.inl z1)) y⟩
  · rw [if_neg (fun y => z1 (x1.mp y)), pu_s]
    by_cases z2 : tK c L q = 1
    · rw [if_pos (x2.mpr z2)]
      exact b39 1 ⟨fun y => absurd y (by decide), fun y => absurd (bt (Or.inr (Or.inl z2))) y⟩
    · rw [if_neg (fun y => z2 (x2.mp y)), pu_s]
      by_cases z3 : tK c L q = 40
      · rw [if_pos (x3.mpr z3)]
        exact b39 1 ⟨fun y => absurd y (by decide), fun y => absurd (bt (Or.inr (Or.inr z3))) y⟩
      · rw [if_neg (fun y => z3 (x3.mp y))]
        exact b39 0 ⟨fun _ => bf (by omega), fun _ => rfl⟩
theorem exprC {c : Nat → Nat} {L P o s0 : Nat} {M0 : Mem} (hX : HX P o M0) {r : Mem → Int32 → Option (Int32 × Mem)} {rr : Nat → Nat → RE} {a : Nat} (ha : a ≤ 6) (hr : LevC c L P o s0 M0 (fun M => r M (nI (a + 1))) (rr (a + 1))) : LevC c L P o s0 M0 (fun M => fX6_expr_s r M (nI a)) (expR c L (vfo P o) rr a) := by
  have hand : LevC c L P o s0 M0 (fun M => fX6_and r M (nI a)) (andR c L (vfo P o) rr a) := andC hX (notC hX (testC hX (sumC hX (productC hX (partC hX hr)))))
  have b56 : LevC c L P o s0 M0 (fun M => fX6_expr_b56 r M (nI a)) (opsR c L (opO c L) (andR c L (vfo P o) rr a)) := by
    intro k l q M h
    have hh := hand k l q M h
    unfold opsR
    cases hv : andR c L (vfo P o) rr a q with
    | error e =>
      rw [hv] at hh
      obtain ⟨M2, u1, u2⟩ := hh
      refine ⟨M2, ?_, u2⟩
      show fX6_expr_b56 r M (nI a) = _
      unfold fX6_expr_b56
      rw [show fX6_and r M (nI a) = _ from u1, b2_s, if_pos rfl]
    | ok w =>
      rw [hv] at hh
      obtain ⟨M2, u1, u2⟩ := hh
      obtain ⟨l2, q2⟩ := w
      have hl := exprC_l hX hand 700 0 FU k l l2 q2 M2 (by omega) (by show _ < 100000; omega) u2
      have e : fX6_expr_b56 r M (nI a) = fX6_expr_l68 r FU M2 (nI a) (nI 0) := by
        unfold fX6_expr_b56
        rw [show fX6_and r M (nI a) = _ from u1, b2_s, if_neg (by decide)]
        rfl
      dsimp only
      rw [e]
      exact hl
  intro k l q M h
  have hb := b56 k l q M h
  have key := exprS_key (r := r) (a := a) ha h.1
  unfold expR
  dsimp only
  rw [key]
  by_cases z : 6 ≤ a ∧ begB c L q = true
  · rw [if_pos z, if_pos z]
    exact refC (e := 2) h.1
  · rw [if_neg z, if_neg z]
    exact hb
theorem rexpC {c : Nat → Nat} {L P o s0 : Nat} {M0 : Mem} (hX : HX P o M0) : ∀ b a, a + b = 6 → LevC c L P o s0 M0 (fun M => fX6_expr (8 - a) M (nI a)) (rexp c L (vfo P o) (8 - a) a) := by
  intro b
  induction b with
  | zero =>
    intro a ha k l q M h
    have : a = 6 := by omega
    subst this
    have key := exprS_key (r := fX6_expr 1) (a := 6) (Nat.le_refl _) h.1
    rw [show rexp c L (vfo P o) (8 - 6) 6 q = .error (if begB c L q = true then 2 else 1, tP c L q) from rexp6 q]
    dsimp only
    rw [show fX6_expr (8 - 6) M (nI 6) = _ from key]
    by_cases hb : begB c L q = true
    · rw [if_pos ⟨Nat.le_refl _, hb⟩, if_pos hb]
      exact refC (e := 2) h.1
    · rw [if_neg (fun y => hb y.2), if_neg hb]
      have hk : ¬ (tK c L q = 2 ∨ tK c L q = 1 ∨ tK c L q = 40) := fun z => hb (decide_eq_true z)
      have hw : tW c L q = 22 := tW_k (by omega)
      have e4 : gI M 27 4 = nI (tK c L q) := h.1.2.1.2.2.2.1
      have e6 : gR M 27 6 = 1000 + tW c L q := h.1.2.1.2.2.2.2.2
      have kle : tK c L q ≤ 61 := by rcases tK_cases (c := c) (L := L) (q := q) with z | z | z | z | z <;> omega
      obtain ⟨M', r1, r2⟩ := refC (e := 1) h.1
      refine ⟨M', ?_, r2⟩
      have h1 : fX6_part (fX6_expr 1) M (nI 6) = some (0, M') := by
        unfold fX6_part
        rw [pu_s, e4, if_neg (by rw [show (2 : Int32) = nI 2 from rfl, eq_nI (by omega) (by omega)]; omega), pu_s, if_neg (by rw [show (1 : Int32) = nI 1 from rfl, eq_nI (by omega) (by omega)]; omega), pu_s, if_neg (by rw [show (40 : Int32) = nI 40 from rfl, eq_nI (by omega) (by omega)]; omega)]
        exact r1
      have h2 : fX6_product (fX6_expr 1) M (nI 6) = some (0, M') := by
        unfold fX6_product
        rw [h1, b2_s, if_pos rfl]
      have h3 : fX6_sum (fX6_expr 1) M (nI 6) = some (0, M') := by
        unfold fX6_sum
        rw [h2, b2_s, if_pos rfl]
      have h4 : fX6_test (fX6_expr 1) M (nI 6) = some (0, M') := by
        unfold fX6_test
        rw [h3, b2_s, if_pos rfl]
      have h5 : fX6_not (fX6_expr 1) M (nI 6) = some (0, M') := by
        unfold fX6_not
        rw [show FU = 99999 + 1 from rfl, fX6_not_l2, if_neg (by decide), pu_s, e6, ck_t ⟨by omega, by omega⟩, if_neg (by omega)]
        unfold fX6_not_b46
        rw [h4, b2_s, if_pos rfl]
      have h6 : fX6_and (fX6_expr 1) M (nI 6) = some (0, M') := by
        unfold fX6_and
        rw [h5, b2_s, if_pos rfl]
      unfold fX6_expr_b56
      rw [h6, b2_s, if_pos rfl]
  | succ b ih =>
    intro a ha
    have hd := ih (a + 1) (by omega)
    have h := exprC (a := a) hX (by omega) hd
    rw [show 8 - a = (8 - (a + 1)) + 1 by omega]
    exact h
