/-! TEXTS: lines as the class reads them -/
def ruleQ (M : Mem) (o cp : Nat) (l : List Int32) (q : Nat) : Prop := ∃ s : Nat, gI M o 1 = nI s ∧ gI M o 2 = nI (s + l.length) ∧ s + l.length ≤ q ∧ ∀ i, i < l.length → l[i]? = some (gI M cp (s + i))
def landQ (P : Nat) (A : LA) (q : Nat) (M : Mem) : Prop := (gI M P 0 = nI (aN A 0) ∧ gI M P 6 = nI (aN A 1) ∧ gI M P 8 = nI (aN A 2) ∧ gI M (P + 8) 0 = nI (aN A 3) ∧ gI M (P + 11) 0 = nI (aN A 4) ∧ ∀ b, b < 2 → gI M (P + 5) b = nI (aN A (5 + b))) ∧
  ((∀ d, d < aN A 0 → gI M (P + 1) d = aF A 0 d ∧ gI M (P + 2) d = aF A 1 d ∧ gI M (P + 3) d = aF A 2 d ∧ gI M (P + 4) d = aF A 3 d) ∧ (∀ i, i < aN A 1 → gI M (P + 6) i = aF A 4 i) ∧ (∀ i, i < aN A 2 → gI M (P + 7) i = aF A 5 i) ∧ (∀ i, i < aN A 3 → gI M (P + 9) i = aF A 6 i ∧ gI M (P + 10) i = aF A 7 i) ∧ (∀ i, i < aN A 4 → gI M (P + 12) i = aF A 8 i ∧ gI M (P + 13) i = aF A 9 i)) ∧
  (ruleQ M (P + 15) (P + 14) (aC A 0) q ∧ ruleQ M (P + 16) (P + 14) (aC A 1) q ∧ (gI M (P + 15) 3 = 0 ∨ gI M (P + 15) 3 = 1) ∧ (gI M (P + 15) 3 = 0 → ∀ x ∈ aC A 0, x ≠ -6))
theorem ruleQ.mv {M M' : Mem} {o cp : Nat} {l : List Int32} {q q' : Nat} (h : ruleQ M o cp l q) (hq : q ≤ q') (h1 : gI M' o 1 = gI M o 1) (h2 : gI M' o 2 = gI M o 2) (h3 : ∀ i, i < q → gI M' cp i = gI M cp i) : ruleQ M' o cp l q' := by
  obtain ⟨s, a1, a2, a3, a4⟩ := h
  exact ⟨s, h1.trans a1, h2.trans a2, by omega, fun i hi => by rw [h3 _ (by omega)]; exact a4 i hi⟩
theorem landQ.mv {P : Nat} {A : LA} {q q' : Nat} {M M' : Mem} (h : landQ P A q M) (hq : q ≤ q') (f : ∀ a j, P ≤ a → a ≤ P + 16 → gI M' a j = gI M a j) : landQ P A q' M' := by
  obtain ⟨⟨a1, a2, a3, a4, a5, a6⟩, ⟨b1', b2', b3', b4, b5⟩, ⟨c1, c2, c3, c4⟩⟩ := h
  refine ⟨⟨by rw [f _ _ (by omega) (by omega)]; exact a1, by rw [f _ _ (by omega) (by omega)]; exact a2, by rw [f _ _ (by omega) (by omega)]; exact a3, by rw [f _ _ (by omega) (by omega)]; exact a4, by rw [f _ _ (by omega) (by omega)]; exact a5, fun b hb => by rw [f _ _ (by omega) (by omega)]; exact a6 b hb⟩, ⟨fun d hd => ?_, fun i hi => ?_, fun i hi => ?_, fun i hi => ?_, fun i hi => ?_⟩, ⟨c1.mv hq (f _ _ (by omega) (by omega)) (f _ _ (by omega) (by omega)) (fun i _ => f _ _ (by omega) (by omega)), c2.mv hq (f _ _ (by omega) (by omega)) (f _ _ (by omega) (by omega)) (fun i _ => f _ _ (by omega) (by omega)), by rw [f _ _ (by omega) (by omega)]; exact c3, by rw [f _ _ (by omega) (by omega)]; exact c4⟩⟩
  · rw [f _ _ (by omega) (by omega), f _ _ (by omega) (by omega), f _ _ (by omega) (by omega), f _ _ (by omega) (by omega)]; exact b1' d hd
  · rw [f _ _ (by omega) (by omega)]; exact b2' i hi
  · rw [f _ _ (by omega) (by omega)]; exact b3' i hi
  · rw [f _ _ (by omega) (by omega), f _ _ (by omega) (by omega)]; exact b4 i hi
  · rw [f _ _ (by omega) (by omega), f _ _ (by omega) (by omega)]; exact b5 i hi
def frQ (P : Nat) (M M' : Mem) : Prop := (∀ a j, a ≠ 3 → (a < 21 ∨ 27 < a) → (a < P ∨ P + 16 < a) → gI M' a j = gI M a j) ∧ (∀ a j, a ≠ 27 → (a = 3 → j ≠ 7) → gR M' a j = gR M a j) ∧ (kd (gR M 3 7) = 7 → kd (gR M' 3 7) = 7)
theorem frQ.rf {P : Nat} {M : Mem} : frQ P M M := ⟨fun _ _ _ _ _ => rfl, fun _ _ _ _ => rfl, id⟩
theorem frQ.tr {P : Nat} {M M1 M2 : Mem} (h : frQ P M M1) (h2 : frQ P M1 M2) : frQ P M M2 := ⟨fun a j x y z => (h2.1 a j x y z).trans (h.1 a j x y z), fun a j x y => (h2.2.1 a j x y).trans (h.2.1 a j x y), fun w => h2.2.2 (h.2.2 w)⟩
theorem frQ.st {P : Nat} {M M1 : Mem} {a i : Nat} {v : Int32} (h : frQ P M M1) (ha : a = 3 ∨ (21 ≤ a ∧ a ≤ 27) ∨ (P ≤ a ∧ a ≤ P + 16)) : frQ P M (sI M1 a i v) := ⟨fun b j x y z => by rw [gI_sa (by omega)]; exact h.1 b j x y z, fun b j x y => h.2.1 b j x y, h.2.2⟩
theorem frT7.P {P : Nat} {M M1 : Mem} (h : frT7 M M1) : frQ P M M1 := ⟨fun a j _ y _ => h.1 a j (by omega), fun a j x _ => h.2 a j x, fun w => by rw [h.2 3 7 (by decide)]; exact w⟩
def HP (P : Nat) (M0 : Mem) : Prop := (P = 4 ∨ P = 29) ∧ gR M0 3 1 = P
theorem HP.k {P : Nat} {M0 : Mem} (h : HP P M0) : kd P = 4 ∧ kd (P + 15) = 7 ∧ kd (P + 16) = 7 ∧ kd (P + 8) = 3 ∧ kd (P + 11) = 3 ∧ rcT (P + 15) = P + 14 ∧ rcT (P + 16) = P + 14 := by
  rcases h.1 with e | e <;> subst e <;> decide
def pC (c : Nat → Nat) (L P : Nat) (M0 : Mem) (S : LNS) (q : Nat) (M : Mem) : Prop := tpC c L M ∧ tkC c L q M ∧ q ≤ L ∧ landQ P S.1 q M ∧ rC M 21 = S.2.1 ∧ gI M 3 5 = nI S.2.2 ∧ frQ P M0 M
def outC (c : Nat → Nat) (L P : Nat) (M0 : Mem) (x : Option (Int32 × Mem)) (r : RLN) : Prop := match r with
  | .error e => ∃ M', x = some (0, M') ∧ frQ P M0 M' ∧ gI M' 3 3 = nI e.1 ∧ gI M' 3 4 = nI e.2
  | .ok v => ∃ M', x = some (1, M') ∧ pC c L P M0 v.1 v.2 M'
theorem pC.gR {c : Nat → Nat} {L P : Nat} {M0 : Mem} {S : LNS} {q : Nat} {M : Mem} (hP : HP P M0) (h : pC c L P M0 S q M) : gR M 3 1 = P := (h.2.2.2.2.2.2.2.1 3 1 (by decide) (fun _ => by decide)).trans hP.2
theorem pC.tk {c : Nat → Nat} {L P : Nat} {M0 : Mem} {S : LNS} {q q' : Nat} {M M' : Mem} (hP : HP P M0) (h : pC c L P M0 S q M) (ht : tkC c L q' M') (hq : q ≤ q') (hq2 : q' ≤ L) (f : frT7 M M') : pC c L P M0 S q' M' := by
  obtain ⟨h1, h2, h3, h4, h5, h6, h7⟩ := h
  have := hP.1
  refine ⟨h1.fr f, ht, hq2, h4.mv hq (fun a j z1 z2 => f.1 a j (by omega)), ?_, by rw [f.1 3 5 (by decide)]; exact h6, h7.tr f.P⟩
  rw [← h5]
  funext j
  unfold rC
  by_cases hj : j < 31
  · have := pl_4 j hj
    rw [if_pos hj, if_pos hj, f.1 _ _ (by omega)]
  · rw [if_neg hj, if_neg hj]
theorem pC.step {c : Nat → Nat} {L P : Nat} {M0 : Mem} {S : LNS} {q : Nat} {M : Mem} (hP : HP P M0) (h : pC c L P M0 S q M) : ∃ M', fX10_step M = some M' ∧ pC c L P M0 S (tN c L q) M' ∧ frT7 M M' := by
  have p := tP_le (c := c) h.2.2.1
  have n := tN_le (c := c) h.2.2.1
  obtain ⟨M', s1, s2, s3⟩ := stepC h.1 n.2 h.2.1.1 h.2.1.2.1
  exact ⟨M', s1, h.tk hP s2 (by omega) n.2 s3, s3⟩
theorem pC.ref {c : Nat → Nat} {L P : Nat} {M0 : Mem} {S : LNS} {q : Nat} {M : Mem} {e : Nat} (h : pC c L P M0 S q M) : ∃ M', (b2 (fX6_refuse M (nI e)) fun v Mq => zz v (some (v, Mq))) = some (0, M') ∧ frQ P M0 M' ∧ gI M' 3 3 = nI e ∧ gI M' 3 4 = nI (tP c L q) := by
  refine ⟨sI (sI M 3 3 (nI e)) 3 4 (nI (tP c L q)), ?_, (h.2.2.2.2.2.2.st (Or.inl rfl)).st (Or.inl rfl), ?_, gI_ss⟩
  · unfold fX6_refuse
    rw [pu_s, pu_s, pu_s, gI_sa (by decide), h.2.1.2.2.1, b2_s, zz0]
  · rw [gI_sj (by decide), gI_ss]
theorem closeC {c : Nat → Nat} {L P : Nat} {M0 : Mem} {S : LNS} {q : Nat} {M : Mem} (hP : HP P M0) (h : pC c L P M0 S q M) : outC c L P M0 (fX6_close M) (closeR c L S q) := by
  have e4 : gI M 27 4 = nI (tK c L q) := h.2.1.2.2.2.1
  have kle : tK c L q ≤ 61 := by rcases tK_cases (c := c) (L := L) (q := q) with z | z | z | z | z <;> omega
  unfold fX6_close closeR
  rw [pu_s, e4]
  by_cases k : tK c L q = 59
  · obtain ⟨M', s1, s2, -⟩ := h.step hP
    rw [if_pos k, if_pos (by rw [k]; rfl)]
    exact ⟨M', by rw [s1, b1_s], s2⟩
  · rw [if_neg k, if_neg (by rw [show (59 : Int32) = nI 59 from rfl, eq_nI (by omega) (by omega)]; exact k)]
    exact h.ref (e := 1)
theorem outC.zz {c : Nat → Nat} {L P : Nat} {M0 : Mem} {x : Option (Int32 × Mem)} {r : RLN} (h : outC c L P M0 x r) : outC c L P M0 (b2 x fun v Mq => zz v (some (v, Mq))) r := by
  cases r with
  | error e =>
    obtain ⟨M', h1, h2⟩ := h
    exact ⟨M', by rw [h1, b2_s, zz0], h2⟩
  | ok v =>
    obtain ⟨M', h1, h2⟩ := h
    exact ⟨M', by rw [h1, b2_s, zz1], h2⟩
theorem outC.if1 {c : Nat → Nat} {L P : Nat} {M0 : Mem} {x : Option (Int32 × Mem)} {r : RLN} (h : outC c L P M0 x r) : outC c L P M0 (b2 x fun v Mq => if v = 0 then some (0, Mq) else some (1, Mq)) r := by
  cases r with
  | error e =>
    obtain ⟨M', h1, h2⟩ := h
    exact ⟨M', by rw [h1, b2_s, if_pos rfl], h2⟩
  | ok v =>
    obtain ⟨M', h1, h2⟩ := h
    exact ⟨M', by rw [h1, b2_s, if_neg (by decide)], h2⟩
theorem numC {c : Nat → Nat} {L P : Nat} {M0 : Mem} {S : LNS} {q i lo hi : Nat} {M : Mem} (hP : HP P M0) (h : pC c L P M0 S q M) (hi4 : i < 4) (hlo : lo ≤ 999) (hhi : hi ≤ 999) {K : Mem → Option (Int32 × Mem)} {k : Nat × Nat → RLN} (hk : ∀ a M1, numR c L lo hi q = .ok a → pC c L P M0 S a.2 M1 → gI M1 26 i = nI a.1 → (∀ j, j ≠ i → gI M1 26 j = gI M 26 j) → outC c L P M0 (K M1) (k a)) : outC c L P M0 (b2 (fX6_hear M (nI i) (nI lo) (nI hi)) fun vq Mq => if vq = 0 then some (0, Mq) else K Mq) (eb (numR c L lo hi q) k) := by
  have e4 : gI M 27 4 = nI (tK c L q) := h.2.1.2.2.2.1
  have e5 : gI M 27 5 = nI (tV c L q) := h.2.1.2.2.2.2.1
  have hv := (tV_le (c := c) (L := L) h.2.2.1).1
  have kle : tK c L q ≤ 61 := by rcases tK_cases (c := c) (L := L) (q := q) with z | z | z | z | z <;> omega
  have key : fX6_hear M (nI i) (nI lo) (nI hi) = fX6_hear_b35 M (nI i) (nI lo) (nI hi) 0 := by
    unfold fX6_hear fX6_hear_b20 fX6_hear_b21
    rw [if_neg (nI_pos (by omega)), if_pos rfl]
  rw [key]
  unfold fX6_hear_b35
  rw [pu_s, e4]
  by_cases k2 : tK c L q = 2
  · rw [if_pos (by rw [k2]; rfl), if_pos (show (0 : Int32) = 0 from rfl), pu_s, e5]
    unfold fX6_hear_b75 fX6_hear_b89 fX6_hear_b116
    have hnum : numR c L lo hi q = if tV c L q < lo ∨ hi < tV c L q then .error (2, tP c L q) else .ok (tV c L q, tN c L q) := if_pos k2
    by_cases z1 : tV c L q < lo
    · rw [hnum, if_pos (Or.inl z1), if_pos (by rw [lt_nI (by omega) (by omega)]; exact z1)]
      obtain ⟨M', r1, r2⟩ := h.ref (e := 2)
      exact ⟨M', by rw [show (b2 (fX6_refuse M 2) fun vq3 Mq4 => zz vq3 (some (vq3, Mq4))) = some (0, M') from r1, b2_s, if_pos rfl], r2⟩
    · rw [if_neg (by rw [lt_nI (by omega) (by omega)]; exact z1)]
      by_cases z2 : hi < tV c L q
      · rw [hnum, if_pos (Or.inr z2), if_pos (by rw [lt_nI (by omega) (by omega)]; exact z2)]
        obtain ⟨M', r1, r2⟩ := h.ref (e := 2)
        exact ⟨M', by rw [show (b2 (fX6_refuse M 2) fun vq3 Mq4 => zz vq3 (some (vq3, Mq4))) = some (0, M') from r1, b2_s, if_pos rfl], r2⟩
      · have hok : numR c L lo hi q = .ok (tV c L q, tN c L q) := by rw [hnum, if_neg (by rintro (y | y); exact z1 y; exact z2 y)]
        rw [if_neg (by rw [lt_nI (by omega) (by omega)]; exact z2), if_neg (nI_pos (by omega)), if_pos (by rw [show (4 : Int32) = nI 4 from rfl, lt_nI (by omega) (by omega)]; exact hi4), stI_nI hi4 (by decide)]
        have h' : pC c L P M0 S q (sI M 26 i (nI (tV c L q))) := by
          obtain ⟨a1, a2, a3, a4, a5, a6, a7⟩ := h
          have := hP.1
          refine ⟨⟨a1.1, fun j hj => ⟨(a1.2 j hj).1, by rw [gI_sa (by decide)]; exact (a1.2 j hj).2⟩⟩, ⟨by rw [gI_sa (by decide)]; exact a2.1, by rw [gI_sa (by decide)]; exact a2.2.1, by rw [gI_sa (by decide)]; exact a2.2.2.1, by rw [gI_sa (by decide)]; exact a2.2.2.2.1, by rw [gI_sa (by decide)]; exact a2.2.2.2.2.1, a2.2.2.2.2.2⟩, a3, a4.mv (Nat.le_refl _) (fun a j _ _ => gI_sa (by omega)), by rw [rC_n (by omega)]; exact a5, by rw [gI_sa (by decide)]; exact a6, a7.st (Or.inr (Or.inl (by omega)))⟩
        obtain ⟨M1, s1, s2, s3⟩ := h'.step hP
        rw [s1, b1_s, b2_s, if_neg (by decide)]
        have := hk (tV c L q, tN c L q) M1 hok s2 (by rw [s3.1 _ _ (by decide), gI_ss]) (fun j hj => by rw [s3.1 _ _ (by decide), gI_sj hj])
        rw [hok]
        exact this
  · have hnum : numR c L lo hi q = .error (1, tP c L q) := if_neg k2
    rw [if_neg (by rw [show (2 : Int32) = nI 2 from rfl, eq_nI (by omega) (by omega)]; exact k2), hnum]
    obtain ⟨M', r1, r2⟩ := h.ref (e := 1)
    exact ⟨M', by rw [show (b2 (fX6_refuse M 1) fun vq8 Mq9 => zz vq8 (some (vq8, Mq9))) = some (0, M') from r1, b2_s, if_pos rfl], r2⟩
theorem neg_lt {v m : Nat} (hv : v ≤ 10000) (hm : m ≤ 999) : (-(nI v) < -(nI m) ↔ m < v) ∧ ¬ nI m < -(nI v) ∧ ¬ nI v < -(nI m) ∧ (1 ≤ m → -(nI m) < 0) := by
  have e1 : (-(nI v)).toInt = -(v : Int) := by rw [(inZ_neg (inZ_nI (Nat.le_refl v) (by omega)) (by omega)).2, nI_toInt (by omega)]
  have e2 : (-(nI m)).toInt = -(m : Int) := by rw [(inZ_neg (inZ_nI (Nat.le_refl m) (by omega)) (by omega)).2, nI_toInt (by omega)]
  refine ⟨?_, ?_, ?_, fun h1 => ?_⟩
  · rw [Int32.lt_iff_toInt_lt, e1, e2]; omega
  · rw [Int32.lt_iff_toInt_lt, e1, nI_toInt (by omega)]; omega
  · rw [Int32.lt_iff_toInt_lt, e2, nI_toInt (by omega)]; omega
  · rw [Int32.lt_iff_toInt_lt, e2, show ((0 : Int32)).toInt = 0 from by decide]; omega
theorem sgnC {c : Nat → Nat} {L P : Nat} {M0 : Mem} {S : LNS} {q i m : Nat} {M : Mem} (hP : HP P M0) (h : pC c L P M0 S q M) (hi4 : i < 4) (hm1 : 1 ≤ m) (hm : m ≤ 999) {K : Mem → Option (Int32 × Mem)} {k : Int32 × Nat → RLN} (hk : ∀ a M1, sgnR c L m q = .ok a → pC c L P M0 S a.2 M1 → gI M1 26 i = a.1 → (∀ j, j ≠ i → gI M1 26 j = gI M 26 j) → outC c L P M0 (K M1) (k a)) : outC c L P M0 (b2 (fX6_hear M (nI i) (-(nI m)) (nI m)) fun vq Mq => if vq = 0 then some (0, Mq) else K Mq) (eb (sgnR c L m q) k) := by
  -- behind the sign
  have b35 : ∀ (s : Int32) (ng : Bool) (q1 : Nat) (N : Mem), (s = if ng = true then 1 else 0) → pC c L P M0 S q1 N → (∀ j, gI N 26 j = gI M 26 j) → sgnR c L m q = (eb (numR c L 0 m q1) fun a => .ok (if ng = true then -(nI a.1) else nI a.1, a.2)) → outC c L P M0 (b2 (fX6_hear_b35 N (nI i) (-(nI m)) (nI m) s) fun vq Mq => if vq = 0 then some (0, Mq) else K Mq) (eb (sgnR c L m q) k) := by
    intro s ng q1 N hs hN h26 hsg
    have e4 : gI N 27 4 = nI (tK c L q1) := hN.2.1.2.2.2.1
    have e5 : gI N 27 5 = nI (tV c L q1) := hN.2.1.2.2.2.2.1
    have hv := (tV_le (c := c) (L := L) hN.2.2.1).1
    have kle : tK c L q1 ≤ 61 := by rcases tK_cases (c := c) (L := L) (q := q1) with z | z | z | z | z <;> omega
    obtain ⟨l1, l2, l3, l4⟩ := neg_lt hv hm
    unfold fX6_hear_b35
    rw [pu_s, e4]
    by_cases k2 : tK c L q1 = 2
    · have hnum : numR c L 0 m q1 = if m < tV c L q1 then .error (2, tP c L q1) else .ok (tV c L q1, tN c L q1) := by
        unfold numR
        rw [if_pos k2]
        by_cases y : m < tV c L q1
        · rw [if_pos y, if_pos (Or.inr y)]
        · rw [if_neg y, if_neg (by rintro (w | w); omega; exact y w)]
      have b75 : outC c L P M0 (b2 (fX6_hear_b75 N (nI i) (-(nI m)) (nI m) (if ng = true then -(nI (tV c L q1)) else nI (tV c L q1))) fun vq Mq => if vq = 0 then some (0, Mq) else K Mq) (eb (sgnR c L m q) k) := by
        by_cases z : m < tV c L q1
        · have hb89 : fX6_hear_b75 N (nI i) (-(nI m)) (nI m) (if ng = true then -(nI (tV c L q1)) else nI (tV c L q1)) = (b2 (fX6_refuse N (nI 2)) fun v Mq => zz v (some (v, Mq))) := by
            unfold fX6_hear_b75 fX6_hear_b89
            cases ng with
            | true =>
              rw [if_pos rfl, if_pos (l1.mpr z)]
              rfl
            | false =>
              rw [if_neg Bool.false_ne_true, if_neg l3, if_pos (by rw [lt_nI (by omega) (by omega)]; exact z)]
              rfl
          rw [hb89, hsg, hnum, if_pos z]
          obtain ⟨M', r1, r2⟩ := hN.ref (e := 2)
          exact ⟨M', by rw [r1, b2_s, if_pos rfl], r2⟩
        · have hok : sgnR c L m q = .ok (if ng = true then -(nI (tV c L q1)) else nI (tV c L q1), tN c L q1) := by
            rw [hsg, hnum, if_neg z]
            rfl
          have h' : ∀ w, pC c L P M0 S q1 (sI N 26 i w) := by
            intro w
            obtain ⟨a1, a2, a3, a4, a5, a6, a7⟩ := hN
            have := hP.1
            exact ⟨⟨a1.1, fun j hj => ⟨(a1.2 j hj).1, by rw [gI_sa (by decide)]; exact (a1.2 j hj).2⟩⟩, ⟨by rw [gI_sa (by decide)]; exact a2.1, by rw [gI_sa (by decide)]; exact a2.2.1, by rw [gI_sa (by decide)]; exact a2.2.2.1, by rw [gI_sa (by decide)]; exact a2.2.2.2.1, by rw [gI_sa (by decide)]; exact a2.2.2.2.2.1, a2.2.2.2.2.2⟩, a3, a4.mv (Nat.le_refl _) (fun a j _ _ => gI_sa (by omega)), by rw [rC_n (by omega)]; exact a5, by rw [gI_sa (by decide)]; exact a6, a7.st (Or.inr (Or.inl (by omega)))⟩
          obtain ⟨M1, s1, s2, s3⟩ := (h' (if ng = true then -(nI (tV c L q1)) else nI (tV c L q1))).step hP
          have hb : fX6_hear_b75 N (nI i) (-(nI m)) (nI m) (if ng = true then -(nI (tV c L q1)) else nI (tV c L q1)) = some (1, M1) := by
            have hb2 : fX6_hear_b75 N (nI i) (-(nI m)) (nI m) (if ng = true then -(nI (tV c L q1)) else nI (tV c L q1)) = fX6_hear_b116 (sI N 26 i (if ng = true then -(nI (tV c L q1)) else nI (tV c L q1))) := by
              unfold fX6_hear_b75
              cases ng with
              | true =>
                rw [if_pos rfl, if_neg (fun y => z (l1.mp y)), if_neg l2, if_neg (nI_pos (by omega)), if_pos (by rw [show (4 : Int32) = nI 4 from rfl, lt_nI (by omega) (by omega)]; exact hi4), stI_nI hi4 (by decide)]
              | false =>
                rw [if_neg Bool.false_ne_true, if_neg l3, if_neg (by rw [lt_nI (by omega) (by omega)]; exact z), if_neg (nI_pos (by omega)), if_pos (by rw [show (4 : Int32) = nI 4 from rfl, lt_nI (by omega) (by omega)]; exact hi4), stI_nI hi4 (by decide)]
            rw [hb2]
            unfold fX6_hear_b116
            rw [s1, b1_s]
          rw [hb, b2_s, if_neg (by decide)]
          have := hk _ M1 hok s2 (by rw [s3.1 _ _ (by decide), gI_ss]) (fun j hj => by rw [s3.1 _ _ (by decide), gI_sj hj, h26])
          rw [hok]
          exact this
      rw [if_pos (by rw [k2]; rfl)]
      cases ng with
      | true =>
        rw [hs, if_pos rfl, if_neg (by decide), pu_s, e5]
        exact b75
      | false =>
        rw [hs, if_neg Bool.false_ne_true, if_pos rfl, pu_s, e5]
        exact b75
    · have hnum : numR c L 0 m q1 = .error (1, tP c L q1) := if_neg k2
      rw [if_neg (by rw [show (2 : Int32) = nI 2 from rfl, eq_nI (by omega) (by omega)]; exact k2), hsg, hnum]
      obtain ⟨M', r1, r2⟩ := hN.ref (e := 1)
      exact ⟨M', by rw [show (b2 (fX6_refuse N 1) fun vq8 Mq9 => zz vq8 (some (vq8, Mq9))) = some (0, M') from r1, b2_s, if_pos rfl], r2⟩
  have e4 : gI M 27 4 = nI (tK c L q) := h.2.1.2.2.2.1
  have kle : tK c L q ≤ 61 := by rcases tK_cases (c := c) (L := L) (q := q) with z | z | z | z | z <;> omega
  have l4 := (neg_lt (v := 0) (by omega) hm).2.2.2 hm1
  by_cases k45 : tK c L q = 45
  · obtain ⟨M1, s1, s2, s3⟩ := h.step hP
    have key : fX6_hear M (nI i) (-(nI m)) (nI m) = fX6_hear_b35 M1 (nI i) (-(nI m)) (nI m) 1 := by
      unfold fX6_hear fX6_hear_b21
      rw [if_pos l4, pu_s, e4, if_pos (by rw [k45]; rfl), if_neg (by decide), s1, b1_s]
    rw [key]
    exact b35 1 true (tN c L q) M1 rfl s2 (fun j => s3.1 _ _ (by decide)) (by unfold sgnR; rw [if_pos k45]; rfl)
  · have key : fX6_hear M (nI i) (-(nI m)) (nI m) = fX6_hear_b35 M (nI i) (-(nI m)) (nI m) 0 := by
      unfold fX6_hear fX6_hear_b20 fX6_hear_b21
      rw [if_pos l4, pu_s, e4, if_neg (by rw [show (45 : Int32) = nI 45 from rfl, eq_nI (by omega) (by omega)]; exact k45), if_pos rfl]
    rw [key]
    exact b35 0 false q M rfl h (fun _ => rfl) (by unfold sgnR; rw [if_neg k45]; rfl)
