/-! TEXTS: lines as the reference reads them -/
def ruleN (M : Mem) (f : Nat) (km : Nat → Nat) (l : List Int32) (top : Nat) : Prop := (l = [] → gI M 103 f = -1) ∧ (l ≠ [] → ∃ p e : Nat, gI M 103 f = nI p ∧ encP (gI M 130) km l p e ∧ gI M 130 e = 0 ∧ e < top)
def landN (A : LA) (q : Nat) (M : Mem) : Prop := (gI M 103 33 = nI (aN A 0) ∧ gI M 103 34 = nI (aN A 1) ∧ gI M 103 35 = nI (aN A 2) ∧ gI M 103 36 = nI (aN A 3) ∧ gI M 103 37 = nI (aN A 4) ∧ ∀ b, b < 2 → gI M 122 b = nI (aN A (5 + b))) ∧
  ((∀ d, d < aN A 0 → gI M 118 d = aF A 0 d ∧ gI M 119 d = aF A 1 d ∧ gI M 120 d = aF A 2 d ∧ gI M 121 d = aF A 3 d) ∧ (∀ i, i < aN A 1 → gI M 123 i = aF A 4 i) ∧ (∀ i, i < aN A 2 → gI M 124 i = aF A 5 i) ∧ (∀ i, i < aN A 3 → gI M 125 i = aF A 6 i ∧ gI M 126 i = aF A 7 i) ∧ (∀ i, i < aN A 4 → gI M 127 i = aF A 8 i ∧ gI M 128 i = aF A 9 i)) ∧
  ∃ top : Nat, gI M 103 40 = nI top ∧ top ≤ 2 * q ∧ ruleN M 38 kmS (aC A 0) top ∧ ruleN M 39 kmL (aC A 1) top
def mskN (m : Nat) (M : Mem) : Prop := gI M 103 45 = (if m.testBit 0 = true then 1 else 0) ∧ gI M 103 46 = (if m.testBit 4 = true then 1 else 0)
def frR (M M' : Mem) : Prop := (∀ a j, (a = 103 → j < 22 ∨ 46 < j) → (a < 118 ∨ 132 < a) → gI M' a j = gI M a j) ∧ M'.2.2 = M.2.2 ∧ (gI M' 103 22 = 0 → gI M 103 22 = 0 ∧ gI M' 103 23 = gI M 103 23)
theorem frR.rf {M : Mem} : frR M M := ⟨fun _ _ _ _ => rfl, rfl, fun z => ⟨z, rfl⟩⟩
theorem frR.tr {M M1 M2 : Mem} (h : frR M M1) (h2 : frR M1 M2) : frR M M2 := ⟨fun a j x y => (h2.1 a j x y).trans (h.1 a j x y), h2.2.1.trans h.2.1, fun w => ⟨(h.2.2 (h2.2.2 w).1).1, (h2.2.2 w).2.trans (h.2.2 (h2.2.2 w).1).2⟩⟩
theorem frR.wr {M M1 : Mem} {e : Nat} {v : Int32} (h : frR M M1) (he : 1 ≤ e) (he2 : e < 10) : frR M (sI (sI M1 103 22 (nI e)) 103 23 v) := ⟨fun b j x y => by
  rw [gI_sI, if_neg (fun w => by have := x w.1; omega), gI_sI, if_neg (fun w => by have := x w.1; omega)]
  exact h.1 b j x y, h.2.1, fun w => by
  rw [gI_sj (by decide), gI_ss] at w
  exact absurd w (nI_ne0 (by omega) (by omega))⟩
theorem frR.st {M M1 : Mem} {a i : Nat} {v : Int32} (h : frR M M1) (ha : (a = 103 ∧ 24 ≤ i ∧ i ≤ 46) ∨ (118 ≤ a ∧ a ≤ 132)) : frR M (sI M1 a i v) := ⟨fun b j x y => by
  rw [gI_sI, if_neg]
  · exact h.1 b j x y
  · rintro ⟨q1, q2⟩
    subst q1; subst q2
    rcases ha with ⟨e1, e2⟩ | e1
    · have := x e1; omega
    · omega, h.2.1, fun w => by
  rw [gI_sI, if_neg (by omega)] at w ⊢
  exact h.2.2 w⟩
theorem frG.R {M M1 : Mem} (h : frG M M1) : frR M M1 := ⟨fun a j x _ => h.1 a j (fun e => by have := x e; omega), h.2, fun w => ⟨(h.1 103 22 (fun _ => by decide)).symm.trans w, h.1 103 23 (fun _ => by decide)⟩⟩
theorem frX.R {p0 : Nat} {M M1 : Mem} (h : frX p0 M M1) : frR M M1 := ⟨fun a j x y => h.1 a j (fun e => by have := x e; omega) (by omega) (by omega) (fun e => by omega), h.2⟩
def pM (c : Nat → Nat) (L : Nat) (M0 : Mem) (S : LNS) (q : Nat) (M : Mem) : Prop := tpM c L M ∧ tkM c L q M ∧ q ≤ L ∧ gI M 103 22 = 0 ∧ landN S.1 q M ∧ rA M 129 0 = S.2.1 ∧ mskN S.2.2 M ∧ frR M0 M
def fS (e : Nat × Nat) (M0 M : Mem) : Prop := gI M 103 22 = nI e.1 ∧ gI M 103 23 = nI e.2 ∧ 1 ≤ e.1 ∧ e.1 < 10 ∧ frR M0 M
def ouF (M0 : Mem) (x : Option Mem) (e : Nat × Nat) : Prop := ∃ M', x = some M' ∧ fS e M0 M'
def ouM (c : Nat → Nat) (L : Nat) (M0 : Mem) (x : Option Mem) (r : RLN) : Prop := match r with
  | .error e => ouF M0 x e
  | .ok v => ∃ M', x = some M' ∧ pM c L M0 v.1 v.2 M'
def frNb (M M' : Mem) : Prop := ∀ a j, (a = 103 → j < 22 ∨ 31 < j) → gI M' a j = gI M a j
theorem frG.N {M M' : Mem} (h : frG M M') : frNb M M' := fun a j x => h.1 a j (fun e => by have := x e; omega)
theorem frNb.tr {M M1 M2 : Mem} (h : frNb M M1) (h2 : frNb M1 M2) : frNb M M2 := fun a j x => (h2 a j x).trans (h a j x)
theorem ruleN.mv {M M' : Mem} {f : Nat} {km : Nat → Nat} {l : List Int32} {top top' : Nat} (h : ruleN M f km l top) (ht : top ≤ top') (h1 : gI M' 103 f = gI M 103 f) (h2 : ∀ i, i < top → gI M' 130 i = gI M 130 i) : ruleN M' f km l top' := by
  refine ⟨fun z => h1.trans (h.1 z), fun z => ?_⟩
  obtain ⟨p, e, a1, a2, a3, a4⟩ := h.2 z
  exact ⟨p, e, h1.trans a1, encP_c _ _ _ a2 (fun i _ i2 => h2 i (by omega)), (h2 e a4).trans a3, by omega⟩
theorem landN.mv {A : LA} {q q' : Nat} {M M' : Mem} (h : landN A q M) (hq : q ≤ q') (f : ∀ a j, (a = 103 ∧ 33 ≤ j ∧ j ≤ 40) ∨ (118 ≤ a ∧ a ≤ 128) ∨ a = 130 → gI M' a j = gI M a j) : landN A q' M' := by
  obtain ⟨⟨a1, a2, a3, a4, a5, a6⟩, ⟨b1', b2', b3', b4, b5⟩, top, c1, c2, c3, c4⟩ := h
  refine ⟨⟨by rw [f _ _ (by omega)]; exact a1, by rw [f _ _ (by omega)]; exact a2, by rw [f _ _ (by omega)]; exact a3, by rw [f _ _ (by omega)]; exact a4, by rw [f _ _ (by omega)]; exact a5, fun b hb => by rw [f _ _ (by omega)]; exact a6 b hb⟩, ⟨fun d hd => ?_, fun i hi => ?_, fun i hi => ?_, fun i hi => ?_, fun i hi => ?_⟩, top, by rw [f _ _ (by omega)]; exact c1, by omega, c3.mv (Nat.le_refl _) (f _ _ (by omega)) (fun i _ => f _ _ (by omega)), c4.mv (Nat.le_refl _) (f _ _ (by omega)) (fun i _ => f _ _ (by omega))⟩
  · rw [f _ _ (by omega), f _ _ (by omega), f _ _ (by omega), f _ _ (by omega)]; exact b1' d hd
  · rw [f _ _ (by omega)]; exact b2' i hi
  · rw [f _ _ (by omega)]; exact b3' i hi
  · rw [f _ _ (by omega), f _ _ (by omega)]; exact b4 i hi
  · rw [f _ _ (by omega), f _ _ (by omega)]; exact b5 i hi
theorem rA_up {M : Mem} {i : Nat} {v : Int32} (h : i < 31) : rA (sI M 129 i v) 129 0 = upd (rA M 129 0) i v := by
  funext j
  rw [upd_a]
  unfold rA
  by_cases hj : j < 31
  · rw [if_pos hj, if_pos hj, Nat.zero_add]
    by_cases e : j = i
    · rw [if_pos e, e, gI_ss]
    · rw [if_neg e, gI_sj e]
  · rw [if_neg hj, if_neg hj, if_neg (by omega)]
theorem putM {c : Nat → Nat} {L : Nat} {M0 : Mem} {S S' : LNS} {q : Nat} {M M' : Mem} (h : pM c L M0 S q M) (f : ∀ a j, (a = 103 ∧ 22 ≤ j ∧ j ≤ 31) ∨ a = 116 → gI M' a j = gI M a j) (fl : gL M' 103 32 = gL M 103 32) (hl : landN S'.1 q M') (hr : rA M' 129 0 = S'.2.1) (hm : mskN S'.2.2 M') (hf : frR M M') : pM c L M0 S' q M' := by
  obtain ⟨a1, a2, a3, a4, a5, a6, a7, a8⟩ := h
  exact ⟨a1.mv (f _ _ (by omega)) (fun j => f _ _ (by omega)), a2.mv (fun j j1 j2 => f _ _ (by omega)) fl, a3, (f _ _ (by omega)).trans a4, hl, hr, hm, a8.tr hf⟩
theorem pM.go {c : Nat → Nat} {L : Nat} {M0 : Mem} {S : LNS} {q : Nat} {M : Mem} (h : pM c L M0 S q M) : ∃ M', fX13_goes M = some M' ∧ pM c L M0 S (tN c L q) M' ∧ frG M M' := by
  obtain ⟨a1, a2, a3, a4, a5, a6, a7, a8⟩ := h
  have n := tN_le (c := c) a3
  have p := tP_le (c := c) a3
  obtain ⟨M', s1, s2, s3⟩ := goesM a1 n.2 a2.1
  refine ⟨M', s1, ⟨a1.fr s3, s2, n.2, (s3.1 _ _ (fun _ => by omega)).trans a4, a5.mv (by omega) (fun a j z => s3.1 a j (fun e => by omega)), ?_, ⟨(s3.1 _ _ (fun _ => by omega)).trans a7.1, (s3.1 _ _ (fun _ => by omega)).trans a7.2⟩, a8.tr s3.R⟩, s3⟩
  rw [← a6]
  exact rA_mv (fun j => s3.1 _ _ (fun e => absurd e (by decide)))
theorem pM.wr {c : Nat → Nat} {L : Nat} {M0 : Mem} {S : LNS} {q : Nat} {M : Mem} (h : pM c L M0 S q M) {e : Nat} (he : 1 ≤ e) (he2 : e < 10) : ∃ M', fX13_wrong M (nI e) = some M' ∧ fS (e, tP c L q) M0 M' ∧ frNb M M' := by
  obtain ⟨a1, a2, a3, a4, a5, a6, a7, a8⟩ := h
  exact ⟨_, wrong_ok a4 a2.2.2.1, ⟨by rw [gI_sj (by decide), gI_ss], gI_ss, he, he2, a8.wr he he2⟩, fun a j x => by rw [gI_sI, if_neg (fun y => by have := x y.1; omega), gI_sI, if_neg (fun y => by have := x y.1; omega)]⟩
theorem pM.g {c : Nat → Nat} {L : Nat} {M0 : Mem} {S : LNS} {q : Nat} {M : Mem} (h : pM c L M0 S q M) : fX13_isGood M = some 1 := good_1 h.2.2.2.1
theorem fS.g {e : Nat × Nat} {M0 M : Mem} (h : fS e M0 M) : fX13_isGood M = some 0 := good_0 h.1 h.2.2.1 h.2.2.2.1
theorem fS.st {e : Nat × Nat} {M0 M : Mem} {a i : Nat} {v : Int32} (h : fS e M0 M) (ha : (a = 103 ∧ 24 ≤ i ∧ i ≤ 46) ∨ (118 ≤ a ∧ a ≤ 132)) : fS e M0 (sI M a i v) := by
  obtain ⟨a1, a2, a3, a4, a5⟩ := h
  exact ⟨by rw [gI_sI, if_neg (by omega)]; exact a1, by rw [gI_sI, if_neg (by omega)]; exact a2, a3, a4, a5.st (by omega)⟩
theorem fS.num {e : Nat × Nat} {M0 M : Mem} (h : fS e M0 M) (lo hi : Int32) : fX13_number M lo hi = some (0, M) := by
  unfold fX13_number
  rw [h.g, b1_s, if_pos rfl]
theorem sgn_t (M : Mem) (k : Int32) : ∃ v, fX13_isSign M k = some v := by
  unfold fX13_isSign
  by_cases h : gI M 103 27 = 3
  · by_cases h2 : gI M 103 31 = k
    · exact ⟨1, by rw [pu_s, if_pos h, pu_s, if_pos h2]⟩
    · exact ⟨0, by rw [pu_s, if_pos h, pu_s, if_neg h2]⟩
  · exact ⟨0, by rw [pu_s, if_neg h]⟩
theorem fS.sgn {e : Nat × Nat} {M0 M : Mem} (h : fS e M0 M) (m : Int32) : ∃ w, fX13_signed M m = some (w, M) := by
  obtain ⟨v, hv⟩ := sgn_t M 45
  unfold fX13_signed
  rw [hv, b1_s, h.g, b1_s, if_pos rfl]
  unfold fX13_signed_b22
  rw [h.num, b2_s]
  by_cases z : v = 0
  · exact ⟨_, by rw [if_pos z]⟩
  · exact ⟨_, by rw [if_neg z]⟩
theorem fS.cl {e : Nat × Nat} {M0 M : Mem} (h : fS e M0 M) : ouF M0 (fX13_line_b263 M) e := by
  obtain ⟨v, hv⟩ := sgn_t M 59
  unfold fX13_line_b263 fX13_need
  rw [hv, b1_s, h.g, b1_s, if_pos rfl, b1_s]
  exact ⟨M, rfl, h⟩
theorem ouF.cl {e : Nat × Nat} {M0 : Mem} {x : Option Mem} (h : ouF M0 x e) : ouF M0 (b1 x fun M => fX13_line_b263 M) e := by
  obtain ⟨M', h1, h2⟩ := h
  rw [h1, b1_s]
  exact h2.cl
theorem closeM {c : Nat → Nat} {L : Nat} {M0 : Mem} {S : LNS} {q : Nat} {M : Mem} (h : pM c L M0 S q M) : ouM c L M0 (fX13_line_b263 M) (closeR c L S q) := by
  unfold fX13_line_b263 fX13_need closeR
  rw [show fX13_isSign M 59 = some (if tK c L q = 59 then 1 else 0) from isSign_ok h.2.1 (by decide), b1_s, h.g, b1_s, if_neg (by decide)]
  by_cases k : tK c L q = 59
  · rw [if_pos k, if_pos k, if_neg (by decide)]
    obtain ⟨M', s1, s2, -⟩ := h.go
    rw [s1, b1_s, b1_s]
    exact ⟨M', rfl, s2⟩
  · rw [if_neg k, if_neg k, if_pos rfl]
    obtain ⟨M', s1, s2⟩ := h.wr (e := 1) (by decide) (by decide)
    rw [show fX13_wrong M 1 = some M' from s1, b1_s, b1_s]
    exact ⟨M', rfl, s2.1⟩
theorem ouM.cl {c : Nat → Nat} {L : Nat} {M0 : Mem} {x : Option Mem} {r : RLN} (h : ouM c L M0 x r) : ouM c L M0 (b1 x fun M => fX13_line_b263 M) (eb r fun v => closeR c L v.1 v.2) := by
  cases r with
  | error e => exact ouF.cl h
  | ok v =>
    obtain ⟨M', h1, h2⟩ := h
    rw [h1, b1_s]
    exact closeM h2
theorem numM {c : Nat → Nat} {L : Nat} {M0 : Mem} {S : LNS} {q lo hi : Nat} {M : Mem} (h : pM c L M0 S q M) (hlo : lo ≤ 999) (hhi : hi ≤ 999) : match numR c L lo hi q with
    | .error e => ∃ w M', fX13_number M (nI lo) (nI hi) = some (w, M') ∧ fS e M0 M' ∧ frNb M M'
    | .ok a => ∃ M', fX13_number M (nI lo) (nI hi) = some (nI a.1, M') ∧ pM c L M0 S a.2 M' ∧ frG M M' := by
  have hq := h.2.2.1
  have hL := h.1.1
  have n := tN_le (c := c) hq
  have e29 : gI M 103 29 = nI (tN c L q - tP c L q) := h.2.1.2.2.2.1
  have e30 := h.2.1.2.2.2.2.1
  have hv := (tV_le (c := c) (L := L) hq).1
  have hb54 : ∀ {e : Nat × Nat} {M' : Mem}, fS e M0 M' → fX13_number_b54 M' = some (gI M' 103 30, M') := fun h' => by
    unfold fX13_number_b54
    rw [pu_s, h'.g, b1_s, if_pos rfl]
  unfold fX13_number numR
  rw [h.g, b1_s, if_neg (show ¬ (1 : Int32) = 0 by decide), pu_s]
  by_cases k2 : tK c L q = 2
  · rw [if_pos k2, if_pos ((sort2 h.2.1).1.mpr k2), pu_s, e29]
    have b49 : ∃ w M', fX13_number_b49 M = some (w, M') ∧ fS (2, tP c L q) M0 M' ∧ frNb M M' := by
      obtain ⟨M', s1, s2⟩ := h.wr (e := 2) (by decide) (by decide)
      exact ⟨_, M', by unfold fX13_number_b49; rw [show fX13_wrong M 2 = some M' from s1, b1_s, hb54 s2.1], s2⟩
    rw [if_pos k2] at e30
    by_cases z4 : 4 < tN c L q - tP c L q
    · have hV : tV c L q = 10000 := by unfold tV; rw [if_pos k2, if_pos z4]
      rw [if_pos (show tV c L q < lo ∨ hi < tV c L q from Or.inr (show hi < tV c L q by omega)), if_pos (show (4 : Int32) < nI (tN c L q - tP c L q) by rw [show (4 : Int32) = nI 4 from rfl, lt_nI (by omega) (by omega)]; exact z4)]
      exact b49
    · have hV : tV c L q = dgv c (tP c L q) (tN c L q - tP c L q) := by unfold tV; rw [if_pos k2, if_neg z4]
      rw [Nat.min_eq_right (by omega), ← hV] at e30
      rw [if_neg (show ¬ (4 : Int32) < nI (tN c L q - tP c L q) by rw [show (4 : Int32) = nI 4 from rfl, lt_nI (by omega) (by omega)]; exact z4), pu_s, e30]
      by_cases z1 : tV c L q < lo
      · rw [if_pos (show tV c L q < lo ∨ hi < tV c L q from Or.inl z1), if_pos (show nI (tV c L q) < nI lo by rw [lt_nI (by omega) (by omega)]; exact z1)]
        exact b49
      · rw [if_neg (show ¬ nI (tV c L q) < nI lo by rw [lt_nI (by omega) (by omega)]; exact z1), pu_s]
        by_cases z2 : hi < tV c L q
        · rw [if_pos (show tV c L q < lo ∨ hi < tV c L q from Or.inr z2), if_pos (show nI hi < nI (tV c L q) by rw [lt_nI (by omega) (by omega)]; exact z2)]
          exact b49
        · rw [if_neg (show ¬ (tV c L q < lo ∨ hi < tV c L q) by rintro (y | y); exact z1 y; exact z2 y), if_neg (show ¬ nI hi < nI (tV c L q) by rw [lt_nI (by omega) (by omega)]; exact z2)]
          obtain ⟨M', s1, s2, s3⟩ := h.go
          refine ⟨M', ?_, s2, s3⟩
          unfold fX13_number_b54
          rw [pu_s, h.g, b1_s, if_neg (show ¬ (1 : Int32) = 0 by decide), s1, b1_s, e30]
  · rw [if_neg k2, if_neg (fun y => k2 ((sort2 h.2.1).1.mp y))]
    obtain ⟨M', s1, s2⟩ := h.wr (e := 1) (by decide) (by decide)
    exact ⟨_, M', by rw [show fX13_wrong M 1 = some M' from s1, b1_s, hb54 s2.1], s2⟩
theorem sgnM {c : Nat → Nat} {L : Nat} {M0 : Mem} {S : LNS} {q m : Nat} {M : Mem} (h : pM c L M0 S q M) (hm : m ≤ 999) : match sgnR c L m q with
    | .error e => ∃ w M', fX13_signed M (nI m) = some (w, M') ∧ fS e M0 M' ∧ frNb M M'
    | .ok a => ∃ M', fX13_signed M (nI m) = some (a.1, M') ∧ pM c L M0 S a.2 M' ∧ frG M M' := by
  unfold fX13_signed sgnR
  rw [show fX13_isSign M 45 = some (if tK c L q = 45 then 1 else 0) from isSign_ok h.2.1 (by decide), b1_s, h.g, b1_s, if_neg (show ¬ (1 : Int32) = 0 by decide)]
  by_cases k : tK c L q = 45
  · rw [if_pos k, if_pos k, if_neg (show ¬ (1 : Int32) = 0 by decide)]
    obtain ⟨M1, s1, s2, s3⟩ := h.go
    rw [s1, b1_s]
    unfold fX13_signed_b22
    have hn := numM (lo := 0) (hi := m) s2 (by decide) hm
    cases hr : numR c L 0 m (tN c L q) with
    | error e =>
      rw [hr] at hn
      obtain ⟨w, M', y1, y2⟩ := hn
      exact ⟨_, M', by rw [show fX13_number M1 0 (nI m) = some (w, M') from y1, b2_s, if_neg (by decide)], y2.1, s3.N.tr y2.2⟩
    | ok a =>
      rw [hr] at hn
      obtain ⟨M', y1, y2, y3⟩ := hn
      exact ⟨M', by rw [show fX13_number M1 0 (nI m) = some (nI a.1, M') from y1, b2_s, if_neg (by decide), Int32.zero_sub], y2, s3.tr y3⟩
  · rw [if_neg k, if_neg k, if_pos (show (0 : Int32) = 0 from rfl)]
    unfold fX13_signed_b22
    have hn := numM (lo := 0) (hi := m) h (by decide) hm
    cases hr : numR c L 0 m q with
    | error e =>
      rw [hr] at hn
      obtain ⟨w, M', y1, y2⟩ := hn
      exact ⟨_, M', by rw [show fX13_number M 0 (nI m) = some (w, M') from y1, b2_s, if_pos rfl], y2⟩
    | ok a =>
      rw [hr] at hn
      obtain ⟨M', y1, y2, y3⟩ := hn
      exact ⟨M', by rw [show fX13_number M 0 (nI m) = some (nI a.1, M') from y1, b2_s, if_pos rfl], y2, y3⟩
theorem numK {c : Nat → Nat} {L : Nat} {M0 : Mem} {S : LNS} {q lo hi : Nat} {M : Mem} (h : pM c L M0 S q M) (hlo : lo ≤ 999) (hhi : hi ≤ 999) {K : Int32 → Mem → Option Mem} {k : Nat × Nat → RLN} (hf : ∀ w M1 e, fS e M0 M1 → frNb M M1 → ouF M0 (K w M1) e) (hk : ∀ a M1, numR c L lo hi q = .ok a → pM c L M0 S a.2 M1 → frG M M1 → ouM c L M0 (K (nI a.1) M1) (k a)) : ouM c L M0 (b2 (fX13_number M (nI lo) (nI hi)) K) (eb (numR c L lo hi q) k) := by
  have hn := numM (lo := lo) (hi := hi) h hlo hhi
  cases hr : numR c L lo hi q with
  | error e =>
    rw [hr] at hn
    obtain ⟨w, M', y1, y2⟩ := hn
    rw [y1, b2_s]
    exact hf w M' e y2.1 y2.2
  | ok a =>
    rw [hr] at hn
    obtain ⟨M', y1, y2, y3⟩ := hn
    rw [y1, b2_s]
    exact hk a M' hr y2 y3
theorem sgnK {c : Nat → Nat} {L : Nat} {M0 : Mem} {S : LNS} {q m : Nat} {M : Mem} (h : pM c L M0 S q M) (hm : m ≤ 999) {K : Int32 → Mem → Option Mem} {k : Int32 × Nat → RLN} (hf : ∀ w M1 e, fS e M0 M1 → frNb M M1 → ouF M0 (K w M1) e) (hk : ∀ a M1, sgnR c L m q = .ok a → pM c L M0 S a.2 M1 → frG M M1 → ouM c L M0 (K a.1 M1) (k a)) : ouM c L M0 (b2 (fX13_signed M (nI m)) K) (eb (sgnR c L m q) k) := by
  have hn := sgnM (m := m) h hm
  cases hr : sgnR c L m q with
  | error e =>
    rw [hr] at hn
    obtain ⟨w, M', y1, y2⟩ := hn
    rw [y1, b2_s]
    exact hf w M' e y2.1 y2.2
  | ok a =>
    rw [hr] at hn
    obtain ⟨M', y1, y2, y3⟩ := hn
    rw [y1, b2_s]
    exact hk a M' hr y2 y3
theorem ouF_num {e : Nat × Nat} {M0 M : Mem} (h : fS e M0 M) {lo hi : Int32} {K : Int32 → Mem → Option Mem} (hk : ∀ w, ouF M0 (K w M) e) : ouF M0 (b2 (fX13_number M lo hi) K) e := by
  rw [h.num, b2_s]
  exact hk 0
theorem ouF_sgn {e : Nat × Nat} {M0 M : Mem} (h : fS e M0 M) {m : Int32} {K : Int32 → Mem → Option Mem} (hk : ∀ w, ouF M0 (K w M) e) : ouF M0 (b2 (fX13_signed M m) K) e := by
  obtain ⟨w, hw⟩ := h.sgn m
  rw [hw, b2_s]
  exact hk w
theorem ouF_st {e : Nat × Nat} {M0 M : Mem} (h : fS e M0 M) {a n i : Nat} {v : Int32} {K : Mem → Option Mem} (hi : i < n) (hn : n < 2 ^ 31) (ha : 118 ≤ a ∧ a ≤ 132) (hk : ∀ M1, fS e M0 M1 → ouF M0 (K M1) e) : ouF M0 (stI M a n (nI i) v K) e := by
  rw [stI_nI hi hn]
  exact hk _ (h.st (Or.inr ha))
theorem st129 {M : Mem} {v : Int32} {K : Mem → Option Mem} : stI M 129 31 0 v K = K (sI M 129 0 v) ∧ stI M 129 31 1 v K = K (sI M 129 1 v) ∧ stI M 129 31 2 v K = K (sI M 129 2 v) ∧ stI M 129 31 12 v K = K (sI M 129 12 v) :=
  ⟨stI_nI (i := 0) (by decide) (by decide), stI_nI (i := 1) (by decide) (by decide), stI_nI (i := 2) (by decide) (by decide), stI_nI (i := 12) (by decide) (by decide)⟩
