/-! TEXTS: lines, as both read them -/
abbrev LNS : Type := LA × (Nat → Int32) × Nat
def eb {α β : Type} (x : Except (Nat × Nat) α) (k : α → Except (Nat × Nat) β) : Except (Nat × Nat) β := match x with
  | .error e => .error e
  | .ok a => k a
def updN (f : Nat → Nat) (k v : Nat) : Nat → Nat := fun i => if i = k then v else f i
def updF (f : Nat → Nat → Int32) (k j : Nat) (v : Int32) : Nat → Nat → Int32 := fun a b => if a = k ∧ b = j then v else f a b
def updC (f : Nat → List Int32) (k : Nat) (v : List Int32) : Nat → List Int32 := fun i => if i = k then v else f i
def setN (A : LA) (k v : Nat) : LA := (updN A.1 k v, A.2.1, A.2.2)
def setF (A : LA) (k j : Nat) (v : Int32) : LA := (A.1, updF A.2.1 k j v, A.2.2)
def setC (A : LA) (k : Nat) (v : List Int32) : LA := (A.1, A.2.1, updC A.2.2 k v)
theorem aN_N {A : LA} {k v i : Nat} : aN (setN A k v) i = if i = k then v else aN A i := rfl
theorem aF_F {A : LA} {k j a b : Nat} {v : Int32} : aF (setF A k j v) a b = if a = k ∧ b = j then v else aF A a b := rfl
theorem aC_C {A : LA} {k i : Nat} {v : List Int32} : aC (setC A k v) i = if i = k then v else aC A i := rfl
theorem aN_F {A : LA} {k j i : Nat} {v : Int32} : aN (setF A k j v) i = aN A i := rfl
theorem aN_C {A : LA} {k i : Nat} {v : List Int32} : aN (setC A k v) i = aN A i := rfl
theorem aF_N {A : LA} {k v a b : Nat} : aF (setN A k v) a b = aF A a b := rfl
theorem aF_C {A : LA} {k a b : Nat} {v : List Int32} : aF (setC A k v) a b = aF A a b := rfl
theorem aC_N {A : LA} {k v i : Nat} : aC (setN A k v) i = aC A i := rfl
theorem aC_F {A : LA} {k j i : Nat} {v : Int32} : aC (setF A k j v) i = aC A i := rfl
def numR (c : Nat → Nat) (L lo hi q : Nat) : Except (Nat × Nat) (Nat × Nat) := if tK c L q = 2 then (if tV c L q < lo ∨ hi < tV c L q then .error (2, tP c L q) else .ok (tV c L q, tN c L q)) else .error (1, tP c L q)
def sgnR (c : Nat → Nat) (L m q : Nat) : Except (Nat × Nat) (Int32 × Nat) := if tK c L q = 45 then eb (numR c L 0 m (tN c L q)) fun a => .ok (-(nI a.1), a.2) else eb (numR c L 0 m q) fun a => .ok (nI a.1, a.2)
abbrev RLN : Type := Except (Nat × Nat) (LNS × Nat)
def closeR (c : Nat → Nat) (L : Nat) (S : LNS) (q : Nat) : RLN := if tK c L q = 59 then .ok (S, tN c L q) else .error (1, tP c L q)
def cityR (c : Nat → Nat) (L : Nat) (S : LNS) (q : Nat) : RLN := eb (numR c L 0 999 q) fun a => eb (numR c L 0 99 a.2) fun b => eb (numR c L 0 999 b.2) fun d => closeR c L (S.1, upd (upd (upd S.2.1 0 (nI a.1)) 1 (nI b.1)) 2 (nI d.1), S.2.2) d.2
def deedA (A : LA) (a b d e : Int32) : LA := setN (setF (setF (setF (setF A 0 (aN A 0) a) 1 (aN A 0) b) 2 (aN A 0) d) 3 (aN A 0) e) 0 (aN A 0 + 1)
def deedR (c : Nat → Nat) (L : Nat) (S : LNS) (q : Nat) : RLN := eb (numR c L 0 99 q) fun a => eb (sgnR c L 20 a.2) fun b => eb (sgnR c L 99 b.2) fun d => eb (sgnR c L 20 d.2) fun e => closeR c L (deedA S.1 (nI a.1) b.1 d.1 e.1, S.2.1, S.2.2) e.2
def wayL (c : Nat → Nat) (L b D : Nat) : Nat → Nat → (Nat → Int32) → Nat → Except (Nat × Nat) (Nat × (Nat → Int32) × Nat)
  | 0, _, _, _ => .error (0, 0)
  | n + 1, i, row, q => if i ≠ 0 ∧ tK c L q = 59 then .ok (i, row, q) else if tK c L q = 2 then (if i = 6 ∨ tV c L q = 10000 then .error (2, tP c L q) else if tV c L q < D then wayL c L b D n (i + 1) (upd row (13 + 6 * b + i) (nI (tV c L q))) (tN c L q) else .error (3, tP c L q)) else .error (1, tP c L q)
def wayLR (c : Nat → Nat) (L b : Nat) (S : LNS) (q : Nat) : RLN := eb (wayL c L b (aN S.1 0) 8 0 S.2.1 q) fun v => closeR c L (setN S.1 (5 + b) v.1, v.2.1, S.2.2) v.2.2
def harL (c : Nat → Nat) (L : Nat) : Nat → Nat → LA → Nat → Except (Nat × Nat) (LA × Nat)
  | 0, _, _, _ => .error (0, 0)
  | n + 1, i, A, q => if i ≠ 0 ∧ tK c L q = 59 then .ok (A, q) else if i = 10 ∧ tK c L q = 2 then .error (2, tP c L q) else eb (numR c L 0 99 q) fun v => harL c L n (i + 1) (setN (setF A 4 i (nI v.1)) 1 (i + 1)) v.2
def harR (c : Nat → Nat) (L : Nat) (S : LNS) (q : Nat) : RLN := eb (harL c L 12 0 S.1 q) fun v => closeR c L (v.1, S.2.1, S.2.2) v.2
def termLR (c : Nat → Nat) (L : Nat) (S : LNS) (q : Nat) : RLN := eb (numR c L 1 5 q) fun a => closeR c L (S.1, upd S.2.1 12 (nI a.1), S.2.2) a.2
def friR (c : Nat → Nat) (L : Nat) (S : LNS) (q : Nat) : RLN := eb (sgnR c L 9 q) fun a => eb (numR c L 0 9 a.2) fun b => closeR c L (setN (setF S.1 5 (aN S.1 2) (nI b.1)) 2 (aN S.1 2 + 1), upd S.2.1 (25 + aN S.1 2) a.1, S.2.2) b.2
/-- champions at 3, 6, 7; gates at 4, 8, 9 -/
def figR (c : Nat → Nat) (L g : Nat) (S : LNS) (q : Nat) : RLN := eb (numR c L 0 20 q) fun a => eb (numR c L 0 3 a.2) fun b => closeR c L (setN (setF (setF S.1 (6 + 2 * g) (aN S.1 (3 + g)) (nI a.1)) (7 + 2 * g) (aN S.1 (3 + g)) (nI b.1)) (3 + g) (aN S.1 (3 + g) + 1), S.2.1, S.2.2) b.2
def vS (w : Nat) : Int32 := wIS (1000 + w)
def vL (w : Nat) : Int32 := wIL (1000 + w)
def rulR (c : Nat → Nat) (L i : Nat) (vf : Nat → Int32) (S : LNS) (q : Nat) : RLN := eb (rexp c L vf 8 0 q) fun v => closeR c L (setC S.1 i v.1, S.2.1, S.2.2) v.2
def onceR (c : Nat → Nat) (L i : Nat) (k : LNS → Nat → RLN) (S : LNS) (q : Nat) : RLN := if S.2.2.testBit i = true then .error (5, tP c L q) else k (S.1, S.2.1, S.2.2 ||| 2 ^ i) (tN c L q)
def belR (c : Nat → Nat) (L i most : Nat) (k : LNS → Nat → RLN) (S : LNS) (q : Nat) : RLN := if aN S.1 i < most then k S (tN c L q) else .error (2, tP c L q)
def lineR (c : Nat → Nat) (L : Nat) (S : LNS) (q : Nat) : RLN :=
  if tW c L q = 0 then onceR c L 0 (cityR c L) S q
  else if tW c L q = 1 then belR c L 0 7 (deedR c L) S q
  else if tW c L q = 2 then onceR c L 1 (wayLR c L 0) S q
  else if tW c L q = 3 then onceR c L 2 (wayLR c L 1) S q
  else if tW c L q = 4 then onceR c L 3 (harR c L) S q
  else if tW c L q = 5 then onceR c L 4 (termLR c L) S q
  else if tW c L q = 6 then belR c L 2 6 (friR c L) S q
  else if tW c L q = 7 then belR c L 3 7 (figR c L 0) S q
  else if tW c L q = 8 then belR c L 4 7 (figR c L 1) S q
  else if tW c L q = 9 then onceR c L 5 (rulR c L 0 vS) S q
  else if tW c L q = 10 then onceR c L 6 (rulR c L 1 vL) S q
  else .error (1, tP c L q)
def landR (c : Nat → Nat) (L : Nat) : Nat → LNS → Nat → Except (Nat × Nat) LNS
  | 0, S, _ => .ok S
  | n + 1, S, q => if tK c L q = 0 then .ok S else eb (lineR c L S q) fun v => landR c L n v.1 v.2
-- what holds of it
def invS (S : LNS) : Prop := okA S.1 ∧ okR S.1 0 0 S.2.1 ∧ S.2.2 < 128 ∧ (S.2.2.testBit 1 = true ↔ 0 < aN S.1 5) ∧ (S.2.2.testBit 2 = true ↔ 0 < aN S.1 6) ∧ (S.2.2.testBit 3 = true ↔ 0 < aN S.1 1) ∧ (S.2.2.testBit 5 = true ↔ aC S.1 0 ≠ []) ∧ (S.2.2.testBit 6 = true ↔ aC S.1 1 ≠ [])
theorem eb_ok {α β : Type} {x : Except (Nat × Nat) α} {k : α → Except (Nat × Nat) β} {b : β} (h : eb x k = .ok b) : ∃ a, x = .ok a ∧ k a = .ok b := by
  cases x with
  | error e => cases h
  | ok a => exact ⟨a, rfl, h⟩
theorem numR_ok {c : Nat → Nat} {L lo hi q : Nat} {v : Nat × Nat} (hq : q ≤ L) (h : numR c L lo hi q = .ok v) : lo ≤ v.1 ∧ v.1 ≤ hi ∧ q < v.2 ∧ v.2 ≤ L := by
  unfold numR at h
  split at h
  · next k =>
    split at h
    · cases h
    · injection h with h
      subst h
      have := tN_gt (c := c) hq (by omega)
      have := tP_le (c := c) hq
      have := tN_le (c := c) hq
      exact ⟨by omega, by omega, by show q < tN c L q; omega, by show tN c L q ≤ L; omega⟩
  · cases h
theorem inZ_nI {a m : Nat} (h : a ≤ m) (hm : m < 2 ^ 31) : inZ (nI a) m := by
  unfold inZ
  rw [nI_toInt (by omega)]
  omega
theorem sgnR_ok {c : Nat → Nat} {L m q : Nat} {v : Int32 × Nat} (hq : q ≤ L) (hm : m < 2 ^ 31) (h : sgnR c L m q = .ok v) : inZ v.1 m ∧ q < v.2 ∧ v.2 ≤ L := by
  unfold sgnR at h
  split at h
  · next k =>
    obtain ⟨a, h1, h2⟩ := eb_ok h
    have hg := tN_gt (c := c) hq (by omega)
    have := tP_le (c := c) hq
    have n4 := (tN_le (c := c) hq).2
    obtain ⟨a1, a2, a3, a4⟩ := numR_ok n4 h1
    injection h2 with h2
    subst h2
    exact ⟨(inZ_neg (inZ_nI a2 hm) hm).1, by show q < a.2; omega, a4⟩
  · obtain ⟨a, h1, h2⟩ := eb_ok h
    obtain ⟨a1, a2, a3, a4⟩ := numR_ok hq h1
    injection h2 with h2
    subst h2
    exact ⟨inZ_nI a2 hm, a3, a4⟩
theorem closeR_ok {c : Nat → Nat} {L q : Nat} {S : LNS} {v : LNS × Nat} (hq : q ≤ L) (h : closeR c L S q = .ok v) : v.1 = S ∧ q < v.2 ∧ v.2 ≤ L := by
  unfold closeR at h
  split at h
  · next k =>
    injection h with h
    subst h
    have := tN_gt (c := c) hq (by omega)
    have := tP_le (c := c) hq
    have := tN_le (c := c) hq
    exact ⟨rfl, by show q < tN c L q; omega, by show tN c L q ≤ L; omega⟩
  · cases h
theorem inB_nI {a m : Nat} (h : a ≤ m) : inB (nI a) m := ⟨a, h, rfl⟩
theorem mask_b : ∀ m, m < 128 → ∀ i, i < 7 → m ||| 2 ^ i < 128 ∧ ∀ j, j < 7 → (m ||| 2 ^ i).testBit j = (m.testBit j || decide (j = i)) := by decide +kernel
theorem okR_row {A A' : LA} {r r' : Nat → Int32} (h : okR A 0 0 r) (h0 : r' 0 = r 0 ∨ inB (r' 0) 999) (h1 : r' 1 = r 1 ∨ inB (r' 1) 99) (h2 : r' 2 = r 2 ∨ inB (r' 2) 999) (hj : ∀ j, 3 ≤ j → j < 12 → r' j = r j) (h12 : r' 12 = r 12 ∨ ∃ n : Nat, 1 ≤ n ∧ n ≤ 5 ∧ r' 12 = nI n) (hw : ∀ b, b < 2 → ∀ i, i < aN A' (5 + b) → ∃ d : Nat, d < aN A' 0 ∧ r' (13 + 6 * b + i) = nI d) (hl : ∀ i, i < 6 → inZ (r' (25 + i)) 9) (h31 : ∀ j, 31 ≤ j → r' j = r j) : okR A' 0 0 r' := by
  obtain ⟨g0, g1, g2, g3, g4, g5, g6, g7, g8, g9, g10, g11, g12, g13⟩ := h
  refine ⟨?_, ?_, ?_, ?_, ?_, ?_, ?_, ?_, ?_, ?_, ?_, hw, hl, fun j hj2 => (h31 j hj2).trans (g13 j hj2)⟩
  · rcases h0 with z | z
    · rw [z]; exact g0
    · exact z
  · rcases h1 with z | z
    · rw [z]; exact g1
    · exact z
  · rcases h2 with z | z
    · rw [z]; exact g2
    · exact z
  · rw [hj 3 (by decide) (by decide)]; exact g3
  · rw [hj 4 (by decide) (by decide)]; exact g4
  · rw [hj 5 (by decide) (by decide)]; exact g5
  · rw [hj 6 (by decide) (by decide)]; exact g6
  · rw [hj 7 (by decide) (by decide)]; exact g7
  · rw [hj 10 (by decide) (by decide)]; exact g8
  · rw [hj 11 (by decide) (by decide)]; exact g9
  · rcases h12 with z | z
    · rw [z]; exact g10
    · exact z
theorem cityR_ok {c : Nat → Nat} {L q : Nat} {S : LNS} {v : LNS × Nat} (hq : q ≤ L) (hA : okA S.1) (hR : okR S.1 0 0 S.2.1) (h : cityR c L S q = .ok v) : v.1.1 = S.1 ∧ okR S.1 0 0 v.1.2.1 ∧ v.1.2.2 = S.2.2 ∧ q < v.2 ∧ v.2 ≤ L := by
  obtain ⟨a, h1, h⟩ := eb_ok h
  obtain ⟨a1, a2, a3, a4⟩ := numR_ok hq h1
  obtain ⟨b, h2, h⟩ := eb_ok h
  obtain ⟨b1', b2', b3', b4⟩ := numR_ok a4 h2
  obtain ⟨d, h3, h⟩ := eb_ok h
  obtain ⟨d1, d2, d3, d4⟩ := numR_ok b4 h3
  obtain ⟨e1, e2, e3⟩ := closeR_ok d4 h
  rw [e1]
  refine ⟨rfl, ?_, rfl, by omega, e3⟩
  refine okR_row hR ?_ ?_ ?_ (fun j h1 h2 => ?_) ?_ (fun b hb i hi => ?_) (fun i hi => ?_) (fun j hj => ?_)
  · exact Or.inr (inB_nI a2)
  · exact Or.inr (inB_nI b2')
  · exact Or.inr (inB_nI d2)
  · show upd (upd (upd S.2.1 0 _) 1 _) 2 _ j = _
    rw [upd_a, if_neg (by omega), upd_a, if_neg (by omega), upd_a, if_neg (by omega)]
  · exact Or.inl rfl
  · show ∃ d, d < aN S.1 0 ∧ upd (upd (upd S.2.1 0 _) 1 _) 2 _ (13 + 6 * b + i) = nI d
    rw [upd_a, if_neg (by omega), upd_a, if_neg (by omega), upd_a, if_neg (by omega)]
    exact hR.2.2.2.2.2.2.2.2.2.2.2.1 b hb i hi
  · show inZ (upd (upd (upd S.2.1 0 _) 1 _) 2 _ (25 + i)) 9
    rw [upd_a, if_neg (by omega), upd_a, if_neg (by omega), upd_a, if_neg (by omega)]
    exact hR.2.2.2.2.2.2.2.2.2.2.2.2.1 i hi
  · show upd (upd (upd S.2.1 0 _) 1 _) 2 _ j = _
    rw [upd_a, if_neg (by omega), upd_a, if_neg (by omega), upd_a, if_neg (by omega)]
theorem deedR_ok {c : Nat → Nat} {L q : Nat} {S : LNS} {v : LNS × Nat} (hq : q ≤ L) (hA : okA S.1) (hR : okR S.1 0 0 S.2.1) (hn : aN S.1 0 < 7) (h : deedR c L S q = .ok v) : okA v.1.1 ∧ okR v.1.1 0 0 v.1.2.1 ∧ v.1.2.2 = S.2.2 ∧ (∀ i, i ≠ 0 → aN v.1.1 i = aN S.1 i) ∧ (∀ i, aC v.1.1 i = aC S.1 i) ∧ q < v.2 ∧ v.2 ≤ L := by
  obtain ⟨a, h1, h⟩ := eb_ok h
  obtain ⟨a1, a2, a3, a4⟩ := numR_ok hq h1
  obtain ⟨bb, h2, h⟩ := eb_ok h
  obtain ⟨b1', b2', b3'⟩ := sgnR_ok a4 (by decide) h2
  obtain ⟨d, h3, h⟩ := eb_ok h
  obtain ⟨d1, d2, d3⟩ := sgnR_ok b3' (by decide) h3
  obtain ⟨e, h4, h⟩ := eb_ok h
  obtain ⟨e1, e2, e3⟩ := sgnR_ok d3 (by decide) h4
  obtain ⟨f1, f2, f3⟩ := closeR_ok e3 h
  rw [f1]
  obtain ⟨k0, k1, k2, k3, k4, k5, k6, k7, k8, k9, k10, k11, k12⟩ := hA
  refine ⟨⟨by show aN S.1 0 + 1 ≤ 7; omega, k1, k2, k3, k4, k5, k6, fun j hj => ?_, fun i hi => ?_, fun i hi => ?_, fun i hi => ?_, fun i hi => ?_, k12⟩, ?_, rfl, fun i hi => if_neg hi, fun i => rfl, by omega, f3⟩
  · have hj' : j < aN S.1 0 + 1 := hj
    unfold deedA
    simp only [aF_N, aF_F]
    by_cases e : j = aN S.1 0
    · subst e
      simp
      exact ⟨inB_nI a2, b1', d1, e1⟩
    · simp [e]
      exact k7 j (by omega)
  · exact k8 i hi
  · exact k9 i hi
  · exact k10 i hi
  · exact k11 i hi
  · refine okR_row hR (Or.inl rfl) (Or.inl rfl) (Or.inl rfl) (fun j _ _ => rfl) (Or.inl rfl) (fun b hb i hi => ?_) (fun i hi => hR.2.2.2.2.2.2.2.2.2.2.2.2.1 i hi) (fun j _ => rfl)
    have hi2 : i < aN S.1 (5 + b) := by
      have : aN (deedA S.1 (nI a.1) bb.1 d.1 e.1) (5 + b) = aN S.1 (5 + b) := if_neg (by omega)
      rw [← this]; exact hi
    obtain ⟨d9, z1, z2⟩ := hR.2.2.2.2.2.2.2.2.2.2.2.1 b hb i hi2
    exact ⟨d9, by show d9 < aN S.1 0 + 1; omega, z2⟩
theorem wayL_ok {c : Nat → Nat} {L b D : Nat} : ∀ (n i : Nat) (row : Nat → Int32) (q : Nat) (v : Nat × (Nat → Int32) × Nat), q ≤ L → (∀ j, j < i → ∃ d : Nat, d < D ∧ row (13 + 6 * b + j) = nI d) → i ≤ 6 → wayL c L b D n i row q = .ok v → q ≤ v.2.2 ∧ v.2.2 ≤ L ∧ i ≤ v.1 ∧ v.1 ≤ 6 ∧ 1 ≤ v.1 ∧ (∀ j, j < v.1 → ∃ d : Nat, d < D ∧ v.2.1 (13 + 6 * b + j) = nI d) ∧ ∀ k, (k < 13 + 6 * b ∨ 13 + 6 * b + 6 ≤ k) → v.2.1 k = row k := by
  intro n
  induction n with
  | zero => intro i row q v _ _ _ h; unfold wayL at h; cases h
  | succ n ih =>
    intro i row q v hq hr hi h
    unfold wayL at h
    split at h
    · next z =>
      injection h with h
      subst h
      exact ⟨Nat.le_refl _, hq, Nat.le_refl _, hi, by show 1 ≤ i; omega, hr, fun k _ => rfl⟩
    · split at h
      · next k2 =>
        split at h
        · cases h
        · next z =>
          split at h
          · next hD =>
            have hg := tN_gt (c := c) hq (by omega)
            have := tP_le (c := c) hq
            have n4 := (tN_le (c := c) hq).2
            obtain ⟨a1, a2, a3, a4, a5, a6, a7⟩ := ih (i + 1) _ (tN c L q) v n4 (fun j hj => by
              rw [upd_a]
              by_cases e : j = i
              · rw [if_pos (by omega)]; exact ⟨_, hD, rfl⟩
              · rw [if_neg (by omega)]; exact hr j (by omega)) (by omega) h
            refine ⟨by omega, a2, by omega, a4, a5, a6, fun k hk => ?_⟩
            rw [a7 k hk, upd_a, if_neg (by omega)]
          · cases h
      · cases h
theorem wayLR_ok {c : Nat → Nat} {L q b : Nat} {S : LNS} {v : LNS × Nat} (hb : b < 2) (hq : q ≤ L) (hA : okA S.1) (hR : okR S.1 0 0 S.2.1) (h : wayLR c L b S q = .ok v) : okA v.1.1 ∧ okR v.1.1 0 0 v.1.2.1 ∧ v.1.2.2 = S.2.2 ∧ (∀ i, i ≠ 5 + b → aN v.1.1 i = aN S.1 i) ∧ 0 < aN v.1.1 (5 + b) ∧ (∀ i, aC v.1.1 i = aC S.1 i) ∧ q < v.2 ∧ v.2 ≤ L := by
  obtain ⟨w, h1, h⟩ := eb_ok h
  obtain ⟨a1, a2, a3, a4, a5, a6, a7⟩ := wayL_ok 8 0 _ q w hq (fun j hj => absurd hj (by omega)) (by decide) h1
  obtain ⟨f1, f2, f3⟩ := closeR_ok a2 h
  rw [f1]
  obtain ⟨k0, k1, k2, k3, k4, k5, k6, k7⟩ := hA
  have e0 : aN (setN S.1 (5 + b) w.1) 0 = aN S.1 0 := if_neg (by omega)
  have eb' : aN (setN S.1 (5 + b) w.1) (5 + b) = w.1 := if_pos rfl
  have en : ∀ i, i ≠ 5 + b → aN (setN S.1 (5 + b) w.1) i = aN S.1 i := fun i hi => if_neg hi
  refine ⟨⟨by rw [e0]; exact k0, by rw [en 1 (by omega)]; exact k1, by rw [en 2 (by omega)]; exact k2, by rw [en 3 (by omega)]; exact k3, by rw [en 4 (by omega)]; exact k4, ?_, ?_, ?_⟩, ?_, rfl, en, by rw [eb']; omega, fun i => rfl, by omega, f3⟩
  · show aN (setN S.1 (5 + b) w.1) 5 ≤ 6
    by_cases e : b = 0
    · subst e; rw [eb']; exact a4
    · rw [en 5 (by omega)]; exact k5
  · show aN (setN S.1 (5 + b) w.1) 6 ≤ 6
    by_cases e : b = 1
    · subst e; rw [eb']; exact a4
    · rw [en 6 (by omega)]; exact k6
  · show (∀ d, d < aN (setN S.1 (5 + b) w.1) 0 → _) ∧ (∀ i, i < aN (setN S.1 (5 + b) w.1) 1 → _) ∧ (∀ i, i < aN (setN S.1 (5 + b) w.1) 2 → _) ∧ (∀ i, i < aN (setN S.1 (5 + b) w.1) 3 → _) ∧ (∀ i, i < aN (setN S.1 (5 + b) w.1) 4 → _) ∧ _
    rw [e0, en 1 (by omega), en 2 (by omega), en 3 (by omega), en 4 (by omega)]
    exact k7
  · refine okR_row hR (Or.inl (a7 0 (by omega))) (Or.inl (a7 1 (by omega))) (Or.inl (a7 2 (by omega))) (fun j h1 h2 => a7 j (by omega)) (Or.inl (a7 12 (by omega))) (fun b2 hb2 i hi => ?_) (fun i hi => ?_) (fun j hj => a7 j (by omega))
    · show ∃ d, d < aN (setN S.1 (5 + b) w.1) 0 ∧ w.2.1 (13 + 6 * b2 + i) = nI d
      have hi' : i < aN (setN S.1 (5 + b) w.1) (5 + b2) := hi
      rw [e0]
      by_cases e : b2 = b
      · subst e
        rw [eb'] at hi'
        exact a6 i hi'
      · rw [en _ (by omega)] at hi'
        have h6 : aN S.1 (5 + b2) ≤ 6 := by
          rcases (show b2 = 0 ∨ b2 = 1 by omega) with z | z <;> subst z
          · exact k5
          · exact k6
        rw [a7 _ (by omega)]
        exact hR.2.2.2.2.2.2.2.2.2.2.2.1 b2 hb2 i hi'
    · show inZ (w.2.1 (25 + i)) 9
      rw [a7 _ (by omega)]
      exact hR.2.2.2.2.2.2.2.2.2.2.2.2.1 i hi
/-- what harvests change of a land -/
theorem harL_ok {c : Nat → Nat} {L : Nat} : ∀ (n i : Nat) (A : LA) (q : Nat) (v : LA × Nat), q ≤ L → (i = 0 ∨ aN A 1 = i) → i ≤ 10 → (∀ j, j < i → inB (aF A 4 j) 99) → harL c L n i A q = .ok v → q ≤ v.2 ∧ v.2 ≤ L ∧ (∀ j, j ≠ 1 → aN v.1 j = aN A j) ∧ 1 ≤ aN v.1 1 ∧ aN v.1 1 ≤ 10 ∧ (∀ j, j < aN v.1 1 → inB (aF v.1 4 j) 99) ∧ (∀ a b, a ≠ 4 → aF v.1 a b = aF A a b) ∧ ∀ j, aC v.1 j = aC A j := by
  intro n
  induction n with
  | zero => intro i A q v _ _ _ _ h; unfold harL at h; cases h
  | succ n ih =>
    intro i A q v hq hn hi hb h
    unfold harL at h
    split at h
    · next z =>
      injection h with h
      subst h
      have e : aN A 1 = i := hn.resolve_left z.1
      exact ⟨Nat.le_refl _, hq, fun j _ => rfl, by show 1 ≤ aN A 1; omega, by show aN A 1 ≤ 10; omega, fun j hj => hb j (by have hj' : j < aN A 1 := hj; omega), fun a b _ => rfl, fun j => rfl⟩
    · next z0 =>
      split at h
      · cases h
      · next z =>
        obtain ⟨w, h1, h⟩ := eb_ok h
        obtain ⟨a1, a2, a3, a4⟩ := numR_ok hq h1
        have k2 : tK c L q = 2 := by
          unfold numR at h1
          split at h1
          · next k => exact k
          · cases h1
        have hi9 : i < 10 := by
          rcases Nat.lt_or_ge i 10 with y | y
          · exact y
          · exact absurd ⟨by omega, k2⟩ z
        obtain ⟨r1, r2, r3, r4, r5, r6, r7, r8⟩ := ih (i + 1) _ w.2 v a4 (Or.inr (show aN (setN (setF A 4 i (nI w.1)) 1 (i + 1)) 1 = i + 1 from aN_N.trans (if_pos rfl))) (by omega) (fun j hj => by
          rw [aF_N, aF_F]
          by_cases e : j = i
          · rw [if_pos ⟨rfl, e⟩]; exact inB_nI a2
          · rw [if_neg (fun y => e y.2)]; exact hb j (by omega)) h
        refine ⟨by omega, r2, fun j hj => ?_, r4, r5, r6, fun a b ha => ?_, fun j => r8 j⟩
        · rw [r3 j hj]; exact if_neg hj
        · rw [r7 a b ha, aF_N, aF_F, if_neg (fun y => ha y.1)]
theorem harR_ok {c : Nat → Nat} {L q : Nat} {S : LNS} {v : LNS × Nat} (hq : q ≤ L) (hA : okA S.1) (hR : okR S.1 0 0 S.2.1) (h : harR c L S q = .ok v) : okA v.1.1 ∧ okR v.1.1 0 0 v.1.2.1 ∧ v.1.2.2 = S.2.2 ∧ (∀ i, i ≠ 1 → aN v.1.1 i = aN S.1 i) ∧ 0 < aN v.1.1 1 ∧ (∀ i, aC v.1.1 i = aC S.1 i) ∧ q < v.2 ∧ v.2 ≤ L := by
  obtain ⟨w, h1, h⟩ := eb_ok h
  obtain ⟨a1, a2, a3, a4, a5, a6, a7, a8⟩ := harL_ok 12 0 _ q w hq (Or.inl rfl) (by decide) (fun j hj => absurd hj (by omega)) h1
  obtain ⟨f1, f2, f3⟩ := closeR_ok a2 h
  rw [f1]
  obtain ⟨k0, k1, k2, k3, k4, k5, k6, k7, k8, k9, k10, k11, k12⟩ := hA
  refine ⟨⟨?_, a5, ?_, ?_, ?_, ?_, ?_, fun d hd => ?_, a6, fun i hi => ?_, fun i hi => ?_, fun i hi => ?_, fun i hi => ?_⟩, ?_, rfl, a3, a4, a8, by omega, f3⟩
  · show aN w.1 0 ≤ 7; rw [a3 0 (by decide)]; exact k0
  · show aN w.1 2 ≤ 6; rw [a3 2 (by decide)]; exact k2
  · show aN w.1 3 ≤ 7; rw [a3 3 (by decide)]; exact k3
  · show aN w.1 4 ≤ 7; rw [a3 4 (by decide)]; exact k4
  · show aN w.1 5 ≤ 6; rw [a3 5 (by decide)]; exact k5
  · show aN w.1 6 ≤ 6; rw [a3 6 (by decide)]; exact k6
  · have hd' : d < aN w.1 0 := hd
    rw [a3 0 (by decide)] at hd'
    show inB (aF w.1 0 d) 99 ∧ inZ (aF w.1 1 d) 20 ∧ inZ (aF w.1 2 d) 99 ∧ inZ (aF w.1 3 d) 20
    rw [a7 0 _ (by decide), a7 1 _ (by decide), a7 2 _ (by decide), a7 3 _ (by decide)]
    exact k7 d hd'
  · have hi' : i < aN w.1 2 := hi
    rw [a3 2 (by decide)] at hi'
    show inB (aF w.1 5 i) 9
    rw [a7 5 _ (by decide)]
    exact k9 i hi'
  · have hi' : i < aN w.1 3 := hi
    rw [a3 3 (by decide)] at hi'
    show inB (aF w.1 6 i) 20 ∧ inB (aF w.1 7 i) 3
    rw [a7 6 _ (by decide), a7 7 _ (by decide)]
    exact k10 i hi'
  · have hi' : i < aN w.1 4 := hi
    rw [a3 4 (by decide)] at hi'
    show inB (aF w.1 8 i) 20 ∧ inB (aF w.1 9 i) 3
    rw [a7 8 _ (by decide), a7 9 _ (by decide)]
    exact k11 i hi'
  · show aC w.1 i = [] ∨ wfC (aC w.1 i) 0 ∧ ∀ x ∈ aC w.1 i, -7 < x → x < 0 → ((-1) - x).toNatClampNeg < 6 - i
    rw [a8 i]
    exact k12 i hi
  · refine okR_row hR (Or.inl rfl) (Or.inl rfl) (Or.inl rfl) (fun j _ _ => rfl) (Or.inl rfl) (fun b hb i hi => ?_) (fun i hi => hR.2.2.2.2.2.2.2.2.2.2.2.2.1 i hi) (fun j _ => rfl)
    have hi' : i < aN w.1 (5 + b) := hi
    show ∃ d, d < aN w.1 0 ∧ _
    rw [a3 _ (by omega)] at hi'
    rw [a3 0 (by decide)]
    exact hR.2.2.2.2.2.2.2.2.2.2.2.1 b hb i hi'
theorem termLR_ok {c : Nat → Nat} {L q : Nat} {S : LNS} {v : LNS × Nat} (hq : q ≤ L) (hR : okR S.1 0 0 S.2.1) (h : termLR c L S q = .ok v) : v.1.1 = S.1 ∧ okR S.1 0 0 v.1.2.1 ∧ v.1.2.2 = S.2.2 ∧ q < v.2 ∧ v.2 ≤ L := by
  obtain ⟨a, h1, h⟩ := eb_ok h
  obtain ⟨a1, a2, a3, a4⟩ := numR_ok hq h1
  obtain ⟨e1, e2, e3⟩ := closeR_ok a4 h
  rw [e1]
  refine ⟨rfl, ?_, rfl, by omega, e3⟩
  refine okR_row hR (Or.inl rfl) (Or.inl rfl) (Or.inl rfl) (fun j h1 h2 => ?_) (Or.inr ⟨a.1, a1, a2, show upd S.2.1 12 (nI a.1) 12 = nI a.1 from if_pos rfl⟩) (fun b hb i hi => ?_) (fun i hi => ?_) (fun j hj => ?_)
  · exact if_neg (by omega)
  · obtain ⟨d, z1, z2⟩ := hR.2.2.2.2.2.2.2.2.2.2.2.1 b hb i hi
    exact ⟨d, z1, (if_neg (by omega)).trans z2⟩
  · show inZ (upd S.2.1 12 _ (25 + i)) 9
    rw [upd_a, if_neg (by omega)]
    exact hR.2.2.2.2.2.2.2.2.2.2.2.2.1 i hi
  · exact if_neg (by omega)
theorem friR_ok {c : Nat → Nat} {L q : Nat} {S : LNS} {v : LNS × Nat} (hq : q ≤ L) (hA : okA S.1) (hR : okR S.1 0 0 S.2.1) (hn : aN S.1 2 < 6) (h : friR c L S q = .ok v) : okA v.1.1 ∧ okR v.1.1 0 0 v.1.2.1 ∧ v.1.2.2 = S.2.2 ∧ (∀ i, i ≠ 2 → aN v.1.1 i = aN S.1 i) ∧ (∀ i, aC v.1.1 i = aC S.1 i) ∧ q < v.2 ∧ v.2 ≤ L := by
  obtain ⟨a, h1, h⟩ := eb_ok h
  obtain ⟨a1, a2, a3⟩ := sgnR_ok hq (by decide) h1
  obtain ⟨bb, h2, h⟩ := eb_ok h
  obtain ⟨b1', b2', b3', b4⟩ := numR_ok a3 h2
  obtain ⟨f1, f2, f3⟩ := closeR_ok b4 h
  rw [f1]
  obtain ⟨k0, k1, k2, k3, k4, k5, k6, k7, k8, k9, k10, k11, k12⟩ := hA
  refine ⟨⟨k0, k1, by show aN S.1 2 + 1 ≤ 6; omega, k3, k4, k5, k6, k7, k8, fun i hi => ?_, k10, k11, k12⟩, ?_, rfl, fun i hi => if_neg hi, fun i => rfl, by omega, f3⟩
  · have hi' : i < aN S.1 2 + 1 := hi
    show inB (aF (setN (setF S.1 5 (aN S.1 2) (nI bb.1)) 2 (aN S.1 2 + 1)) 5 i) 9
    rw [aF_N, aF_F]
    by_cases e : i = aN S.1 2
    · rw [if_pos ⟨rfl, e⟩]; exact inB_nI b2'
    · rw [if_neg (fun y => e y.2)]; exact k9 i (by omega)
  · refine okR_row hR (Or.inl ?_) (Or.inl ?_) (Or.inl ?_) (fun j h1 h2 => ?_) (Or.inl ?_) (fun b hb i hi => ?_) (fun i hi => ?_) (fun j hj => ?_)
    · exact if_neg (by omega)
    · exact if_neg (by omega)
    · exact if_neg (by omega)
    · exact if_neg (by omega)
    · exact if_neg (by omega)
    · have hi' : i < aN S.1 (5 + b) := by
        have : aN (setN (setF S.1 5 (aN S.1 2) (nI bb.1)) 2 (aN S.1 2 + 1)) (5 + b) = aN S.1 (5 + b) := if_neg (by omega)
        rw [← this]; exact hi
      have h6 : aN S.1 (5 + b) ≤ 6 := by
        rcases (show b = 0 ∨ b = 1 by omega) with z | z <;> subst z
        · exact k5
        · exact k6
      obtain ⟨d, z1, z2⟩ := hR.2.2.2.2.2.2.2.2.2.2.2.1 b hb i hi'
      exact ⟨d, z1, (if_neg (by omega)).trans z2⟩
    · show inZ (upd S.2.1 (25 + aN S.1 2) a.1 (25 + i)) 9
      rw [upd_a]
      by_cases e : i = aN S.1 2
      · rw [if_pos (by omega)]; exact a1
      · rw [if_neg (by omega)]; exact hR.2.2.2.2.2.2.2.2.2.2.2.2.1 i hi
    · exact if_neg (by omega)
theorem figR_ok {c : Nat → Nat} {L q g : Nat} {S : LNS} {v : LNS × Nat} (hg : g < 2) (hq : q ≤ L) (hA : okA S.1) (hR : okR S.1 0 0 S.2.1) (hn : aN S.1 (3 + g) < 7) (h : figR c L g S q = .ok v) : okA v.1.1 ∧ okR v.1.1 0 0 v.1.2.1 ∧ v.1.2.2 = S.2.2 ∧ (∀ i, i ≠ 3 + g → aN v.1.1 i = aN S.1 i) ∧ (∀ i, aC v.1.1 i = aC S.1 i) ∧ q < v.2 ∧ v.2 ≤ L := by
  obtain ⟨a, h1, h⟩ := eb_ok h
  obtain ⟨a1, a2, a3, a4⟩ := numR_ok hq h1
  obtain ⟨bb, h2, h⟩ := eb_ok h
  obtain ⟨b1', b2', b3', b4⟩ := numR_ok a4 h2
  obtain ⟨f1, f2, f3⟩ := closeR_ok b4 h
  rw [f1]
  obtain ⟨k0, k1, k2, k3, k4, k5, k6, k7, k8, k9, k10, k11, k12⟩ := hA
  have hrow : ∀ A' : LA, aN A' 0 = aN S.1 0 → (∀ b, b < 2 → aN A' (5 + b) = aN S.1 (5 + b)) → okR A' 0 0 S.2.1 := fun A' e0 e1 => okR_row hR (Or.inl rfl) (Or.inl rfl) (Or.inl rfl) (fun j _ _ => rfl) (Or.inl rfl) (fun b hb i hi => by
    rw [e1 b hb] at hi
    rw [e0]
    exact hR.2.2.2.2.2.2.2.2.2.2.2.1 b hb i hi) (fun i hi => hR.2.2.2.2.2.2.2.2.2.2.2.2.1 i hi) (fun j _ => rfl)
  rcases (show g = 0 ∨ g = 1 by omega) with z | z <;> subst z
  · have hn' : aN S.1 3 < 7 := hn
    refine ⟨⟨k0, k1, k2, by show aN S.1 3 + 1 ≤ 7; omega, k4, k5, k6, k7, k8, k9, fun i hi => ?_, k11, k12⟩, hrow _ rfl (fun b hb => if_neg (by omega)), rfl, fun i hi => if_neg hi, fun i => rfl, by omega, f3⟩
    have hi' : i < aN S.1 3 + 1 := hi
    simp only [aF_N, aF_F]
    by_cases e : i = aN S.1 3
    · subst e
      simp
      exact ⟨inB_nI a2, inB_nI b2'⟩
    · simp [e]
      exact k10 i (by omega)
  · have hn' : aN S.1 4 < 7 := hn
    refine ⟨⟨k0, k1, k2, k3, by show aN S.1 4 + 1 ≤ 7; omega, k5, k6, k7, k8, k9, k10, fun i hi => ?_, k12⟩, hrow _ rfl (fun b hb => if_neg (by omega)), rfl, fun i hi => if_neg hi, fun i => rfl, by omega, f3⟩
    have hi' : i < aN S.1 4 + 1 := hi
    simp only [aF_N, aF_F]
    by_cases e : i = aN S.1 4
    · subst e
      simp
      exact ⟨inB_nI a2, inB_nI b2'⟩
    · simp [e]
      exact k11 i (by omega)
theorem wfC_ne {l : List Int32} (h : wfC l 0) : l ≠ [] := fun e => by
  rw [e] at h
  unfold wfC at h
  omega
theorem rulR_ok {c : Nat → Nat} {L q i : Nat} {vf : Nat → Int32} {S : LNS} {v : LNS × Nat} (hi : i < 2) (hvf : vfOk vf (6 - i)) (hq : q ≤ L) (hA : okA S.1) (hR : okR S.1 0 0 S.2.1) (h : rulR c L i vf S q = .ok v) : okA v.1.1 ∧ okR v.1.1 0 0 v.1.2.1 ∧ v.1.2.2 = S.2.2 ∧ (∀ j, aN v.1.1 j = aN S.1 j) ∧ aC v.1.1 i ≠ [] ∧ (∀ j, j ≠ i → aC v.1.1 j = aC S.1 j) ∧ q < v.2 ∧ v.2 ≤ L := by
  obtain ⟨w, h1, h⟩ := eb_ok h
  obtain ⟨a1, a2, a3, a4⟩ := rexp_c hvf hq (q2 := w.2) (l := w.1) h1
  obtain ⟨f1, f2, f3⟩ := closeR_ok a2 h
  rw [f1]
  obtain ⟨k0, k1, k2, k3, k4, k5, k6, k7, k8, k9, k10, k11, k12⟩ := hA
  refine ⟨⟨k0, k1, k2, k3, k4, k5, k6, k7, k8, k9, k10, k11, fun j hj => ?_⟩, ?_, rfl, fun j => rfl, ?_, fun j hj => if_neg hj, by omega, f3⟩
  · show aC (setC S.1 i w.1) j = [] ∨ wfC (aC (setC S.1 i w.1) j) 0 ∧ ∀ x ∈ aC (setC S.1 i w.1) j, -7 < x → x < 0 → ((-1) - x).toNatClampNeg < 6 - j
    rw [aC_C]
    by_cases e : j = i
    · rw [if_pos e]
      exact Or.inr ⟨a3, fun x z1 z2 z3 => by have := a4 x z1 z2 z3; omega⟩
    · rw [if_neg e]; exact k12 j hj
  · exact okR_row hR (Or.inl rfl) (Or.inl rfl) (Or.inl rfl) (fun j _ _ => rfl) (Or.inl rfl) (fun b hb i hi => hR.2.2.2.2.2.2.2.2.2.2.2.1 b hb i hi) (fun i hi => hR.2.2.2.2.2.2.2.2.2.2.2.2.1 i hi) (fun j _ => rfl)
  · show aC (setC S.1 i w.1) i ≠ []
    rw [aC_C, if_pos rfl]
    exact wfC_ne a3
theorem vS_ok : vfOk vS 6 := ⟨by decide, fun w hw => (by decide : ∀ w, w < 23 → wIS (1000 + w) = -1 ∨ ∃ i, i < 6 ∧ wIS (1000 + w) = nI i) w (by omega)⟩
theorem vL_ok : vfOk vL 5 := ⟨by decide, fun w hw => (by decide : ∀ w, w < 23 → wIL (1000 + w) = -1 ∨ ∃ i, i < 5 ∧ wIL (1000 + w) = nI i) w (by omega)⟩
theorem onceR_ok {c : Nat → Nat} {L i q : Nat} {k : LNS → Nat → RLN} {S : LNS} {v : LNS × Nat} (h : onceR c L i k S q = .ok v) : ¬ S.2.2.testBit i = true ∧ k (S.1, S.2.1, S.2.2 ||| 2 ^ i) (tN c L q) = .ok v := by
  unfold onceR at h
  split at h
  · cases h
  · next z => exact ⟨z, h⟩
theorem belR_ok {c : Nat → Nat} {L i most q : Nat} {k : LNS → Nat → RLN} {S : LNS} {v : LNS × Nat} (h : belR c L i most k S q = .ok v) : aN S.1 i < most ∧ k S (tN c L q) = .ok v := by
  unfold belR at h
  split at h
  · next z => exact ⟨z, h⟩
  · cases h
theorem lineR_ok {c : Nat → Nat} {L q : Nat} {S : LNS} {v : LNS × Nat} (hq : q ≤ L) (hS : invS S) (h : lineR c L S q = .ok v) : invS v.1 ∧ q < v.2 ∧ v.2 ≤ L := by
  obtain ⟨s1, s2, s3, s4, s5, s6, s7, s8⟩ := hS
  have n4 := (tN_le (c := c) hq).2
  have n3 : q ≤ tN c L q := by have := tP_le (c := c) hq; have := tN_le (c := c) hq; omega
  have mb : ∀ i, i < 7 → S.2.2 ||| 2 ^ i < 128 ∧ ∀ j, j < 7 → (S.2.2 ||| 2 ^ i).testBit j = (S.2.2.testBit j || decide (j = i)) := mask_b S.2.2 s3
  have oth : ∀ i j, i < 7 → j < 7 → j ≠ i → ((S.2.2 ||| 2 ^ i).testBit j = true ↔ S.2.2.testBit j = true) := fun i j hi hj hn => by
    rw [(mb i hi).2 j hj, decide_eq_false hn, Bool.or_false]
  have own : ∀ i, i < 7 → (S.2.2 ||| 2 ^ i).testBit i = true := fun i hi => by
    rw [(mb i hi).2 i hi, decide_eq_true rfl, Bool.or_true]
  unfold lineR at h
  split at h
  · obtain ⟨-, h⟩ := onceR_ok h
    obtain ⟨r1, r2, r3, r4, r5⟩ := cityR_ok (S := (S.1, S.2.1, S.2.2 ||| 2 ^ 0)) n4 s1 s2 h
    have r3' : v.1.2.2 = S.2.2 ||| 2 ^ 0 := r3
    have r1' : v.1.1 = S.1 := r1
    unfold invS
    rw [r1', r3']
    exact ⟨⟨s1, r2, (mb 0 (by decide)).1, (oth 0 1 (by decide) (by decide) (by decide)).trans s4, (oth 0 2 (by decide) (by decide) (by decide)).trans s5, (oth 0 3 (by decide) (by decide) (by decide)).trans s6, (oth 0 5 (by decide) (by decide) (by decide)).trans s7, (oth 0 6 (by decide) (by decide) (by decide)).trans s8⟩, by omega, r5⟩
  · split at h
    · obtain ⟨hb, h⟩ := belR_ok h
      obtain ⟨r1, r2, r3, r4, r5, r6, r7⟩ := deedR_ok n4 s1 s2 hb h
      unfold invS
      rw [r3, r4 5 (by decide), r4 6 (by decide), r4 1 (by decide), r5, r5]
      exact ⟨⟨r1, r2, s3, s4, s5, s6, s7, s8⟩, by omega, r7⟩
    · split at h
      · obtain ⟨-, h⟩ := onceR_ok h
        obtain ⟨r1, r2, r3, r4, r5, r6, r7, r8⟩ := wayLR_ok (b := 0) (S := (S.1, S.2.1, S.2.2 ||| 2 ^ 1)) (by decide) n4 s1 s2 h
        have r3' : v.1.2.2 = S.2.2 ||| 2 ^ 1 := r3
        unfold invS
        rw [r3', r4 6 (by decide), r4 1 (by decide), r6, r6]
        exact ⟨⟨r1, r2, (mb 1 (by decide)).1, ⟨fun _ => r5, fun _ => own 1 (by decide)⟩, (oth 1 2 (by decide) (by decide) (by decide)).trans s5, (oth 1 3 (by decide) (by decide) (by decide)).trans s6, (oth 1 5 (by decide) (by decide) (by decide)).trans s7, (oth 1 6 (by decide) (by decide) (by decide)).trans s8⟩, by omega, r8⟩
      · split at h
        · obtain ⟨-, h⟩ := onceR_ok h
          obtain ⟨r1, r2, r3, r4, r5, r6, r7, r8⟩ := wayLR_ok (b := 1) (S := (S.1, S.2.1, S.2.2 ||| 2 ^ 2)) (by decide) n4 s1 s2 h
          have r3' : v.1.2.2 = S.2.2 ||| 2 ^ 2 := r3
          unfold invS
          rw [r3', r4 5 (by decide), r4 1 (by decide), r6, r6]
          exact ⟨⟨r1, r2, (mb 2 (by decide)).1, (oth 2 1 (by decide) (by decide) (by decide)).trans s4, ⟨fun _ => r5, fun _ => own 2 (by decide)⟩, (oth 2 3 (by decide) (by decide) (by decide)).trans s6, (oth 2 5 (by decide) (by decide) (by decide)).trans s7, (oth 2 6 (by decide) (by decide) (by decide)).trans s8⟩, by omega, r8⟩
        · split at h
          · obtain ⟨-, h⟩ := onceR_ok h
            obtain ⟨r1, r2, r3, r4, r5, r6, r7, r8⟩ := harR_ok (S := (S.1, S.2.1, S.2.2 ||| 2 ^ 3)) n4 s1 s2 h
            have r3' : v.1.2.2 = S.2.2 ||| 2 ^ 3 := r3
            unfold invS
            rw [r3', r4 5 (by decide), r4 6 (by decide), r6, r6]
            exact ⟨⟨r1, r2, (mb 3 (by decide)).1, (oth 3 1 (by decide) (by decide) (by decide)).trans s4, (oth 3 2 (by decide) (by decide) (by decide)).trans s5, ⟨fun _ => r5, fun _ => own 3 (by decide)⟩, (oth 3 5 (by decide) (by decide) (by decide)).trans s7, (oth 3 6 (by decide) (by decide) (by decide)).trans s8⟩, by omega, r8⟩
          · split at h
            · obtain ⟨-, h⟩ := onceR_ok h
              obtain ⟨r1, r2, r3, r4, r5⟩ := termLR_ok (S := (S.1, S.2.1, S.2.2 ||| 2 ^ 4)) n4 s2 h
              have r3' : v.1.2.2 = S.2.2 ||| 2 ^ 4 := r3
              have r1' : v.1.1 = S.1 := r1
              unfold invS
              rw [r1', r3']
              exact ⟨⟨s1, r2, (mb 4 (by decide)).1, (oth 4 1 (by decide) (by decide) (by decide)).trans s4, (oth 4 2 (by decide) (by decide) (by decide)).trans s5, (oth 4 3 (by decide) (by decide) (by decide)).trans s6, (oth 4 5 (by decide) (by decide) (by decide)).trans s7, (oth 4 6 (by decide) (by decide) (by decide)).trans s8⟩, by omega, r5⟩
            · split at h
              · obtain ⟨hb, h⟩ := belR_ok h
                obtain ⟨r1, r2, r3, r4, r5, r6, r7⟩ := friR_ok n4 s1 s2 hb h
                unfold invS
                rw [r3, r4 5 (by decide), r4 6 (by decide), r4 1 (by decide), r5, r5]
                exact ⟨⟨r1, r2, s3, s4, s5, s6, s7, s8⟩, by omega, r7⟩
              · split at h
                · obtain ⟨hb, h⟩ := belR_ok h
                  obtain ⟨r1, r2, r3, r4, r5, r6, r7⟩ := figR_ok (g := 0) (by decide) n4 s1 s2 hb h
                  unfold invS
                  rw [r3, r4 5 (by decide), r4 6 (by decide), r4 1 (by decide), r5, r5]
                  exact ⟨⟨r1, r2, s3, s4, s5, s6, s7, s8⟩, by omega, r7⟩
                · split at h
                  · obtain ⟨hb, h⟩ := belR_ok h
                    obtain ⟨r1, r2, r3, r4, r5, r6, r7⟩ := figR_ok (g := 1) (by decide) n4 s1 s2 hb h
                    unfold invS
                    rw [r3, r4 5 (by decide), r4 6 (by decide), r4 1 (by decide), r5, r5]
                    exact ⟨⟨r1, r2, s3, s4, s5, s6, s7, s8⟩, by omega, r7⟩
                  · split at h
                    · obtain ⟨-, h⟩ := onceR_ok h
                      obtain ⟨r1, r2, r3, r4, r5, r6, r7, r8⟩ := rulR_ok (i := 0) (S := (S.1, S.2.1, S.2.2 ||| 2 ^ 5)) (by decide) vS_ok n4 s1 s2 h
                      have r3' : v.1.2.2 = S.2.2 ||| 2 ^ 5 := r3
                      unfold invS
                      rw [r3', r4, r4, r4, r6 1 (by decide)]
                      exact ⟨⟨r1, r2, (mb 5 (by decide)).1, (oth 5 1 (by decide) (by decide) (by decide)).trans s4, (oth 5 2 (by decide) (by decide) (by decide)).trans s5, (oth 5 3 (by decide) (by decide) (by decide)).trans s6, ⟨fun _ => r5, fun _ => own 5 (by decide)⟩, (oth 5 6 (by decide) (by decide) (by decide)).trans s8⟩, by omega, r8⟩
                    · split at h
                      · obtain ⟨-, h⟩ := onceR_ok h
                        obtain ⟨r1, r2, r3, r4, r5, r6, r7, r8⟩ := rulR_ok (i := 1) (S := (S.1, S.2.1, S.2.2 ||| 2 ^ 6)) (by decide) vL_ok n4 s1 s2 h
                        have r3' : v.1.2.2 = S.2.2 ||| 2 ^ 6 := r3
                        unfold invS
                        rw [r3', r4, r4, r4, r6 0 (by decide)]
                        exact ⟨⟨r1, r2, (mb 6 (by decide)).1, (oth 6 1 (by decide) (by decide) (by decide)).trans s4, (oth 6 2 (by decide) (by decide) (by decide)).trans s5, (oth 6 3 (by decide) (by decide) (by decide)).trans s6, (oth 6 5 (by decide) (by decide) (by decide)).trans s7, ⟨fun _ => r5, fun _ => own 6 (by decide)⟩⟩, by omega, r8⟩
                      · cases h
