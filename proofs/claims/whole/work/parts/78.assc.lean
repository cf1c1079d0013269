/-! QUESTIONS: the assault. What both reckon; the class -/
/-- most that win behind the first g gates looked at: a set of free gates, what those behind can do -/
def mxG (W : Nat → Nat → Bool) (prev : Nat → Nat) (k s : Nat) : Nat → Nat
  | 0 => prev s
  | g + 1 => if s.testBit g = true ∧ W k g = true ∧ mxG W prev k s g < prev (s ^^^ 2 ^ g) + 1 then prev (s ^^^ 2 ^ g) + 1 else mxG W prev k s g
def mxV (W : Nat → Nat → Bool) (G : Nat) : Nat → Nat → Nat → Nat
  | 0, _, _ => 0
  | n + 1, k, s => mxG W (mxV W G n (k + 1)) k s G
/-- the first best gate, among the first g -/
def bst (W : Nat → Nat → Bool) (prev : Nat → Nat) (k s : Nat) : Nat → Int32 × Nat
  | 0 => (-1, 0)
  | g + 1 => if s.testBit g = true ∧ W k g = true ∧ (bst W prev k s g).2 < prev (s ^^^ 2 ^ g) + 1 then (nI g, prev (s ^^^ 2 ^ g) + 1) else bst W prev k s g
/-- the least gate by which the most is reached -/
def itF (W : Nat → Nat → Bool) (prev : Nat → Nat) (k s v : Nat) : Nat → Int32 → Int32
  | 0, x => x
  | g + 1, x => itF W prev k s v g (if s.testBit g = true ∧ W k g = true ∧ prev (s ^^^ 2 ^ g) + 1 = v then nI g else x)
theorem mxG_le {W : Nat → Nat → Bool} {prev : Nat → Nat} {k s n : Nat} (h : ∀ s, prev s ≤ n) : ∀ g, mxG W prev k s g ≤ n + 1 := by
  intro g
  induction g with
  | zero => have := h s; unfold mxG; omega
  | succ g ih =>
    unfold mxG
    split
    · have := h (s ^^^ 2 ^ g); omega
    · exact ih
theorem mxV_le {W : Nat → Nat → Bool} {G : Nat} : ∀ n k s, mxV W G n k s ≤ n := by
  intro n
  induction n with
  | zero => intro k s; exact Nat.le_refl _
  | succ n ih => intro k s; exact mxG_le (fun s => ih (k + 1) s) G
theorem mxG_b {W : Nat → Nat → Bool} {prev : Nat → Nat} {k s : Nat} : ∀ g, mxG W prev k s g = if prev s < (bst W prev k s g).2 then (bst W prev k s g).2 else prev s := by
  intro g
  induction g with
  | zero => rfl
  | succ g ih =>
    unfold mxG bst
    rw [ih]
    by_cases h1 : s.testBit g = true ∧ W k g = true
    · by_cases h2 : (bst W prev k s g).2 < prev (s ^^^ 2 ^ g) + 1
      · rw [if_pos (show s.testBit g = true ∧ W k g = true ∧ (bst W prev k s g).2 < prev (s ^^^ 2 ^ g) + 1 from ⟨h1.1, h1.2, h2⟩)]
        by_cases h3 : prev s < prev (s ^^^ 2 ^ g) + 1
        · rw [if_pos (show prev s < (nI g, prev (s ^^^ 2 ^ g) + 1).2 from h3), if_pos]
          refine ⟨h1.1, h1.2, ?_⟩
          split
          · exact h2
          · exact h3
        · rw [if_neg (show ¬ prev s < (nI g, prev (s ^^^ 2 ^ g) + 1).2 from h3), if_neg (show ¬ prev s < (bst W prev k s g).2 by omega), if_neg]
          rintro ⟨_, _, z⟩
          exact h3 z
      · rw [if_neg (show ¬ (s.testBit g = true ∧ W k g = true ∧ (bst W prev k s g).2 < prev (s ^^^ 2 ^ g) + 1) from fun z => h2 z.2.2), if_neg]
        rintro ⟨_, _, z⟩
        split at z
        · exact h2 z
        · next h4 => omega
    · rw [if_neg (show ¬ (s.testBit g = true ∧ W k g = true ∧ (bst W prev k s g).2 < prev (s ^^^ 2 ^ g) + 1) from fun z => h1 ⟨z.1, z.2.1⟩), if_neg (fun z => h1 ⟨z.1, z.2.1⟩)]
theorem bst_i {W : Nat → Nat → Bool} {prev : Nat → Nat} {k s : Nat} : ∀ g, (∀ j, j < g → s.testBit j = true → W k j = true → prev (s ^^^ 2 ^ j) + 1 ≤ (bst W prev k s g).2) ∧ ((bst W prev k s g).1 = -1 ∧ (bst W prev k s g).2 = 0 ∨ ∃ j0, j0 < g ∧ s.testBit j0 = true ∧ W k j0 = true ∧ (bst W prev k s g).1 = nI j0 ∧ (bst W prev k s g).2 = prev (s ^^^ 2 ^ j0) + 1 ∧ ∀ j, j < j0 → s.testBit j = true → W k j = true → prev (s ^^^ 2 ^ j) + 1 < (bst W prev k s g).2) := by
  intro g
  induction g with
  | zero => exact ⟨fun j h => absurd h (by omega), Or.inl ⟨rfl, rfl⟩⟩
  | succ g ih =>
    obtain ⟨i1, i2⟩ := ih
    unfold bst
    by_cases h : s.testBit g = true ∧ W k g = true ∧ (bst W prev k s g).2 < prev (s ^^^ 2 ^ g) + 1
    · rw [if_pos h]
      refine ⟨fun j hj t1 t2 => ?_, Or.inr ⟨g, Nat.lt_succ_self _, h.1, h.2.1, rfl, rfl, fun j hj t1 t2 => ?_⟩⟩
      · show _ ≤ prev (s ^^^ 2 ^ g) + 1
        by_cases e : j = g
        · rw [e]; exact Nat.le_refl _
        · have := i1 j (by omega) t1 t2
          omega
      · show _ < prev (s ^^^ 2 ^ g) + 1
        have := i1 j hj t1 t2
        omega
    · rw [if_neg h]
      refine ⟨fun j hj t1 t2 => ?_, ?_⟩
      · by_cases e : j = g
        · subst e
          exact Nat.le_of_not_lt fun z => h ⟨t1, t2, z⟩
        · exact i1 j (by omega) t1 t2
      · rcases i2 with q | ⟨j0, q1, q2⟩
        · exact Or.inl q
        · exact Or.inr ⟨j0, by omega, q2⟩
theorem itF_no {W : Nat → Nat → Bool} {prev : Nat → Nat} {k s v : Nat} : ∀ (g : Nat) (x : Int32), (∀ j, j < g → ¬ (s.testBit j = true ∧ W k j = true ∧ prev (s ^^^ 2 ^ j) + 1 = v)) → itF W prev k s v g x = x := by
  intro g
  induction g with
  | zero => intro x h; rfl
  | succ g ih =>
    intro x h
    unfold itF
    rw [if_neg (h g (Nat.lt_succ_self _))]
    exact ih x fun j hj => h j (by omega)
theorem itF_at {W : Nat → Nat → Bool} {prev : Nat → Nat} {k s v j0 : Nat} (h0 : s.testBit j0 = true ∧ W k j0 = true ∧ prev (s ^^^ 2 ^ j0) + 1 = v) (hl : ∀ j, j < j0 → ¬ (s.testBit j = true ∧ W k j = true ∧ prev (s ^^^ 2 ^ j) + 1 = v)) : ∀ (g : Nat) (x : Int32), j0 < g → itF W prev k s v g x = nI j0 := by
  intro g
  induction g with
  | zero => intro x h; exact absurd h (by omega)
  | succ g ih =>
    intro x h
    unfold itF
    by_cases e : j0 = g
    · subst e
      rw [if_pos h0]
      exact itF_no _ _ hl
    · exact ih _ (by omega)
/-- what the class takes is what the reference takes -/
theorem bst_it {W : Nat → Nat → Bool} {prev : Nat → Nat} {k s g : Nat} : (if (bst W prev k s g).2 < prev s then -1 else (bst W prev k s g).1) = itF W prev k s (mxG W prev k s g) g (-1) := by
  obtain ⟨i1, i2⟩ := bst_i (W := W) (prev := prev) (k := k) (s := s) g
  rw [mxG_b]
  rcases i2 with ⟨q1, q2⟩ | ⟨j0, q1, q2, q3, q4, q5, q6⟩
  · rw [q1, ite_self, itF_no]
    rintro j hj ⟨z1, z2, z3⟩
    have := i1 j hj z1 z2
    omega
  · by_cases h : (bst W prev k s g).2 < prev s
    · rw [if_pos h, itF_no]
      rintro j hj ⟨z1, z2, z3⟩
      have := i1 j hj z1 z2
      rw [if_neg (by omega)] at z3
      omega
    · rw [if_neg h, q4]
      refine (itF_at ⟨q2, q3, ?_⟩ ?_ g (-1) q1).symm
      · split <;> omega
      · rintro j hj ⟨z1, z2, z3⟩
        have := q6 j hj z1 z2
        split at z3 <;> omega
theorem mxG_ge {W : Nat → Nat → Bool} {prev : Nat → Nat} {k s G : Nat} (h : ∀ g, G ≤ g → s.testBit g = false) : ∀ d, bst W prev k s (G + d) = bst W prev k s G := by
  intro d
  induction d with
  | zero => rfl
  | succ d ih =>
    rw [← Nat.add_assoc, bst, if_neg, ih]
    rintro ⟨z, _⟩
    rw [h _ (by omega)] at z
    exact absurd z (by decide)
-- bits
theorem x_nI : ∀ s, s < 128 → ∀ g, g < 7 → nI s ^^^ nI (2 ^ g) = nI (s ^^^ 2 ^ g) ∧ (nI s &&& nI (2 ^ g) = 0 ↔ s.testBit g = false) ∧ (s.testBit g = true → s ^^^ 2 ^ g < s ∧ nI s &&& (nI (2 ^ g) ^^^ (-1)) = nI (s ^^^ 2 ^ g)) := by decide +kernel
theorem s_hi {s G : Nat} (h : s < 2 ^ G) : ∀ g, G ≤ g → s.testBit g = false := fun g hg => Nat.testBit_lt_two_pow (Nat.lt_of_lt_of_le h (Nat.pow_le_pow_right (by decide) hg))
theorem G_128 {A : LA} (hA : okA A) : 2 ^ aN A 4 ≤ 128 := pow_128 _ (by have := hA.2.2.2.2.1; omega)
-- the class
def pd (c : Nat) : Int32 := nI c - 1
theorem pd_s (c : Nat) : pd (c + 1) = nI c := by unfold pd; rw [nI_m1 (by omega), Nat.add_sub_cancel]
theorem pd_n (c : Nat) : nI c + (-1) = pd c := by unfold pd; rw [Int32.sub_eq_add_neg]
theorem pd_lt {c f : Nat} (hc : c < 2 ^ 31) (hf : f < 2 ^ 31) : pd c < nI f ↔ c ≤ f := by
  cases c with
  | zero =>
    refine ⟨fun _ => Nat.zero_le _, fun _ => ?_⟩
    rw [Int32.lt_iff_toInt_lt, nI_toInt hf, show (pd 0).toInt = -1 from by decide]
    omega
  | succ c => rw [pd_s, lt_nI (by omega) hf]; exact Iff.rfl
theorem beat_ok {A : LA} {M : Mem} (h : Rel A M) {c : Nat} (hc : c < aN A 3) : fX12_beatenBy M (nI c) = some (nI (fN (winR A (rB M 0) c) (aN A 4))) := by
  have := h.1.2.2.2.2.1
  exact beat_l h hc (aN A 4) 0 FU (by omega) (by show _ < 100000; omega)
theorem fillG {A : LA} {M : Mem} {c s : Nat} {x1 : Int32} {prev : Nat → Nat} (h : Rel A M) (hs0 : 0 < s) (hs : s < 2 ^ aN A 4) (hp : ∀ s, prev s ≤ 7) (a54 : Mem → Int32 → Int32 → Int32 → Option Mem) (a73 : Mem → Int32 → Int32 → Int32 → Int32 → Int32 → Option Mem) :
    ∀ (d g fuel : Nat) (M1 : Mem), RO M M1 → (∀ t, t < s → gI M1 102 t = nI (prev t)) → gI M1 102 s = nI (mxG (winR A (rB M 0)) prev c s g) → g + d = aN A 4 → d < fuel → ∃ M2, fX12_fillReach_l81 a54 a73 fuel M1 x1 (nI (aN A 4)) (nI c) (nI (fN (winR A (rB M 0) c) (aN A 4))) (nI s) (nI g) = a73 M2 x1 (nI (aN A 4)) (nI c) (nI (fN (winR A (rB M 0) c) (aN A 4))) (nI (s - 1)) ∧ RO M M2 ∧ (∀ t, t ≠ s → gI M2 102 t = gI M1 102 t) ∧ gI M2 102 s = nI (mxG (winR A (rB M 0)) prev c s (aN A 4)) := by
  have hG := h.1.2.2.2.2.1
  have h128 := G_128 h.1
  have hfN : fN (winR A (rB M 0) c) (aN A 4) < 128 := Nat.lt_of_lt_of_le (fN_lt _) h128
  intro d
  induction d with
  | zero =>
    intro g fuel M1 f ho hn hg hf
    obtain ⟨m, rfl⟩ : ∃ m, fuel = m + 1 := ⟨fuel - 1, by omega⟩
    have e : g = aN A 4 := by omega
    subst e
    rw [fX12_fillReach_l81, if_neg (by rw [lt_nI (by omega) (by omega)]; omega), pu_s, nI_n1 (by omega)]
    exact ⟨M1, rfl, f, fun _ _ => rfl, hn⟩
  | succ d ih =>
    intro g fuel M1 f ho hn hg hf
    obtain ⟨m, rfl⟩ : ∃ m, fuel = m + 1 := ⟨fuel - 1, by omega⟩
    have hg4 : g < aN A 4 := by omega
    obtain ⟨b1', b2', b3'⟩ := x_nI s (by omega) g (by omega)
    have hand : s &&& fN (winR A (rB M 0) c) (aN A 4) < 128 := Nat.lt_of_le_of_lt Nat.and_le_left (by omega)
    obtain ⟨-, a2', -⟩ := x_nI (s &&& fN (winR A (rB M 0) c) (aN A 4)) hand g (by omega)
    have htb : (s &&& fN (winR A (rB M 0) c) (aN A 4)).testBit g = (s.testBit g && winR A (rB M 0) c g) := by rw [Nat.testBit_and, fN_tb, decide_eq_true hg4, Bool.true_and]
    have b145 : ∀ N, RO M N → (∀ t, t ≠ s → gI N 102 t = gI M1 102 t) → gI N 102 s = nI (mxG (winR A (rB M 0)) prev c s (g + 1)) → ∃ M2, fX12_fillReach_b145 a54 a73 (fX12_fillReach_l81 a54 a73 m) N x1 (nI (aN A 4)) (nI c) (nI (fN (winR A (rB M 0) c) (aN A 4))) (nI s) (nI g) = a73 M2 x1 (nI (aN A 4)) (nI c) (nI (fN (winR A (rB M 0) c) (aN A 4))) (nI (s - 1)) ∧ RO M M2 ∧ (∀ t, t ≠ s → gI M2 102 t = gI M1 102 t) ∧ gI M2 102 s = nI (mxG (winR A (rB M 0)) prev c s (aN A 4)) := by
      intro N fN' h1 h2
      obtain ⟨M2, p1, p2, p3, p4⟩ := ih (g + 1) m N fN' (fun t ht => (h1 t (by omega)).trans (ho t ht)) h2 (by omega) (by omega)
      refine ⟨M2, ?_, p2, fun t ht => (p3 t ht).trans (h1 t ht), p4⟩
      unfold fX12_fillReach_b145
      rw [pu_s, nI_1]
      exact p1
    have hmx := mxG_le (W := winR A (rB M 0)) (k := c) (s := s) hp g
    have hpx := hp (s ^^^ 2 ^ g)
    rw [fX12_fillReach_l81, if_pos (by rw [lt_nI (by omega) (by omega)]; omega), pu_s, shl_nI g (by omega), and_nI (by omega) (by omega)]
    by_cases q : s.testBit g = true ∧ winR A (rB M 0) c g = true
    · obtain ⟨x1', x2'⟩ := b3' q.1
      rw [if_neg (fun z => by have := a2'.mp z; rw [htb, q.1, q.2] at this; exact absurd this (by decide)), b1', ldI_nI (by omega) (by decide), ldI_nI (by omega) (by decide), ho _ x1', hn, nI_1]
      by_cases q2 : mxG (winR A (rB M 0)) prev c s g < prev (s ^^^ 2 ^ g) + 1
      · rw [if_pos (by rw [lt_nI (by omega) (by omega)]; exact q2), ldI_nI (by omega) (by decide), ho _ x1', nI_1, stI_nI (by omega) (by decide)]
        refine b145 _ (f.st (by unfold scr; omega)) (fun t ht => gI_sj ht) ?_
        rw [gI_ss, mxG, if_pos ⟨q.1, q.2, q2⟩]
      · rw [if_neg (by rw [lt_nI (by omega) (by omega)]; exact q2)]
        refine b145 M1 f (fun _ _ => rfl) ?_
        rw [hn, mxG, if_neg (fun z => q2 z.2.2)]
    · rw [if_pos (a2'.mpr (by
        rw [htb]
        cases z1 : s.testBit g
        · rfl
        · cases z2 : winR A (rB M 0) c g
          · rfl
          · exact absurd ⟨z1, z2⟩ q))]
      refine b145 M1 f (fun _ _ => rfl) ?_
      rw [hn, mxG, if_neg (fun z => q ⟨z.1, z.2.1⟩)]
theorem fillS {A : LA} {M : Mem} {c : Nat} {x1 : Int32} {prev : Nat → Nat} (h : Rel A M) (hp : ∀ s, prev s ≤ 7) (hp0 : mxG (winR A (rB M 0)) prev c 0 (aN A 4) = prev 0) (a54 : Mem → Int32 → Int32 → Int32 → Option Mem) :
    ∀ (s fuel : Nat) (M1 : Mem), RO M M1 → s < 2 ^ aN A 4 → (∀ t, t ≤ s → gI M1 102 t = nI (prev t)) → (∀ t, s < t → t < 2 ^ aN A 4 → gI M1 102 t = nI (mxG (winR A (rB M 0)) prev c t (aN A 4))) → s < fuel → ∃ M2, fX12_fillReach_l73 a54 fuel M1 x1 (nI (aN A 4)) (nI c) (nI (fN (winR A (rB M 0) c) (aN A 4))) (nI s) = a54 M2 x1 (nI (aN A 4)) (pd c) ∧ RO M M2 ∧ ∀ t, t < 2 ^ aN A 4 → gI M2 102 t = nI (mxG (winR A (rB M 0)) prev c t (aN A 4)) := by
  have hG := h.1.2.2.2.2.1
  have h128 := G_128 h.1
  intro s
  induction s with
  | zero =>
    intro fuel M1 f hs ho hn hf
    obtain ⟨m, rfl⟩ : ∃ m, fuel = m + 1 := ⟨fuel - 1, by omega⟩
    rw [fX12_fillReach_l73, if_neg (by decide), pu_s, pd_n]
    refine ⟨M1, rfl, f, fun t ht => ?_⟩
    by_cases q : t = 0
    · rw [q, ho 0 (Nat.le_refl _), hp0]
    · exact hn t (by omega) ht
  | succ s ih =>
    intro fuel M1 f hs ho hn hf
    obtain ⟨m, rfl⟩ : ∃ m, fuel = m + 1 := ⟨fuel - 1, by omega⟩
    obtain ⟨M2, p1, p2, p3, p4⟩ := fillG (x1 := x1) (c := c) (s := s + 1) h (by omega) hs hp a54 (fX12_fillReach_l73 a54 m) (aN A 4) 0 FU M1 f (fun t ht => ho t (by omega)) (by rw [mxG]; exact ho _ (Nat.le_refl _)) (by omega) (by show _ < 100000; omega)
    rw [fX12_fillReach_l73, if_pos (by rw [show (0 : Int32) = nI 0 from rfl, lt_nI (by omega) (by omega)]; omega), show fX12_fillReach_l81 a54 (fX12_fillReach_l73 a54 m) FU M1 x1 (nI (aN A 4)) (nI c) (nI (fN (winR A (rB M 0) c) (aN A 4))) (nI (s + 1)) 0 = _ from p1, Nat.add_sub_cancel]
    refine ih m M2 p2 (by omega) (fun t ht => ?_) (fun t ht ht2 => ?_) (by omega)
    · rw [p3 t (by omega)]; exact ho t (by omega)
    · by_cases q : t = s + 1
      · rw [q]; exact p4
      · rw [p3 t q]; exact hn t (by omega) ht2
theorem mxV_0 {W : Nat → Nat → Bool} {G : Nat} : ∀ n k, mxV W G n k 0 = 0 := by
  have key : ∀ (prev : Nat → Nat) (k : Nat), prev 0 = 0 → ∀ g, mxG W prev k 0 g = 0 := by
    intro prev k h g
    induction g with
    | zero => exact h
    | succ g ih =>
      unfold mxG
      rw [if_neg, ih]
      rintro ⟨z, _⟩
      rw [Nat.zero_testBit] at z
      exact absurd z (by decide)
  intro n
  induction n with
  | zero => intro k; rfl
  | succ n ih => intro k; exact key _ _ (ih (k + 1)) G
theorem fillC {A : LA} {M : Mem} {first : Nat} (h : Rel A M) (hf1 : first ≤ aN A 3) : ∀ (c n fuel : Nat) (M1 : Mem), RO M M1 → first ≤ c → c + n = aN A 3 → (∀ t, t < 2 ^ aN A 4 → gI M1 102 t = nI (mxV (winR A (rB M 0)) (aN A 4) n c t)) → c < fuel → ∃ M2, fX12_fillReach_l54 fuel M1 (nI first) (nI (aN A 4)) (pd c) = some M2 ∧ RO M M2 ∧ ∀ t, t < 2 ^ aN A 4 → gI M2 102 t = nI (mxV (winR A (rB M 0)) (aN A 4) (aN A 3 - first) first t) := by
  have hC := h.1.2.2.2.1
  have hG := h.1.2.2.2.2.1
  have h128 := G_128 h.1
  have hpos : 0 < 2 ^ aN A 4 := Nat.two_pow_pos _
  intro c
  induction c with
  | zero =>
    intro n fuel M1 f hc hn ho hf
    obtain ⟨m, rfl⟩ : ∃ m, fuel = m + 1 := ⟨fuel - 1, by omega⟩
    rw [fX12_fillReach_l54, if_pos ((pd_lt (by omega) (by omega)).mpr (by omega))]
    have e : first = 0 := by omega
    refine ⟨M1, rfl, f, fun t ht => ?_⟩
    rw [ho t ht, e, show aN A 3 - 0 = n by omega]
  | succ c ih =>
    intro n fuel M1 f hc hn ho hf
    obtain ⟨m, rfl⟩ : ∃ m, fuel = m + 1 := ⟨fuel - 1, by omega⟩
    by_cases q : first = c + 1
    · rw [fX12_fillReach_l54, if_pos ((pd_lt (by omega) (by omega)).mpr (by omega))]
      refine ⟨M1, rfl, f, fun t ht => ?_⟩
      rw [ho t ht, q, show aN A 3 - (c + 1) = n by omega]
    · have hb : fX12_beatenBy M1 (nI c) = some (nI (fN (winR A (rB M 0) c) (aN A 4))) := by
        have := beat_ok (h.ro f) (c := c) (by omega)
        rw [f.rB] at this
        exact this
      obtain ⟨M2, p1, p2, p3⟩ := fillS (x1 := nI first) (c := c) (prev := mxV (winR A (rB M 0)) (aN A 4) n (c + 1)) h (fun s => Nat.le_trans (mxV_le n (c + 1) s) (by omega)) (by rw [mxV_0]; exact mxV_0 (n + 1) c) (fX12_fillReach_l54 m) (2 ^ aN A 4 - 1) FU M1 f (by omega) (fun t ht => ho t (by omega)) (fun t ht ht2 => absurd ht (by omega)) (by show _ < 100000; omega)
      rw [fX12_fillReach_l54, if_neg (fun z => by have := (pd_lt (by omega) (by omega)).mp z; omega), pd_s, hb, b1_s, shl_nI _ (by omega), pu_s, nI_m1 hpos, p1]
      exact ih (n + 1) m M2 p2 (by omega) (by omega) p3 (by omega)
theorem fill16 {A : LA} {M : Mem} {first : Nat} (h : Rel A M) (hf1 : first ≤ aN A 3) : ∀ (d i fuel : Nat) (M1 : Mem), RO M M1 → (∀ t, t < i → gI M1 102 t = 0) → i + d = 128 → d < fuel → ∃ M2, fX12_fillReach_l16 fuel M1 (nI first) (nI (aN A 4)) (nI i) = some M2 ∧ RO M M2 ∧ ∀ t, t < 2 ^ aN A 4 → gI M2 102 t = nI (mxV (winR A (rB M 0)) (aN A 4) (aN A 3 - first) first t) := by
  have hC := h.1.2.2.2.1
  have h128 := G_128 h.1
  intro d
  induction d with
  | zero =>
    intro i fuel M1 f ho hi hf
    obtain ⟨m, rfl⟩ : ∃ m, fuel = m + 1 := ⟨fuel - 1, by omega⟩
    have hL := (h.ro f).2.1
    rw [fX12_fillReach_l16, show (128 : Int32) = nI 128 from rfl, if_neg (by rw [lt_nI (by omega) (by omega)]; omega), pu_s, ck_t hL.1, pu_s, hL.2.2.2.2.1, pu_s]
    exact fillC h hf1 (aN A 3) 0 FU M1 f hf1 (by omega) (fun t ht => ho t (by omega)) (by show _ < 100000; omega)
  | succ d ih =>
    intro i fuel M1 f ho hi hf
    obtain ⟨m, rfl⟩ : ∃ m, fuel = m + 1 := ⟨fuel - 1, by omega⟩
    rw [fX12_fillReach_l16, show (128 : Int32) = nI 128 from rfl, if_pos (by rw [lt_nI (by omega) (by omega)]; omega), stI_nI (by omega) (by decide), pu_s, nI_1]
    refine ih (i + 1) m _ (f.st (by unfold scr; omega)) (fun t ht => ?_) (by omega) (by omega)
    by_cases q : t = i
    · rw [q, gI_ss]
    · rw [gI_sj q]; exact ho t (by omega)
theorem fill_ok {A : LA} {M M1 : Mem} {first : Nat} (h : Rel A M) (f : RO M M1) (hf1 : first ≤ aN A 3) : ∃ M2, fX12_fillReach M1 (nI first) = some M2 ∧ RO M M2 ∧ ∀ t, t < 2 ^ aN A 4 → gI M2 102 t = nI (mxV (winR A (rB M 0)) (aN A 4) (aN A 3 - first) first t) := by
  have hL := (h.ro f).2.1
  obtain ⟨M2, p1, p2⟩ := fill16 h hf1 128 0 FU M1 f (fun t q => absurd q (by omega)) (by omega) (by show _ < 100000; omega)
  refine ⟨M2, ?_, p2⟩
  unfold fX12_fillReach
  rw [pu_s, ck_t hL.1, pu_s, hL.2.2.2.2.2.1]
  exact p1
theorem bestG {A : LA} {M : Mem} {k s : Nat} {prev : Nat → Nat} (hA : okA A) {r : Nat → Int32} (hs : s < 2 ^ aN A 4) (hp : ∀ t, t < 2 ^ aN A 4 → gI M 102 t = nI (prev t)) (hb : ∀ t, prev t ≤ 7) : ∀ (d g fuel : Nat), g + d = 7 → d < fuel → fX12_bestGate_l17 fuel M (nI s) (nI (fN (winR A r k) (aN A 4) &&& s)) (bst (winR A r) prev k s g).1 (nI (bst (winR A r) prev k s g).2) (nI g) = some (if (bst (winR A r) prev k s 7).2 < prev s then -1 else (bst (winR A r) prev k s 7).1) := by
  have hG := hA.2.2.2.2.1
  have h128 := G_128 hA
  have hfN : fN (winR A r k) (aN A 4) < 128 := Nat.lt_of_lt_of_le (fN_lt _) h128
  have hbs : ∀ g, (bst (winR A r) prev k s g).2 ≤ 8 := by
    intro g
    rcases (bst_i (W := winR A r) (prev := prev) (k := k) (s := s) g).2 with ⟨_, q⟩ | ⟨j0, _, _, _, _, q, _⟩
    · omega
    · have := hb (s ^^^ 2 ^ j0); omega
  intro d
  induction d with
  | zero =>
    intro g fuel hg hf
    obtain ⟨m, rfl⟩ : ∃ m, fuel = m + 1 := ⟨fuel - 1, by omega⟩
    have e : g = 7 := by omega
    subst e
    have h1 := hbs 7
    have h2 := hb s
    rw [fX12_bestGate_l17, if_neg (by decide), ldI_nI (by omega) (by decide), hp s hs]
    by_cases q : (bst (winR A r) prev k s 7).2 < prev s
    · rw [if_pos q, if_pos (by rw [lt_nI (by omega) (by omega)]; exact q)]
    · rw [if_neg q, if_neg (by rw [lt_nI (by omega) (by omega)]; exact q)]
  | succ d ih =>
    intro g fuel hg hf
    obtain ⟨m, rfl⟩ : ∃ m, fuel = m + 1 := ⟨fuel - 1, by omega⟩
    have hg7 : g < 7 := by omega
    have hand : fN (winR A r k) (aN A 4) &&& s < 128 := Nat.lt_of_le_of_lt Nat.and_le_left hfN
    obtain ⟨b1', b2', b3'⟩ := x_nI s (by omega) g hg7
    obtain ⟨-, a2', -⟩ := x_nI (fN (winR A r k) (aN A 4) &&& s) hand g hg7
    have htb : (fN (winR A r k) (aN A 4) &&& s).testBit g = (s.testBit g && winR A r k g) := by
      rw [Nat.testBit_and, fN_tb]
      by_cases q : g < aN A 4
      · rw [decide_eq_true q, Bool.true_and, Bool.and_comm]
      · rw [s_hi hs g (by omega), Bool.and_false, Bool.false_and]
    have b70 : fX12_bestGate_b70 (fX12_bestGate_l17 m) M (nI s) (nI (fN (winR A r k) (aN A 4) &&& s)) (bst (winR A r) prev k s (g + 1)).1 (nI (bst (winR A r) prev k s (g + 1)).2) (nI g) = some (if (bst (winR A r) prev k s 7).2 < prev s then -1 else (bst (winR A r) prev k s 7).1) := by
      unfold fX12_bestGate_b70
      rw [pu_s, nI_1]
      exact ih (g + 1) m (by omega) (by omega)
    have h1 := hbs g
    have h2 := hb (s ^^^ 2 ^ g)
    rw [fX12_bestGate_l17, show (7 : Int32) = nI 7 from rfl, if_pos (by rw [lt_nI (by omega) (by omega)]; omega), pu_s, shl_nI g (by omega)]
    by_cases q : s.testBit g = true ∧ winR A r k g = true
    · obtain ⟨x1', x2'⟩ := b3' q.1
      rw [if_neg (fun z => by have := a2'.mp z; rw [htb, q.1, q.2] at this; exact absurd this (by decide)), b1', ldI_nI (by omega) (by decide), hp _ (by omega), nI_1]
      by_cases q2 : (bst (winR A r) prev k s g).2 < prev (s ^^^ 2 ^ g) + 1
      · rw [bst, if_pos ⟨q.1, q.2, q2⟩] at b70
        rw [if_pos (by rw [lt_nI (by omega) (by omega)]; exact q2), ldI_nI (by omega) (by decide), hp _ (by omega), nI_1, pu_s]
        exact b70
      · rw [bst, if_neg (fun z => q2 z.2.2)] at b70
        rw [if_neg (by rw [lt_nI (by omega) (by omega)]; exact q2)]
        exact b70
    · rw [bst, if_neg (fun z => q ⟨z.1, z.2.1⟩)] at b70
      rw [if_pos (a2'.mpr (by
        rw [htb]
        cases z1 : s.testBit g
        · rfl
        · cases z2 : winR A r k g
          · rfl
          · exact absurd ⟨z1, z2⟩ q))]
      exact b70
def itG (A : LA) (r : Nat → Int32) (k s : Nat) : Int32 := itF (winR A r) (mxV (winR A r) (aN A 4) (aN A 3 - (k + 1)) (k + 1)) k s (mxV (winR A r) (aN A 4) (aN A 3 - k) k s) (aN A 4) (-1)
theorem best_ok {A : LA} {M M1 : Mem} {k s : Nat} (h : Rel A M) (f : RO M M1) (hk : k < aN A 3) (hs : s < 2 ^ aN A 4) (hp : ∀ t, t < 2 ^ aN A 4 → gI M1 102 t = nI (mxV (winR A (rB M 0)) (aN A 4) (aN A 3 - (k + 1)) (k + 1) t)) : fX12_bestGate M1 (nI k) (nI s) = some (itG A (rB M 0) k s) := by
  have hC := h.1.2.2.2.1
  have hG := h.1.2.2.2.2.1
  have h128 := G_128 h.1
  have hb : fX12_beatenBy M1 (nI k) = some (nI (fN (winR A (rB M 0) k) (aN A 4))) := by
    have := beat_ok (h.ro f) (c := k) hk
    rw [f.rB] at this
    exact this
  have hfN : fN (winR A (rB M 0) k) (aN A 4) < 128 := Nat.lt_of_lt_of_le (fN_lt _) h128
  unfold fX12_bestGate
  rw [hb, b1_s, and_nI (by omega) (by omega), pu_s]
  have e := bestG (r := rB M 0) (k := k) h.1 hs hp (fun t => Nat.le_trans (mxV_le _ _ t) (by omega)) 7 0 FU (by omega) (by show _ < 100000; omega)
  refine Eq.trans e ?_
  have e7 := mxG_ge (W := winR A (rB M 0)) (prev := mxV (winR A (rB M 0)) (aN A 4) (aN A 3 - (k + 1)) (k + 1)) (k := k) (s_hi hs) (7 - aN A 4)
  rw [show aN A 4 + (7 - aN A 4) = 7 by omega] at e7
  rw [e7, bst_it]
  unfold itG
  rw [show aN A 3 - k = aN A 3 - (k + 1) + 1 by omega]
  rfl
theorem itG_c {A : LA} {r : Nat → Int32} {k s : Nat} : itG A r k s = -1 ∨ ∃ g, g < aN A 4 ∧ s.testBit g = true ∧ itG A r k s = nI g := by
  unfold itG
  have key : ∀ (g : Nat) (x : Int32), (itF (winR A r) (mxV (winR A r) (aN A 4) (aN A 3 - (k + 1)) (k + 1)) k s (mxV (winR A r) (aN A 4) (aN A 3 - k) k s) g x = x) ∨ ∃ j, j < g ∧ s.testBit j = true ∧ itF (winR A r) (mxV (winR A r) (aN A 4) (aN A 3 - (k + 1)) (k + 1)) k s (mxV (winR A r) (aN A 4) (aN A 3 - k) k s) g x = nI j := by
    intro g
    induction g with
    | zero => intro x; exact Or.inl rfl
    | succ g ih =>
      intro x
      unfold itF
      by_cases q : s.testBit g = true ∧ winR A r k g = true ∧ mxV (winR A r) (aN A 4) (aN A 3 - (k + 1)) (k + 1) (s ^^^ 2 ^ g) + 1 = mxV (winR A r) (aN A 4) (aN A 3 - k) k s
      · rw [if_pos q]
        rcases ih (nI g) with z | ⟨j, z1, z2⟩
        · exact Or.inr ⟨g, Nat.lt_succ_self _, q.1, z⟩
        · exact Or.inr ⟨j, by omega, z2⟩
      · rw [if_neg q]
        rcases ih x with z | ⟨j, z1, z2⟩
        · exact Or.inl z
        · exact Or.inr ⟨j, by omega, z2⟩
  exact key (aN A 4) (-1)
def asN (s : Nat) (x : Int32) : Nat := if x = -1 then s else s ^^^ 2 ^ x.toNatClampNeg
def asF (A : LA) (r : Nat → Int32) : Nat → Nat → Nat → Int32 → Int32
  | 0, _, _, x => x
  | d + 1, k, s, _ => asF A r d (k + 1) (asN s (itG A r k s)) (itG A r k s)
theorem asN_lt {A : LA} {r : Nat → Int32} {k s : Nat} (hA : okA A) (hs : s < 2 ^ aN A 4) : asN s (itG A r k s) < 2 ^ aN A 4 := by
  have hG := hA.2.2.2.2.1
  have h128 := G_128 hA
  unfold asN
  rcases itG_c (A := A) (r := r) (k := k) (s := s) with q | ⟨g, q1, q2, q3⟩
  · rw [if_pos q]; exact hs
  · rw [q3, if_neg (nI_neg1 (by omega)), nI_clamp (by omega)]
    exact Nat.lt_trans ((x_nI s (by omega) g (by omega)).2.2 q2).1 hs
theorem asC_l {A : LA} {M : Mem} {N : Nat} (h : Rel A M) (hN : N < aN A 3) : ∀ (d k fuel s : Nat) (x : Int32) (M1 : Mem), RO M M1 → s < 2 ^ aN A 4 → k + d = N + 1 → d < fuel → ∃ M2, fX12_assault_l45 fuel M1 (nI N) (nI s) x (nI k) = some (.ok (asF A (rB M 0) d k s x, M2)) ∧ RO M M2 := by
  have hC := h.1.2.2.2.1
  have hG := h.1.2.2.2.2.1
  have h128 := G_128 h.1
  intro d
  induction d with
  | zero =>
    intro k fuel s x M1 f hs hk hf
    obtain ⟨m, rfl⟩ : ∃ m, fuel = m + 1 := ⟨fuel - 1, by omega⟩
    rw [fX12_assault_l45, if_pos (by rw [lt_nI (by omega) (by omega)]; omega)]
    exact ⟨M1, rfl, f⟩
  | succ d ih =>
    intro k fuel s x M1 f hs hk hf
    obtain ⟨m, rfl⟩ : ∃ m, fuel = m + 1 := ⟨fuel - 1, by omega⟩
    obtain ⟨M2, p1, p2, p3⟩ := fill_ok (first := k + 1) h f (by omega)
    have hb := best_ok (k := k) h p2 (by omega) hs p3
    rw [fX12_assault_l45, if_neg (by rw [lt_nI (by omega) (by omega)]; omega), nI_1, p1, b1_s, hb, b1_s, asF]
    have hlt := asN_lt (r := rB M 0) (k := k) h.1 hs
    have b80 : ∃ M9, fX12_assault_b80 (fX12_assault_l45 m) M2 (nI N) (nI (asN s (itG A (rB M 0) k s))) (itG A (rB M 0) k s) (nI k) = some (.ok (asF A (rB M 0) d (k + 1) (asN s (itG A (rB M 0) k s)) (itG A (rB M 0) k s), M9)) ∧ RO M M9 := by
      unfold fX12_assault_b80
      rw [pu_s, nI_1]
      exact ih (k + 1) m _ _ M2 p2 hlt (by omega) (by omega)
    rcases itG_c (A := A) (r := rB M 0) (k := k) (s := s) with q | ⟨g, q1, q2, q3⟩
    · rw [if_pos q]
      have e : asN s (itG A (rB M 0) k s) = s := if_pos q
      rw [e] at b80 ⊢
      exact b80
    · have hn : ¬ itG A (rB M 0) k s = -1 := by rw [q3]; exact nI_neg1 (by omega)
      have e : asN s (itG A (rB M 0) k s) = s ^^^ 2 ^ g := by unfold asN; rw [if_neg hn, q3, nI_clamp (by omega)]
      rw [if_neg hn]
      rw [e] at b80 ⊢
      have e2 : nI s &&& (((1 : Int32) <<< (itG A (rB M 0) k s &&& 31 : Int32)) ^^^ (-1)) = nI (s ^^^ 2 ^ g) := by
        rw [q3, shl_nI g (by omega)]
        exact ((x_nI s (by omega) g (by omega)).2.2 q2).2
      rw [e2, pu_s]
      exact b80
