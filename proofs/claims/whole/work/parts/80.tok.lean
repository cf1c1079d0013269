/-! TEXTS: tokens. A text is its bytes c and its length L; a token is known by the place q from which it is looked for -/
def letN (c : Nat) : Bool := decide (97 ≤ c) && decide (c ≤ 122)
def digN (c : Nat) : Bool := decide (48 ≤ c) && decide (c ≤ 57)
def sgnN (c : Nat) : Bool := c == 59 || c == 60 || c == 61 || c == 47 || (decide (40 ≤ c) && decide (c ≤ 45) && !(c == 44))
def blkB (c : Nat) : Bool := c == 32 || c == 10
def runN (f : Nat → Bool) (c : Nat → Nat) : Nat → Nat → Nat
  | 0, p => p
  | d + 1, p => if f (c p) = true then runN f c d (p + 1) else p
theorem runN_ge {f : Nat → Bool} {c : Nat → Nat} : ∀ d p, p ≤ runN f c d p ∧ runN f c d p ≤ p + d := by
  intro d
  induction d with
  | zero => intro p; exact ⟨Nat.le_refl _, Nat.le_refl _⟩
  | succ d ih =>
    intro p
    unfold runN
    split
    · have := ih (p + 1); omega
    · omega
theorem runN_in {f : Nat → Bool} {c : Nat → Nat} : ∀ d p i, p ≤ i → i < runN f c d p → f (c i) = true := by
  intro d
  induction d with
  | zero => intro p i h1 h2; exact absurd (show i < p from h2) (by omega)
  | succ d ih =>
    intro p i h1 h2
    unfold runN at h2
    by_cases q : f (c p) = true
    · rw [if_pos q] at h2
      by_cases e : i = p
      · rw [e]; exact q
      · exact ih (p + 1) i (by omega) h2
    · rw [if_neg q] at h2; omega
theorem runN_st {f : Nat → Bool} {c : Nat → Nat} : ∀ d p, runN f c d p < p + d → ¬ f (c (runN f c d p)) = true := by
  intro d
  induction d with
  | zero => intro p h; exact absurd (show p < p + 0 from h) (by omega)
  | succ d ih =>
    intro p h
    unfold runN at h ⊢
    by_cases q : f (c p) = true
    · rw [if_pos q] at h ⊢
      exact ih (p + 1) (by omega)
    · rw [if_neg q]; exact q
def tP (c : Nat → Nat) (L q : Nat) : Nat := runN blkB c (L - q) q
def tK (c : Nat → Nat) (L q : Nat) : Nat := if L ≤ tP c L q then 0 else if letN (c (tP c L q)) = true then 1 else if digN (c (tP c L q)) = true then 2 else if sgnN (c (tP c L q)) = true then c (tP c L q) else 3
def tN (c : Nat → Nat) (L q : Nat) : Nat := if L ≤ tP c L q then tP c L q else if letN (c (tP c L q)) = true then runN letN c (L - tP c L q) (tP c L q) else if digN (c (tP c L q)) = true then runN digN c (L - tP c L q) (tP c L q) else tP c L q + 1
def dgv (c : Nat → Nat) (p : Nat) : Nat → Nat
  | 0 => 0
  | k + 1 => 10 * dgv c p k + (c (p + k) - 48)
def tV (c : Nat → Nat) (L q : Nat) : Nat := if tK c L q = 2 then (if 4 < tN c L q - tP c L q then 10000 else dgv c (tP c L q) (tN c L q - tP c L q)) else 0
def wt (w j : Nat) : Nat := ((wBy.getD w []).getD j 0).toNatClampNeg
def wl (w : Nat) : Nat := wLn.getD w 0
def mtc (c : Nat → Nat) (p n w : Nat) : Bool := decide (n = wl w) && decide (∀ j, j < n → wt w j = c (p + j))
def wix (c : Nat → Nat) (p n : Nat) : Nat → Nat
  | 0 => 22
  | i + 1 => if mtc c p n i = true then i else wix c p n i
def tW (c : Nat → Nat) (L q : Nat) : Nat := if tK c L q = 1 then wix c (tP c L q) (tN c L q - tP c L q) 23 else 22
theorem sgn_ge {x : Nat} (h : sgnN x = true) : 40 ≤ x ∧ x ≤ 61 := by
  unfold sgnN at h
  simp at h
  omega
theorem tP_le {c : Nat → Nat} {L q : Nat} (h : q ≤ L) : q ≤ tP c L q ∧ tP c L q ≤ L := by
  have := runN_ge (f := blkB) (c := c) (L - q) q
  unfold tP
  omega
theorem tN_le {c : Nat → Nat} {L q : Nat} (h : q ≤ L) : tP c L q ≤ tN c L q ∧ tN c L q ≤ L := by
  obtain ⟨h1, h2⟩ := tP_le (c := c) h
  unfold tN
  by_cases q1 : L ≤ tP c L q
  · rw [if_pos q1]; omega
  · rw [if_neg q1]
    by_cases q2 : letN (c (tP c L q)) = true
    · rw [if_pos q2]
      have := runN_ge (f := letN) (c := c) (L - tP c L q) (tP c L q)
      omega
    · rw [if_neg q2]
      by_cases q3 : digN (c (tP c L q)) = true
      · rw [if_pos q3]
        have := runN_ge (f := digN) (c := c) (L - tP c L q) (tP c L q)
        omega
      · rw [if_neg q3]; omega
theorem run1 {f : Nat → Bool} {c : Nat → Nat} {d p : Nat} (hd : 0 < d) (h : f (c p) = true) : p + 1 ≤ runN f c d p := by
  obtain ⟨e, rfl⟩ : ∃ e, d = e + 1 := ⟨d - 1, by omega⟩
  unfold runN
  rw [if_pos h]
  exact (runN_ge e (p + 1)).1
/-- a token that is one takes a byte -/
theorem tN_gt {c : Nat → Nat} {L q : Nat} (h : q ≤ L) (hk : tK c L q ≠ 0) : tP c L q < L ∧ tP c L q + 1 ≤ tN c L q := by
  unfold tK at hk
  by_cases q1 : L ≤ tP c L q
  · rw [if_pos q1] at hk; exact absurd rfl hk
  · refine ⟨by omega, ?_⟩
    unfold tN
    rw [if_neg q1]
    by_cases q2 : letN (c (tP c L q)) = true
    · rw [if_pos q2]; exact run1 (by omega) q2
    · rw [if_neg q2]
      by_cases q3 : digN (c (tP c L q)) = true
      · rw [if_pos q3]; exact run1 (by omega) q3
      · rw [if_neg q3]; exact Nat.le_refl _
theorem tK_cases {c : Nat → Nat} {L q : Nat} : tK c L q = 0 ∨ tK c L q = 1 ∨ tK c L q = 2 ∨ tK c L q = 3 ∨ (40 ≤ tK c L q ∧ tK c L q ≤ 61) := by
  unfold tK
  split
  · exact Or.inl rfl
  · split
    · exact Or.inr (Or.inl rfl)
    · split
      · exact Or.inr (Or.inr (Or.inl rfl))
      · split
        · next h => exact Or.inr (Or.inr (Or.inr (Or.inr (sgn_ge h))))
        · exact Or.inr (Or.inr (Or.inr (Or.inl rfl)))
theorem dgv_lt {c : Nat → Nat} {p : Nat} : ∀ k, (∀ j, j < k → digN (c (p + j)) = true) → dgv c p k < 10 ^ k := by
  intro k
  induction k with
  | zero =>
    intro _
    show 0 < 10 ^ 0
    decide
  | succ k ih =>
    intro h
    have h1 := ih fun j hj => h j (by omega)
    have h2 := h k (by omega)
    unfold digN at h2
    simp at h2
    unfold dgv
    rw [Nat.pow_succ]
    omega
theorem dgv_9999 {c : Nat → Nat} {p k : Nat} (hk : k ≤ 4) (h : ∀ j, j < k → digN (c (p + j)) = true) : dgv c p k ≤ 9999 := by
  have := dgv_lt k h
  have h2 : 10 ^ k ≤ 10 ^ 4 := Nat.pow_le_pow_right (by decide) hk
  omega
theorem tN_dig {c : Nat → Nat} {L q : Nat} (h : tK c L q = 2) : tP c L q < L ∧ tN c L q = runN digN c (L - tP c L q) (tP c L q) ∧ digN (c (tP c L q)) = true ∧ ¬ letN (c (tP c L q)) = true := by
  unfold tK at h
  by_cases q1 : L ≤ tP c L q
  · rw [if_pos q1] at h; omega
  · rw [if_neg q1] at h
    by_cases q2 : letN (c (tP c L q)) = true
    · rw [if_pos q2] at h; omega
    · rw [if_neg q2] at h
      by_cases q3 : digN (c (tP c L q)) = true
      · refine ⟨by omega, ?_, q3, q2⟩
        unfold tN
        rw [if_neg q1, if_neg q2, if_pos q3]
      · rw [if_neg q3] at h
        split at h
        · next h4 => have := sgn_ge h4; omega
        · omega
theorem tN_let {c : Nat → Nat} {L q : Nat} (h : tK c L q = 1) : tP c L q < L ∧ tN c L q = runN letN c (L - tP c L q) (tP c L q) ∧ letN (c (tP c L q)) = true := by
  unfold tK at h
  by_cases q1 : L ≤ tP c L q
  · rw [if_pos q1] at h; omega
  · rw [if_neg q1] at h
    by_cases q2 : letN (c (tP c L q)) = true
    · refine ⟨by omega, ?_, q2⟩
      unfold tN
      rw [if_neg q1, if_pos q2]
    · rw [if_neg q2] at h
      split at h
      · omega
      · split at h
        · next h4 => have := sgn_ge h4; omega
        · omega
theorem tV_le {c : Nat → Nat} {L q : Nat} (hq : q ≤ L) : tV c L q ≤ 10000 ∧ (tV c L q = 10000 ↔ tK c L q = 2 ∧ 4 < tN c L q - tP c L q) := by
  unfold tV
  by_cases h : tK c L q = 2
  · rw [if_pos h]
    obtain ⟨h1, h2, h3, h4⟩ := tN_dig h
    by_cases h5 : 4 < tN c L q - tP c L q
    · rw [if_pos h5]; exact ⟨Nat.le_refl _, fun _ => ⟨h, h5⟩, fun _ => rfl⟩
    · rw [if_neg h5]
      have := dgv_9999 (c := c) (p := tP c L q) (k := tN c L q - tP c L q) (by omega) (fun j hj => runN_in (f := digN) (L - tP c L q) (tP c L q) _ (by omega) (by omega))
      exact ⟨by omega, fun z => by omega, fun z => absurd z.2 h5⟩
  · rw [if_neg h]
    exact ⟨by omega, fun z => by omega, fun z => absurd z.1 h⟩
-- words
theorem wix_le {c : Nat → Nat} {p n : Nat} : ∀ i, wix c p n i ≤ 22 ∨ wix c p n i < i := by
  intro i
  induction i with
  | zero => exact Or.inl (Nat.le_refl _)
  | succ i ih =>
    unfold wix
    split
    · exact Or.inr (Nat.lt_succ_self _)
    · rcases ih with h | h
      · exact Or.inl h
      · exact Or.inr (by omega)
theorem tW_le {c : Nat → Nat} {L q : Nat} : tW c L q ≤ 22 := by
  unfold tW
  split
  · rcases wix_le (c := c) (p := tP c L q) (n := tN c L q - tP c L q) 23 with h | h <;> omega
  · exact Nat.le_refl _
theorem wix_m {c : Nat → Nat} {p n : Nat} : ∀ i, i ≤ 23 → (wix c p n i < 22 → mtc c p n (wix c p n i) = true) ∧ (wix c p n i = 22 → ∀ w, w < i → w < 22 → ¬ mtc c p n w = true) := by
  intro i
  induction i with
  | zero => intro _; exact ⟨fun h => absurd h (by unfold wix; omega), fun _ w h => absurd h (by omega)⟩
  | succ i ih =>
    intro hi
    unfold wix
    by_cases h : mtc c p n i = true
    · rw [if_pos h]
      refine ⟨fun _ => h, fun h2 w hw hw2 hm => ?_⟩
      have h1 : n = wl i := by unfold mtc at h; simp at h; exact h.1
      have h3 : n = wl w := by unfold mtc at hm; simp at hm; exact hm.1
      have : wl i = 0 := by rw [h2]; rfl
      have h5 : ∀ w, w < 22 → wl w ≠ 0 := by decide
      exact h5 w hw2 (by omega)
    · rw [if_neg h]
      obtain ⟨i1, i2⟩ := ih (by omega)
      refine ⟨i1, fun h2 w hw hw2 => ?_⟩
      by_cases e : w = i
      · rw [e]; exact h
      · exact i2 h2 w (by omega) hw2
-- packed words of the reference
def pkN (c : Nat → Nat) (p : Nat) : Nat → Nat
  | 0 => 0
  | k + 1 => 32 * pkN c p k + (c (p + k) - 96)
def kwi (k : Nat) : Nat := ([15, 18, 19, 14, 16, 17, 20, 21, 0, 1, 2, 3, 4, 5, 6, 7, 8, 9, 10, 12, 11, 13] : List Nat).getD k 22
def wk (w : Nat) : Nat := ([8, 9, 10, 11, 12, 13, 14, 15, 16, 17, 18, 20, 19, 21, 3, 0, 4, 5, 1, 2, 6, 7] : List Nat).getD w 22
def kwI (w : Nat) : Int32 := if w < 22 then nI (wk w) else -1
theorem wk_kwi : (∀ k, k < 22 → wk (kwi k) = k ∧ kwi k < 22) ∧ ∀ w, w < 22 → kwi (wk w) = w ∧ wk w < 22 := by decide
def LT (k : Nat) : Nat := pkN (wt (kwi k)) 0 (wl (kwi k))
def nL (n : Nat) : Int64 := Int64.ofNat n
theorem LT_inj : ∀ k, k < 22 → ∀ j, j < 22 → LT k = LT j → k = j := by decide +kernel
theorem LT_lt : ∀ k, k < 22 → LT k < 2 ^ 40 := by decide +kernel
theorem letters_ok : ∀ k, k < 22 → fX13_letters (nI k) = some (nL (LT k)) := by decide +kernel
theorem wt_let : ∀ w, w < 22 → wl w ≤ 8 ∧ ∀ j, j < 8 → j < wl w → letN (wt w j) = true := by decide +kernel
theorem pk_inj {c d : Nat → Nat} {p r : Nat} : ∀ n m, (∀ j, j < n → letN (c (p + j)) = true) → (∀ j, j < m → letN (d (r + j)) = true) → pkN c p n = pkN d r m → n = m ∧ ∀ j, j < n → c (p + j) = d (r + j) := by
  intro n
  induction n with
  | zero =>
    intro m h1 h2 h
    cases m with
    | zero => exact ⟨rfl, fun j hj => absurd hj (by omega)⟩
    | succ m =>
      have := h2 m (by omega)
      unfold letN at this
      simp at this
      unfold pkN at h
      omega
  | succ n ih =>
    intro m h1 h2 h
    have a1 := h1 n (by omega)
    unfold letN at a1
    simp at a1
    cases m with
    | zero => unfold pkN at h; omega
    | succ m =>
      have a2 := h2 m (by omega)
      unfold letN at a2
      simp at a2
      unfold pkN at h
      obtain ⟨i1, i2⟩ := ih m (fun j hj => h1 j (by omega)) (fun j hj => h2 j (by omega)) (by omega)
      subst i1
      refine ⟨rfl, fun j hj => ?_⟩
      by_cases e : j = n
      · rw [e]; omega
      · exact i2 j (by omega)
theorem mtc_iff {c : Nat → Nat} {p n w : Nat} (hw : w < 22) (hn : n ≤ 8) (hl : ∀ j, j < n → letN (c (p + j)) = true) : mtc c p n w = true ↔ pkN c p n = LT (wk w) := by
  obtain ⟨e1, e2⟩ := wk_kwi.2 w hw
  obtain ⟨l1, l2⟩ := wt_let w hw
  unfold LT
  rw [e1]
  constructor
  · intro h
    unfold mtc at h
    simp at h
    obtain ⟨q1, q2⟩ := h
    rw [← q1]
    have : ∀ k, k ≤ n → pkN c p k = pkN (wt w) 0 k := by
      intro k
      induction k with
      | zero => intro _; rfl
      | succ k ih =>
        intro hk
        unfold pkN
        rw [ih (by omega), ← q2 k (by omega), Nat.zero_add]
    exact this n (Nat.le_refl _)
  · intro h
    obtain ⟨q1, q2⟩ := pk_inj n (wl w) hl (fun j hj => by rw [Nat.zero_add]; exact l2 j (by omega) hj) h
    unfold mtc
    simp
    exact ⟨q1, fun j hj => by rw [q2 j hj, Nat.zero_add]⟩
-- longs
theorem nL_eq {a b : Nat} (ha : a < 2 ^ 63) (hb : b < 2 ^ 63) : nL a = nL b ↔ a = b := by
  constructor
  · intro h
    have := congrArg (fun x : Int64 => x.toBitVec.toNat) h
    have e : ∀ x, x < 2 ^ 63 → (nL x).toBitVec.toNat = x := fun x hx => by
      show (BitVec.ofNat 64 x).toNat = x
      rw [BitVec.toNat_ofNat, Nat.mod_eq_of_lt (by omega)]
    simp only [e a ha, e b hb] at this
    exact this
  · intro h; rw [h]
theorem lcmp_nL {a b : Nat} (ha : a < 2 ^ 63) (hb : b < 2 ^ 63) : lg_cmp (nL a) (nL b) = 0 ↔ a = b := by
  rw [← nL_eq ha hb]
  unfold lg_cmp
  constructor
  · intro h
    by_cases h1 : nL a > nL b
    · rw [if_pos h1] at h; exact absurd h (by decide)
    · rw [if_neg h1] at h
      by_cases h2 : nL a = nL b
      · exact h2
      · rw [if_neg h2] at h; exact absurd h (by decide)
  · intro h
    rw [h, if_neg (fun z => by have z1 : nL b < nL b := z; exact absurd (Int64.lt_iff_toInt_lt.mp z1) (by omega)), if_pos rfl]
theorem d32_L : ∀ d, d < 32 → Int32.toInt64 (nI d) = nL d := by decide +kernel
theorem sh5_L : ((Int32.toInt64 5 &&& 63 : Int64)).toBitVec.smod 64 = 5#64 := by decide +kernel
theorem push_L {v d : Nat} (hv : v < 2 ^ 50) (hd : d < 32) : ((nL v : Int64) <<< (Int32.toInt64 5 &&& 63 : Int64)) ||| (Int32.toInt64 (nI d)) = nL (32 * v + d) := by
  rw [d32_L d hd, ← Int64.toBitVec_inj, Int64.toBitVec_or, Int64.toBitVec_shiftLeft, sh5_L]
  apply BitVec.eq_of_toNat_eq
  show (BitVec.ofNat 64 v <<< (5#64) ||| BitVec.ofNat 64 d).toNat = (BitVec.ofNat 64 (32 * v + d)).toNat
  rw [BitVec.toNat_or, BitVec.shiftLeft_eq', BitVec.toNat_shiftLeft, BitVec.toNat_ofNat, BitVec.toNat_ofNat, BitVec.toNat_ofNat, BitVec.toNat_ofNat, show 5 % 2 ^ 64 = 5 from rfl, Nat.mod_eq_of_lt (show v < 2 ^ 64 by omega), Nat.mod_eq_of_lt (show d < 2 ^ 64 by omega), Nat.mod_eq_of_lt (show 32 * v + d < 2 ^ 64 by omega), Nat.shiftLeft_eq, Nat.mod_eq_of_lt (show v * 2 ^ 5 < 2 ^ 64 by omega), ← Nat.shiftLeft_eq, ← Nat.shiftLeft_add_eq_or_of_lt (show d < 2 ^ 5 by omega), Nat.shiftLeft_eq]
  omega
