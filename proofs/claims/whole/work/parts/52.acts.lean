/-! ROWS written and read, acts kept -/
theorem wr_inj : ∀ i, i < 31 → ∀ j, j < 31 → wr i = wr j → i = j := by decide +kernel
theorem wr_lt : ∀ i, i < 31 → wr i < 31 := by decide +kernel
/-- the row of k is written at a, from p on, so far where P says so -/
def wpd (M : Mem) (k a p : Nat) (P : Nat → Prop) (M1 : Mem) : Prop := (∀ b j, (b = a → j < p ∨ p + 31 ≤ j) → gI M1 b j = gI M b j) ∧ M1.2 = M.2 ∧ ∀ j, j < 31 → P j → gI M1 a (p + wr j) = rC M k j
theorem wpd.f {M M1 : Mem} {k a p : Nat} {P : Nat → Prop} (h : wpd M k a p P M1) (hka : a < k ∨ k + 4 < a) (j0 i q : Nat) (h0 : j0 < 31) (ha : plA j0 = 0) (hi : plJ j0 = i) (hq : wr j0 = q) : wpd M k a p (fun j => j = j0 ∨ P j) (sI M1 a (p + q) (gI M1 k i)) := by
  have hq31 := wr_lt j0 h0
  refine ⟨fun b j hb => ?_, h.2.1, fun j hj hP => ?_⟩
  · rw [gI_sI, if_neg]
    · exact h.1 b j hb
    · rintro ⟨q1, q2⟩
      have := hb q1
      omega
  · rw [gI_sI]
    by_cases e : j = j0
    · rw [if_pos ⟨rfl, by rw [e, hq]⟩, h.1 k i (fun q => by omega), e]
      unfold rC
      rw [if_pos h0, ha, hi]; rfl
    · rw [if_neg]
      · exact h.2.2 j hj (hP.resolve_left e)
      · rintro ⟨-, q2⟩
        exact e (wr_inj j hj j0 h0 (by omega))
theorem wpd.a {M M1 : Mem} {k a p : Nat} {P : Nat → Prop} (h : wpd M k a p P M1) (hka : a < k ∨ k + 4 < a) (c n lo : Nat) (hc : c ≤ 4) (hln : lo + n ≤ 31) (h1 : ∀ j, j < 31 → plA j = c → wr j = lo + plJ j ∧ plJ j < n) (h2 : ∀ j, j < 31 → plA j ≠ c → wr j < lo ∨ lo + n ≤ wr j) : wpd M k a p (fun j => plA j = c ∨ P j) (aI M1 a (va_cpy (gI M1 (k + c)) (gI M1 a) 0 (p + lo) n)) := by
  refine ⟨fun b j hb => ?_, h.2.1, fun j hj hP => ?_⟩
  · rw [gI_ai]
    by_cases e : b = a
    · have := hb e
      rw [if_pos e]
      unfold va_cpy
      rw [if_neg (by omega), ← e]
      exact h.1 b j hb
    · rw [if_neg e]
      exact h.1 b j hb
  · rw [gI_ai, if_pos rfl]
    unfold va_cpy
    by_cases e : plA j = c
    · obtain ⟨q1, q2⟩ := h1 j hj e
      rw [if_pos (by omega), h.1 (k + c) _ (fun q => by omega)]
      unfold rC
      rw [if_pos hj, e]
      congr 1
      omega
    · have q := h2 j hj e
      rw [if_neg (by omega)]
      exact h.2.2 j hj (hP.resolve_left e)
theorem write_ok {M : Mem} {k a p n : Nat} (hk : kd k = 2) (ha : kd a = 20) (hn : ln a = n) (hp : p + 31 ≤ n) (hn2 : n < 2 ^ 20) (hka : a < k ∨ k + 4 < a) : ∃ M', fX3_write M k a (nI p) = some M' ∧ rW M' a p = rC M k ∧ (∀ b j, (b = a → j < p ∨ p + 31 ≤ j) → gI M' b j = gI M b j) ∧ M'.2 = M.2 := by
  have h0 : wpd M k a p (fun _ => False) M := ⟨fun _ _ _ => rfl, rfl, fun j _ h => h.elim⟩
  have h1 := ((((((((h0.f hka 0 0 0 (by decide) (by decide) (by decide) (by decide)).f hka 1 1 1 (by decide) (by decide) (by decide) (by decide)).f hka 2 2 2 (by decide) (by decide) (by decide) (by decide)).f hka 3 3 3 (by decide) (by decide) (by decide) (by decide)).f hka 4 4 4 (by decide) (by decide) (by decide) (by decide)).f hka 5 5 5 (by decide) (by decide) (by decide) (by decide)).f hka 8 6 6 (by decide) (by decide) (by decide) (by decide)).f hka 9 7 7 (by decide) (by decide) (by decide) (by decide)).f hka 12 8 8 (by decide) (by decide) (by decide) (by decide)
  have h2 := (((h1.a hka 1 2 9 (by decide) (by decide) (by decide) (by decide)).a hka 2 2 11 (by decide) (by decide) (by decide) (by decide)).a hka 3 12 13 (by decide) (by decide) (by decide) (by decide)).a hka 4 6 25 (by decide) (by decide) (by decide) (by decide)
  refine ⟨_, ?_, ?_, h2.1, h2.2.1⟩
  · unfold fX3_write
    rw [ck_t hk, ck_t ha, if_neg (nI_pos (by omega)), hn, show (31 : Int32) = nI 31 from rfl, nI_add, show Int32.ofNat n = nI n from rfl, if_neg (by rw [lt_nI (by omega) (by omega)]; omega)]
    simp only [pu_s]
    rw [show (1 : Int32) = nI 1 from rfl, show (2 : Int32) = nI 2 from rfl, show (3 : Int32) = nI 3 from rfl, show (4 : Int32) = nI 4 from rfl, show (5 : Int32) = nI 5 from rfl, show (6 : Int32) = nI 6 from rfl, show (7 : Int32) = nI 7 from rfl, show (8 : Int32) = nI 8 from rfl, show (9 : Int32) = nI 9 from rfl, show (11 : Int32) = nI 11 from rfl, show (13 : Int32) = nI 13 from rfl, show (12 : Int32) = nI 12 from rfl, show (0 : Int32) = nI 0 from rfl]
    simp (disch := omega) only [nI_add, stI_nI, cp_nI]
    rfl
  · funext j
    unfold rW
    by_cases hj : j < 31
    · rw [if_pos hj]
      exact h2.2.2 j hj ((by decide +kernel : ∀ j, j < 31 → (plA j = 4 ∨ plA j = 3 ∨ plA j = 2 ∨ plA j = 1 ∨ j = 12 ∨ j = 9 ∨ j = 8 ∨ j = 5 ∨ j = 4 ∨ j = 3 ∨ j = 2 ∨ j = 1 ∨ j = 0 ∨ False)) j hj)
    · rw [if_neg hj]
      unfold rC
      rw [if_neg hj]
/-- the row of k is read from a, from p on, so far where P says so -/
def rpd (M : Mem) (k a p : Nat) (P : Nat → Prop) (M1 : Mem) : Prop := (∀ b j, (b < k ∨ k + 4 < b) → gI M1 b j = gI M b j) ∧ M1.2 = M.2 ∧ ∀ j, j < 31 → P j → rC M1 k j = gI M a (p + wr j)
theorem rpd.f {M M1 : Mem} {k a p : Nat} {P : Nat → Prop} (h : rpd M k a p P M1) (hka : a < k ∨ k + 4 < a) (j0 i q : Nat) (h0 : j0 < 31) (ha : plA j0 = 0) (hi : plJ j0 = i) (hq : wr j0 = q) : rpd M k a p (fun j => j = j0 ∨ P j) (sI M1 k i (gI M1 a (p + q))) := by
  have e := rC_s (M := M1) (k := k) (i := j0) (v := gI M1 a (p + q)) h0
  rw [ha, hi] at e
  refine ⟨fun b j hb => ?_, h.2.1, fun j hj hP => ?_⟩
  · rw [gI_sa (by omega)]; exact h.1 b j hb
  · rw [show rC (sI M1 k i (gI M1 a (p + q))) k = _ from e, upd_a]
    by_cases hj0 : j = j0
    · rw [if_pos hj0, h.1 a _ hka, hj0, hq]
    · rw [if_neg hj0]
      exact h.2.2 j hj (hP.resolve_left hj0)
theorem rpd.a {M M1 : Mem} {k a p : Nat} {P : Nat → Prop} (h : rpd M k a p P M1) (hka : a < k ∨ k + 4 < a) (c n lo : Nat) (hc : c ≤ 4) (h1 : ∀ j, j < 31 → plA j = c → wr j = lo + plJ j ∧ plJ j < n) : rpd M k a p (fun j => plA j = c ∨ P j) (aI M1 (k + c) (va_cpy (gI M1 a) (gI M1 (k + c)) (p + lo) 0 n)) := by
  refine ⟨fun b j hb => ?_, h.2.1, fun j hj hP => ?_⟩
  · rw [gI_ai, if_neg (by omega)]; exact h.1 b j hb
  · by_cases e : plA j = c
    · obtain ⟨q1, q2⟩ := h1 j hj e
      unfold rC
      rw [if_pos hj, e, gI_ai, if_pos rfl]
      unfold va_cpy
      rw [if_pos (by omega), h.1 a _ hka]
      congr 1
      omega
    · rw [← h.2.2 j hj (hP.resolve_left e)]
      unfold rC
      rw [if_pos hj, if_pos hj, gI_ai, if_neg (by omega)]
theorem read_ok {M : Mem} {k a p n : Nat} (hk : kd k = 2) (ha : kd a = 20) (hn : ln a = n) (hp : p + 31 ≤ n) (hn2 : n < 2 ^ 20) (hka : a < k ∨ k + 4 < a) : ∃ M', fX3_read M k a (nI p) = some M' ∧ rC M' k = rW M a p ∧ (∀ b j, (b < k ∨ k + 4 < b) → gI M' b j = gI M b j) ∧ M'.2 = M.2 := by
  have h0 : rpd M k a p (fun _ => False) M := ⟨fun _ _ _ => rfl, rfl, fun j _ h => h.elim⟩
  have h1 := ((((((((h0.f hka 0 0 0 (by decide) (by decide) (by decide) (by decide)).f hka 1 1 1 (by decide) (by decide) (by decide) (by decide)).f hka 2 2 2 (by decide) (by decide) (by decide) (by decide)).f hka 3 3 3 (by decide) (by decide) (by decide) (by decide)).f hka 4 4 4 (by decide) (by decide) (by decide) (by decide)).f hka 5 5 5 (by decide) (by decide) (by decide) (by decide)).f hka 8 6 6 (by decide) (by decide) (by decide) (by decide)).f hka 9 7 7 (by decide) (by decide) (by decide) (by decide)).f hka 12 8 8 (by decide) (by decide) (by decide) (by decide)
  have h2 := (((h1.a hka 1 2 9 (by decide) (by decide)).a hka 2 2 11 (by decide) (by decide)).a hka 3 12 13 (by decide) (by decide)).a hka 4 6 25 (by decide) (by decide)
  refine ⟨_, ?_, ?_, h2.1, h2.2.1⟩
  · unfold fX3_read
    rw [ck_t hk, ck_t ha, if_neg (nI_pos (by omega)), hn, show (31 : Int32) = nI 31 from rfl, nI_add, show Int32.ofNat n = nI n from rfl, if_neg (by rw [lt_nI (by omega) (by omega)]; omega)]
    simp only [pu_s]
    rw [show (1 : Int32) = nI 1 from rfl, show (2 : Int32) = nI 2 from rfl, show (3 : Int32) = nI 3 from rfl, show (4 : Int32) = nI 4 from rfl, show (5 : Int32) = nI 5 from rfl, show (6 : Int32) = nI 6 from rfl, show (7 : Int32) = nI 7 from rfl, show (8 : Int32) = nI 8 from rfl, show (9 : Int32) = nI 9 from rfl, show (11 : Int32) = nI 11 from rfl, show (13 : Int32) = nI 13 from rfl, show (12 : Int32) = nI 12 from rfl, show (0 : Int32) = nI 0 from rfl]
    simp (disch := omega) only [nI_add, ldI_nI, cp_nI]
    rfl
  · funext j
    by_cases hj : j < 31
    · rw [h2.2.2 j hj ((by decide +kernel : ∀ j, j < 31 → (plA j = 4 ∨ plA j = 3 ∨ plA j = 2 ∨ plA j = 1 ∨ j = 12 ∨ j = 9 ∨ j = 8 ∨ j = 5 ∨ j = 4 ∨ j = 3 ∨ j = 2 ∨ j = 1 ∨ j = 0 ∨ False)) j hj)]
      unfold rW
      rw [if_pos hj]
    · unfold rW rC
      rw [if_neg hj, if_neg hj]
