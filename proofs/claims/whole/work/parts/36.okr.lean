/-! ROWS KEEP WITHIN THEIR BOUNDS -/
theorem inB_mono {x : Int32} {m n : Nat} (h : inB x m) (hm : m ≤ n) : inB x n := by
  obtain ⟨k, hk, e⟩ := h
  exact ⟨k, Nat.le_trans hk hm, e⟩
theorem inZ_mono {x : Int32} {m n : Nat} (h : inZ x m) (hm : m ≤ n) : inZ x n := by
  unfold inZ at h ⊢
  omega
theorem inB_of {x : Int32} {n : Nat} (h0 : 0 ≤ x.toInt) (h1 : x.toInt ≤ n) (hn : n < 2 ^ 31) : inB x n := by
  refine ⟨x.toInt.toNat, by omega, ?_⟩
  rw [← Int32.toInt_inj, nI_toInt (by omega)]
  omega
theorem inB_int {x : Int32} {n : Nat} (h : inB x n) (hn : n < 2 ^ 31) : 0 ≤ x.toInt ∧ x.toInt ≤ n := by
  obtain ⟨k, hk, rfl⟩ := h
  rw [nI_toInt (by omega)]
  omega
theorem kpt_int (v : Int32) {lo hi : Int32} (h : lo.toInt ≤ hi.toInt) : lo.toInt ≤ (kpt v lo hi).toInt ∧ (kpt v lo hi).toInt ≤ hi.toInt := by
  unfold kpt
  by_cases h1 : v < lo
  · rw [if_pos h1]; omega
  · rw [if_neg h1]
    rw [Int32.lt_iff_toInt_lt] at h1
    by_cases h2 : hi < v
    · rw [if_pos h2]; omega
    · rw [if_neg h2]
      rw [Int32.lt_iff_toInt_lt] at h2
      omega
theorem kpt_999 (v : Int32) : inB (kpt v 0 999) 999 := by
  have := kpt_int v (lo := 0) (hi := 999) (by decide)
  rw [show ((0 : Int32)).toInt = 0 from by decide, show ((999 : Int32)).toInt = 999 from by decide] at this
  exact inB_of this.1 this.2 (by decide)
theorem kpt_99 (v : Int32) : inB (kpt v 0 99) 99 := by
  have := kpt_int v (lo := 0) (hi := 99) (by decide)
  rw [show ((0 : Int32)).toInt = 0 from by decide, show ((99 : Int32)).toInt = 99 from by decide] at this
  exact inB_of this.1 this.2 (by decide)
theorem inZ_add {x y : Int32} {m n : Nat} (hx : inZ x m) (hy : inZ y n) (h : m + n < 2 ^ 31) : inZ (x + y) (m + n) := by
  unfold inZ at hx hy ⊢
  rw [Int32.toInt_add, Int.bmod_eq_of_le (by omega) (by omega)]
  omega
theorem inB_p1 {x : Int32} {n : Nat} (h : inB x n) : inB (x + 1) (n + 1) := by
  obtain ⟨k, hk, rfl⟩ := h
  exact ⟨k + 1, by omega, nI_1 k⟩
theorem okR_mono {A : LA} {Y Z Y' Z' : Nat} {r : Nat → Int32} (h : okR A Y Z r) (hY : Y ≤ Y') (hZ : Z ≤ Z') : okR A Y' Z' r := by
  obtain ⟨h0, h1, h2, h3, h4, h5, h6, h7, h8, h9, h10, h11, h12, h13⟩ := h
  exact ⟨h0, h1, h2, inB_mono h3 hY, h4, inB_mono h5 hY, inZ_mono h6 hZ, inZ_mono h7 hZ, inB_mono h8 hY, inB_mono h9 hY, h10, h11, h12, h13⟩
theorem gathR_n {r : Nat → Int32} {h : Int32} {j : Nat} (h0 : j ≠ 0) (h2 : j ≠ 2) : gathR r h j = r j := by
  unfold gathR
  rw [upd_a, if_neg h2, upd_a, if_neg h0]
theorem okR_gath {A : LA} {Y Z : Nat} {r : Nat → Int32} (h : okR A Y Z r) (hv : Int32) : okR A Y Z (gathR r hv) := by
  obtain ⟨h0, h1, h2, h3, h4, h5, h6, h7, h8, h9, h10, h11, h12, h13⟩ := h
  refine ⟨?_, ?_, ?_, ?_, ?_, ?_, ?_, ?_, ?_, ?_, ?_, fun b hb i hi => ?_, fun i hi => ?_, fun j hj => ?_⟩
  · unfold gathR; rw [upd_a, if_neg (by decide), upd_a, if_pos rfl]; exact kpt_999 _
  · rw [gathR_n (by decide) (by decide)]; exact h1
  · unfold gathR; rw [upd_a, if_pos rfl]; exact kpt_999 _
  · rw [gathR_n (by decide) (by decide)]; exact h3
  · rw [gathR_n (by decide) (by decide)]; exact h4
  · rw [gathR_n (by decide) (by decide)]; exact h5
  · rw [gathR_n (by decide) (by decide)]; exact h6
  · rw [gathR_n (by decide) (by decide)]; exact h7
  · rw [gathR_n (by decide) (by decide)]; exact h8
  · rw [gathR_n (by decide) (by decide)]; exact h9
  · rw [gathR_n (by decide) (by decide)]; exact h10
  · rw [gathR_n (by omega) (by omega)]; exact h11 b hb i hi
  · rw [gathR_n (by omega) (by omega)]; exact h12 i hi
  · rw [gathR_n (by omega) (by omega)]; exact h13 j hj
theorem ruler_lt {A : LA} {Y Z : Nat} {r : Nat → Int32} (h : okR A Y Z r) : ruler r < 2 ∧ r 4 = nI (ruler r) := by
  obtain ⟨k, hk, e⟩ := h.2.2.2.2.1
  unfold ruler
  rw [e, nI_clamp (by omega)]
  exact ⟨by omega, rfl⟩
/-- a row of which some places are other than before -/
theorem okR_of {A : LA} {Y Z Y' Z' : Nat} {r r' : Nat → Int32} (h : okR A Y Z r) (hY : Y ≤ Y') (hZ : Z ≤ Z') (h0 : r' 0 = r 0 ∨ inB (r' 0) 999) (h1 : r' 1 = r 1 ∨ inB (r' 1) 99) (h2 : r' 2 = r 2 ∨ inB (r' 2) 999) (h3 : r' 3 = r 3 ∨ inB (r' 3) Y') (h4 : r' 4 = r 4 ∨ inB (r' 4) 1) (h5 : r' 5 = r 5 ∨ inB (r' 5) Y') (h6 : r' 6 = r 6 ∨ inZ (r' 6) Z') (h7 : r' 7 = r 7 ∨ inZ (r' 7) Z')
    (h8 : r' 10 = r 10 ∨ inB (r' 10) Y') (h9 : r' 11 = r 11 ∨ inB (r' 11) Y') (hr : ∀ j, 12 ≤ j → r' j = r j) : okR A Y' Z' r' := by
  obtain ⟨g0, g1, g2, g3, g4, g5, g6, g7, g8, g9, g10, g11, g12, g13⟩ := okR_mono h hY hZ
  refine ⟨?_, ?_, ?_, ?_, ?_, ?_, ?_, ?_, ?_, ?_, ?_, fun b hb i hi => ?_, fun i hi => ?_, fun j hj => ?_⟩
  · rcases h0 with e | e; rw [e]; exact g0; exact e
  · rcases h1 with e | e; rw [e]; exact g1; exact e
  · rcases h2 with e | e; rw [e]; exact g2; exact e
  · rcases h3 with e | e; rw [e]; exact g3; exact e
  · rcases h4 with e | e; rw [e]; exact g4; exact e
  · rcases h5 with e | e; rw [e]; exact g5; exact e
  · rcases h6 with e | e; rw [e]; exact g6; exact e
  · rcases h7 with e | e; rw [e]; exact g7; exact e
  · rcases h8 with e | e; rw [e]; exact g8; exact e
  · rcases h9 with e | e; rw [e]; exact g9; exact e
  · rw [hr 12 (by decide)]; exact g10
  · rw [hr _ (by omega)]; exact g11 b hb i hi
  · rw [hr _ (by omega)]; exact g12 i hi
  · rw [hr _ (by omega)]; exact g13 j hj
theorem okR_do {A : LA} {Y Z d : Nat} {r : Nat → Int32} (h : okR A Y Z r) (hA : okA A) (hd : d < aN A 0) (hZ : Z < 10 ^ 9) : okR A Y (Z + 20) (doR A r d).2 := by
  obtain ⟨c0, c1, c2, c3⟩ := hA.2.2.2.2.2.2.2.1 d hd
  obtain ⟨hr1, hr2⟩ := ruler_lt h
  unfold doR
  by_cases hc : r 0 < aF A 0 d
  · rw [if_pos hc]
    refine okR_of h (Nat.le_refl _) (by omega) (Or.inl ?_) (Or.inl ?_) (Or.inl ?_) (Or.inl ?_) (Or.inl ?_) (Or.inl ?_) (Or.inl ?_) (Or.inl ?_) (Or.inl ?_) (Or.inl ?_) (fun j hj => ?_)
    all_goals (dsimp only; rw [upd_a, if_neg (by omega)])
  · rw [if_neg hc]
    have hr01 : ruler r = 0 ∨ ruler r = 1 := by omega
    have hg : inZ (r (6 + ruler r) + aF A 3 d) (Z + 20) := by
      refine inZ_add ?_ c3 (by omega)
      rcases hr01 with e | e <;> rw [e]
      · exact h.2.2.2.2.2.2.1
      · exact h.2.2.2.2.2.2.2.1
    refine okR_of h (Nat.le_refl _) (by omega) (Or.inr ?_) (Or.inr ?_) (Or.inr ?_) (Or.inl ?_) (Or.inl ?_) (Or.inl ?_) ?_ ?_ (Or.inl ?_) (Or.inl ?_) (fun j hj => ?_)
    · show inB (upd _ _ _ _) _
      rw [upd_a, if_neg (by omega), upd_a, if_neg (by decide), upd_a, if_neg (by decide), upd_a, if_pos rfl]
      obtain ⟨a, ha, ea⟩ := h.1
      obtain ⟨c, hc9, ec⟩ := c0
      rw [ea, ec] at hc ⊢
      rw [lt_nI (by omega) (by omega)] at hc
      exact ⟨a - c, by omega, pk_sub (by omega)⟩
    · show inB (upd _ _ _ _) _
      rw [upd_a, if_neg (by omega), upd_a, if_neg (by decide), upd_a, if_pos rfl]
      exact kpt_99 _
    · show inB (upd _ _ _ _) _
      rw [upd_a, if_neg (by omega), upd_a, if_pos rfl]
      exact kpt_999 _
    · show upd _ _ _ _ = _
      rw [upd_a, if_neg (by omega), upd_a, if_neg (by omega), upd_a, if_neg (by omega), upd_a, if_neg (by omega)]
    · show upd _ _ _ _ = _
      rw [upd_a, if_neg (by omega), upd_a, if_neg (by omega), upd_a, if_neg (by omega), upd_a, if_neg (by omega)]
    · show upd _ _ _ _ = _
      rw [upd_a, if_neg (by omega), upd_a, if_neg (by omega), upd_a, if_neg (by omega), upd_a, if_neg (by omega)]
    · show upd _ _ _ _ = _ ∨ inZ (upd _ _ _ _) _
      rw [upd_a, upd_a, if_neg (show ¬ 6 = 2 by decide), upd_a, if_neg (show ¬ 6 = 1 by decide), upd_a, if_neg (show ¬ 6 = 0 by decide)]
      split
      · exact Or.inr hg
      · exact Or.inl rfl
    · show upd _ _ _ _ = _ ∨ inZ (upd _ _ _ _) _
      rw [upd_a, upd_a, if_neg (show ¬ 7 = 2 by decide), upd_a, if_neg (show ¬ 7 = 1 by decide), upd_a, if_neg (show ¬ 7 = 0 by decide)]
      split
      · exact Or.inr hg
      · exact Or.inl rfl
    · show upd _ _ _ _ = _
      rw [upd_a, if_neg (by omega), upd_a, if_neg (by omega), upd_a, if_neg (by omega), upd_a, if_neg (by omega)]
    · show upd _ _ _ _ = _
      rw [upd_a, if_neg (by omega), upd_a, if_neg (by omega), upd_a, if_neg (by omega), upd_a, if_neg (by omega)]
    · show upd _ _ _ _ = _
      rw [upd_a, if_neg (by omega), upd_a, if_neg (by omega), upd_a, if_neg (by omega), upd_a, if_neg (by omega)]
/-- -1, or a deed -/
def dOk (A : LA) (d : Int32) : Prop := d = -1 ∨ ∃ n : Nat, n < aN A 0 ∧ d = nI n
theorem doX_m1 {A : LA} {r : Nat → Int32} : doX A r (-1) = (false, r) := if_pos (by decide)
theorem doX_n {A : LA} {r : Nat → Int32} {n : Nat} (h : n < 2 ^ 31) : doX A r (nI n) = doR A r n := by
  unfold doX
  rw [if_neg (nI_pos h), nI_clamp h]
theorem okR_doX {A : LA} {Y Z : Nat} {d : Int32} {r : Nat → Int32} (h : okR A Y Z r) (hA : okA A) (hd : dOk A d) (hZ : Z < 10 ^ 9) : okR A Y (Z + 20) (doX A r d).2 := by
  have h7 := hA.1
  rcases hd with e | ⟨n, hn, e⟩ <;> subst e
  · rw [doX_m1]; exact okR_mono h (Nat.le_refl _) (by omega)
  · rw [doX_n (by omega)]; exact okR_do h hA hn hZ
theorem okR_age {A : LA} {Y Z : Nat} {r : Nat → Int32} (h : okR A Y Z r) : okR A (Y + 1) Z (ageR r) := by
  obtain ⟨hr1, hr2⟩ := ruler_lt h
  unfold ageR
  refine okR_of h (by omega) (Nat.le_refl _) (Or.inl ?_) (Or.inl ?_) (Or.inl ?_) (Or.inr ?_) (Or.inl ?_) (Or.inr ?_) (Or.inl ?_) (Or.inl ?_) ?_ ?_ (fun j hj => ?_)
  · rw [upd_a, if_neg (by omega), upd_a, if_neg (by omega), upd_a, if_neg (by omega)]
  · rw [upd_a, if_neg (by omega), upd_a, if_neg (by omega), upd_a, if_neg (by omega)]
  · rw [upd_a, if_neg (by omega), upd_a, if_neg (by omega), upd_a, if_neg (by omega)]
  · rw [upd_a, if_neg (by omega), upd_a, if_neg (by omega), upd_a, if_pos rfl]; exact inB_p1 h.2.2.2.1
  · rw [upd_a, if_neg (by omega), upd_a, if_neg (by omega), upd_a, if_neg (by omega)]
  · rw [upd_a, if_pos rfl]; exact inB_p1 h.2.2.2.2.2.1
  · rw [upd_a, if_neg (by omega), upd_a, if_neg (by omega), upd_a, if_neg (by omega)]
  · rw [upd_a, if_neg (by omega), upd_a, if_neg (by omega), upd_a, if_neg (by omega)]
  · rw [upd_a, if_neg (by omega), upd_a]
    split
    · next e => rw [← e]; exact Or.inr (inB_p1 h.2.2.2.2.2.2.2.2.1)
    · rw [upd_a, if_neg (by omega)]; exact Or.inl rfl
  · rw [upd_a, if_neg (by omega), upd_a]
    split
    · next e => rw [← e]; exact Or.inr (inB_p1 h.2.2.2.2.2.2.2.2.2.1)
    · rw [upd_a, if_neg (by omega)]; exact Or.inl rfl
  · rw [upd_a, if_neg (by omega), upd_a, if_neg (by omega), upd_a, if_neg (by omega)]
theorem okR_over {A : LA} {Y Z : Nat} {r : Nat → Int32} (h : okR A Y Z r) : okR A Y Z (overR r) := by
  obtain ⟨hr1, hr2⟩ := ruler_lt h
  unfold overR
  refine okR_of h (Nat.le_refl _) (Nat.le_refl _) (Or.inl ?_) (Or.inl ?_) (Or.inl ?_) (Or.inl ?_) (Or.inr ?_) (Or.inr ?_) (Or.inl ?_) (Or.inl ?_) (Or.inl ?_) (Or.inl ?_) (fun j hj => ?_)
  all_goals try (rw [upd_a, if_neg (by omega), upd_a, if_neg (by omega)])
  · rw [upd_a, if_neg (by omega), upd_a, if_pos rfl, hr2]
    exact ⟨1 - ruler r, by omega, pk_sub (a := 1) (by omega)⟩
  · rw [upd_a, if_pos rfl]; exact ⟨0, by omega, rfl⟩
theorem okR_turn {A : LA} {Y Z : Nat} {r : Nat → Int32} (h : okR A Y Z r) : okR A Y Z (turnR A r) := by
  unfold turnR
  split
  · exact h
  · split
    · refine okR_of h (Nat.le_refl _) (Nat.le_refl _) (Or.inl ?_) (Or.inl ?_) (Or.inl ?_) (Or.inl ?_) (Or.inl ?_) (Or.inl ?_) (Or.inl ?_) (Or.inl ?_) (Or.inl ?_) (Or.inl ?_) (fun j hj => ?_)
      all_goals (rw [upd_a, if_neg (by omega)])
    · exact okR_over h
theorem okR_live {A : LA} {Y Z : Nat} {h9 d : Int32} {r : Nat → Int32} (h : okR A Y Z r) (hA : okA A) (hd : dOk A d) (hZ : Z < 10 ^ 9) : okR A (Y + 1) (Z + 20) (liveR A r h9 d) := okR_turn (okR_age (okR_doX (okR_gath h h9) hA hd hZ))
theorem way_dOk {A : LA} {Y Z who : Nat} {r : Nat → Int32} (h : okR A Y Z r) (hw : who < 2) : dOk A (wayR A r who) := by
  unfold wayR
  split
  · exact Or.inl rfl
  · next h0 => exact Or.inr (h.2.2.2.2.2.2.2.2.2.2.2.1 who hw _ (Nat.mod_lt _ (by omega)))
theorem okR_goes {A : LA} {Y Z : Nat} {r : Nat → Int32} (h : okR A Y Z r) (hA : okA A) (hZ : Z < 10 ^ 9) : okR A (Y + 1) (Z + 20) (goesR A r) := okR_live h hA (way_dOk h (ruler_lt h).1) hZ
theorem okR_years {A : LA} {Y Z : Nat} {r : Nat → Int32} (h : okR A Y Z r) (hA : okA A) (hZ : Z < 10 ^ 8) : ∀ n : Nat, n < 10 ^ 6 → okR A (Y + n) (Z + 20 * n) (yearsR A r n)
  | 0, _ => h
  | n + 1, hn => okR_mono (okR_goes (okR_years h hA hZ n (by omega)) hA (by omega)) (by omega) (by omega)
theorem okR_alone {A : LA} {Y Z : Nat} {r : Nat → Int32} (h : okR A Y Z r) (hA : okA A) (hZ : Z < 10 ^ 9) : okR A (Y + 1) (Z + 20) (aloneR A r) := okR_age (okR_doX (okR_gath h _) hA (way_dOk h (ruler_lt h).1) hZ)
theorem wayR_gath {A : LA} {r : Nat → Int32} {h9 : Int32} {who : Nat} : wayR A (gathR r h9) who = wayR A r who := by
  unfold wayR
  rw [gathR_n (j := 10 + who) (by omega) (by omega), gathR_n (by omega) (by omega)]
theorem ruler_gath {r : Nat → Int32} {h9 : Int32} : ruler (gathR r h9) = ruler r := by
  unfold ruler
  rw [gathR_n (by decide) (by decide)]
