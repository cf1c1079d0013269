/-! MATHEMATICS: memories, ints that are small numbers -/
theorem lit_nI (k : Nat) : (OfNat.ofNat k : Int32) = nI k := Eq.trans rfl rfl
theorem lt_nI {a b : Nat} (ha : a < 2 ^ 31) (hb : b < 2 ^ 31) : (nI a < nI b) = (a < b) := propext (nI_ltI ha hb)
theorem eq_nI {a b : Nat} (ha : a < 2 ^ 31) (hb : b < 2 ^ 31) : (nI a = nI b) = (a = b) := propext (nI_eq ha hb)
theorem nI_neg1 {n : Nat} (h : n < 2 ^ 31) : ¬ nI n = -1 := fun q => by
  have h1 := congrArg Int32.toInt q
  rw [nI_toInt h] at h1
  exact absurd h1 (by rw [show ((-1 : Int32)).toInt = -1 from by decide]; omega)
theorem nI_neg2 {n : Nat} (h : n < 2 ^ 31) : ¬ nI n = -2 := fun q => by
  have h1 := congrArg Int32.toInt q
  rw [nI_toInt h] at h1
  exact absurd h1 (by rw [show ((-2 : Int32)).toInt = -2 from by decide]; omega)
theorem ck_t {c : Prop} [Decidable c] {β : Type} {k : Option β} (h : c) : ck c k = k := if_pos h
theorem zz0 {β : Type} {k : Option β} : zz 0 k = k := if_pos (Or.inl rfl)
theorem zz1 {β : Type} {k : Option β} : zz 1 k = k := if_pos (Or.inr rfl)
theorem nz_t {x : Int32} {β : Type} {k : Option β} (h : ¬ x = 0) : nz x k = k := if_neg h
theorem b1_s {α β : Type} {a : α} {k : α → Option β} : b1 (some a) k = k a := Eq.trans rfl rfl
theorem b2_s {α β : Type} {a : α} {M : Mem} {k : α → Mem → Option β} : b2 (some (a, M)) k = k a M := Eq.trans rfl rfl
theorem pu_s {α β : Type} {a : α} {k : α → β} : pu a k = k a := Eq.trans rfl rfl
theorem ldI_nI {β : Type} {M : Mem} {a n i : Nat} {k : Int32 → Option β} (h : i < n) (hn : n < 2 ^ 31) : ldI M a n (nI i) k = k (gI M a i) := by
  unfold ldI
  rw [nI_clamp (Nat.lt_trans h hn), if_neg]
  rintro (q | q)
  · exact nI_pos (Nat.lt_trans h hn) q
  · omega
theorem stI_nI {β : Type} {M : Mem} {a n i : Nat} {v : Int32} {k : Mem → Option β} (h : i < n) (hn : n < 2 ^ 31) : stI M a n (nI i) v k = k (sI M a i v) := by
  unfold stI
  rw [nI_clamp (Nat.lt_trans h hn), if_neg]
  rintro (q | q)
  · exact nI_pos (Nat.lt_trans h hn) q
  · omega
theorem gI_sI {M : Mem} {a j b k : Nat} {v : Int32} : gI (sI M a j v) b k = if b = a ∧ k = j then v else gI M b k := by
  show va_up M.1 a (upd (M.1 a) j v) b k = _
  unfold va_up
  by_cases hb : b = a
  · subst hb
    rw [if_pos rfl]
    unfold upd
    by_cases hk : k = j
    · rw [if_pos hk, if_pos ⟨rfl, hk⟩]
    · rw [if_neg hk, if_neg (fun q => hk q.2)]; rfl
  · rw [if_neg hb, if_neg (fun q => hb q.1)]; rfl
theorem gI_ss {M : Mem} {a j : Nat} {v : Int32} : gI (sI M a j v) a j = v := by rw [gI_sI, if_pos ⟨rfl, rfl⟩]
theorem gI_sa {M : Mem} {a j b k : Nat} {v : Int32} (h : b ≠ a) : gI (sI M a j v) b k = gI M b k := by rw [gI_sI, if_neg (fun q => h q.1)]
theorem gI_sj {M : Mem} {a j b k : Nat} {v : Int32} (h : k ≠ j) : gI (sI M a j v) b k = gI M b k := by rw [gI_sI, if_neg (fun q => h q.2)]
theorem sI_2 {M : Mem} {a j : Nat} {v : Int32} : (sI M a j v).2 = M.2 := Eq.trans rfl rfl
theorem gR_sI {M : Mem} {a j b k : Nat} {v : Int32} : gR (sI M a j v) b k = gR M b k := Eq.trans rfl rfl
theorem gL_sI {M : Mem} {a j b k : Nat} {v : Int32} : gL (sI M a j v) b k = gL M b k := Eq.trans rfl rfl
theorem upd_a {f : Nat → Int32} {k j : Nat} {x : Int32} : upd f k x j = if j = k then x else f j := Eq.trans rfl rfl
/-- a row of 31: how the reference has it, at b in its board -/
def rB (M : Mem) (b j : Nat) : Int32 := if j < 31 then gI M 133 (b + j) else 0
theorem rB_s {M : Mem} {b i : Nat} {v : Int32} (h : i < 31) : rB (sI M 133 (b + i) v) b = upd (rB M b) i v := by
  funext j
  rw [upd_a]
  unfold rB
  by_cases hj : j = i
  · subst hj
    rw [if_pos h, if_pos rfl, gI_ss]
  · rw [if_neg hj, gI_sj (by omega)]
theorem rB_s0 {M : Mem} {b : Nat} {v : Int32} : rB (sI M 133 b v) b = upd (rB M b) 0 v := rB_s (i := 0) (by decide)
theorem rB_n {M : Mem} {a b i : Nat} {v : Int32} (h : a ≠ 133) : rB (sI M a i v) b = rB M b := by
  funext j
  unfold rB
  rw [gI_sa (Ne.symm h)]
theorem rB_o {M : Mem} {b c : Nat} {v : Int32} (h : c < b ∨ b + 31 ≤ c) : rB (sI M 133 c v) b = rB M b := by
  funext j
  unfold rB
  by_cases hj : j < 31
  · rw [if_pos hj, if_pos hj, gI_sj (by omega)]
  · rw [if_neg hj, if_neg hj]
theorem rB_g {M : Mem} {b i : Nat} (h : i < 31) : gI M 133 (b + i) = rB M b i := by unfold rB; rw [if_pos h]
/-- where the class has a row's place j: the object, the field -/
def plA (j : Nat) : Nat := if j < 6 then 0 else if j < 8 then 2 else if j < 10 then 0 else if j < 12 then 1 else if j < 13 then 0 else if j < 25 then 3 else 4
def plJ (j : Nat) : Nat := if j < 6 then j else if j < 8 then j - 6 else if j < 10 then j - 2 else if j < 12 then j - 10 else if j < 13 then 8 else if j < 25 then j - 13 else j - 25
def rC (M : Mem) (k j : Nat) : Int32 := if j < 31 then gI M (k + plA j) (plJ j) else 0
theorem pl_inj : ∀ i, i < 31 → ∀ j, j < 31 → plA i = plA j → plJ i = plJ j → i = j := by decide +kernel
theorem pl_4 : ∀ i, i < 31 → plA i ≤ 4 := by decide +kernel
theorem rC_s {M : Mem} {k i : Nat} {v : Int32} (h : i < 31) : rC (sI M (k + plA i) (plJ i) v) k = upd (rC M k) i v := by
  funext j
  rw [upd_a]
  unfold rC
  by_cases hj : j < 31
  · rw [if_pos hj, if_pos hj, gI_sI]
    by_cases hq : j = i
    · subst hq
      rw [if_pos rfl, if_pos ⟨rfl, rfl⟩]
    · rw [if_neg hq, if_neg]
      rintro ⟨q1, q2⟩
      exact hq (pl_inj j hj i h (by omega) q2)
  · rw [if_neg hj, if_neg hj, if_neg (by omega)]
theorem rC_n {M : Mem} {a k i : Nat} {v : Int32} (h : a < k ∨ k + 4 < a) : rC (sI M a i v) k = rC M k := by
  funext j
  unfold rC
  by_cases hj : j < 31
  · have := pl_4 j hj
    rw [if_pos hj, if_pos hj, gI_sa (by omega)]
  · rw [if_neg hj, if_neg hj]
theorem rC_g {M : Mem} {k i : Nat} (h : i < 31) : gI M (k + plA i) (plJ i) = rC M k i := by unfold rC; rw [if_pos h]
theorem rC_f {M : Mem} {k i : Nat} {v : Int32} (h : i < 6) : rC (sI M k i v) k = upd (rC M k) i v := by
  have := rC_s (M := M) (k := k) (i := i) (v := v) (by omega)
  rwa [show plA i = 0 from if_pos h, show plJ i = i from if_pos h] at this
theorem rC_f6 {M : Mem} {k : Nat} {v : Int32} : rC (sI M k 6 v) k = upd (rC M k) 8 v := rC_s (i := 8) (by decide)
theorem rC_f7 {M : Mem} {k : Nat} {v : Int32} : rC (sI M k 7 v) k = upd (rC M k) 9 v := rC_s (i := 9) (by decide)
theorem rC_f8 {M : Mem} {k : Nat} {v : Int32} : rC (sI M k 8 v) k = upd (rC M k) 12 v := rC_s (i := 12) (by decide)
theorem rC_a1 {M : Mem} {k i : Nat} {v : Int32} (h : i < 2) : rC (sI M (k + 1) i v) k = upd (rC M k) (10 + i) v := by
  have := rC_s (M := M) (k := k) (i := 10 + i) (v := v) (by omega)
  rwa [show plA (10 + i) = 1 from by unfold plA; rw [if_neg (by omega), if_neg (by omega), if_neg (by omega), if_pos (by omega)], show plJ (10 + i) = i from by unfold plJ; rw [if_neg (by omega), if_neg (by omega), if_neg (by omega), if_pos (by omega)]; omega] at this
theorem rC_a2 {M : Mem} {k i : Nat} {v : Int32} (h : i < 2) : rC (sI M (k + 2) i v) k = upd (rC M k) (6 + i) v := by
  have := rC_s (M := M) (k := k) (i := 6 + i) (v := v) (by omega)
  rwa [show plA (6 + i) = 2 from by unfold plA; rw [if_neg (by omega), if_pos (by omega)], show plJ (6 + i) = i from by unfold plJ; rw [if_neg (by omega), if_pos (by omega)]; omega] at this
theorem rC_a3 {M : Mem} {k i : Nat} {v : Int32} (h : i < 12) : rC (sI M (k + 3) i v) k = upd (rC M k) (13 + i) v := by
  have := rC_s (M := M) (k := k) (i := 13 + i) (v := v) (by omega)
  rwa [show plA (13 + i) = 3 from by unfold plA; rw [if_neg (by omega), if_neg (by omega), if_neg (by omega), if_neg (by omega), if_neg (by omega), if_pos (by omega)], show plJ (13 + i) = i from by unfold plJ; rw [if_neg (by omega), if_neg (by omega), if_neg (by omega), if_neg (by omega), if_neg (by omega), if_pos (by omega)]; omega] at this
theorem rC_a4 {M : Mem} {k i : Nat} {v : Int32} (h : i < 6) : rC (sI M (k + 4) i v) k = upd (rC M k) (25 + i) v := by
  have := rC_s (M := M) (k := k) (i := 25 + i) (v := v) (by omega)
  rwa [show plA (25 + i) = 4 from by unfold plA; rw [if_neg (by omega), if_neg (by omega), if_neg (by omega), if_neg (by omega), if_neg (by omega), if_neg (by omega)], show plJ (25 + i) = i from by unfold plJ; rw [if_neg (by omega), if_neg (by omega), if_neg (by omega), if_neg (by omega), if_neg (by omega), if_neg (by omega)]; omega] at this
theorem gC_f {M : Mem} {k i : Nat} (h : i < 6) : gI M k i = rC M k i := by
  have := rC_g (M := M) (k := k) (i := i) (by omega)
  rwa [show plA i = 0 from if_pos h, show plJ i = i from if_pos h] at this
theorem gC_f6 {M : Mem} {k : Nat} : gI M k 6 = rC M k 8 := rC_g (i := 8) (by decide)
theorem gC_f7 {M : Mem} {k : Nat} : gI M k 7 = rC M k 9 := rC_g (i := 9) (by decide)
theorem gC_f8 {M : Mem} {k : Nat} : gI M k 8 = rC M k 12 := rC_g (i := 12) (by decide)
theorem gC_a1 {M : Mem} {k i : Nat} (h : i < 2) : gI M (k + 1) i = rC M k (10 + i) := by
  have := rC_g (M := M) (k := k) (i := 10 + i) (by omega)
  rwa [show plA (10 + i) = 1 from by unfold plA; rw [if_neg (by omega), if_neg (by omega), if_neg (by omega), if_pos (by omega)], show plJ (10 + i) = i from by unfold plJ; rw [if_neg (by omega), if_neg (by omega), if_neg (by omega), if_pos (by omega)]; omega] at this
theorem gC_a2 {M : Mem} {k i : Nat} (h : i < 2) : gI M (k + 2) i = rC M k (6 + i) := by
  have := rC_g (M := M) (k := k) (i := 6 + i) (by omega)
  rwa [show plA (6 + i) = 2 from by unfold plA; rw [if_neg (by omega), if_pos (by omega)], show plJ (6 + i) = i from by unfold plJ; rw [if_neg (by omega), if_pos (by omega)]; omega] at this
theorem gC_a3 {M : Mem} {k i : Nat} (h : i < 12) : gI M (k + 3) i = rC M k (13 + i) := by
  have := rC_g (M := M) (k := k) (i := 13 + i) (by omega)
  rwa [show plA (13 + i) = 3 from by unfold plA; rw [if_neg (by omega), if_neg (by omega), if_neg (by omega), if_neg (by omega), if_neg (by omega), if_pos (by omega)], show plJ (13 + i) = i from by unfold plJ; rw [if_neg (by omega), if_neg (by omega), if_neg (by omega), if_neg (by omega), if_neg (by omega), if_pos (by omega)]; omega] at this
theorem gC_a4 {M : Mem} {k i : Nat} (h : i < 6) : gI M (k + 4) i = rC M k (25 + i) := by
  have := rC_g (M := M) (k := k) (i := 25 + i) (by omega)
  rwa [show plA (25 + i) = 4 from by unfold plA; rw [if_neg (by omega), if_neg (by omega), if_neg (by omega), if_neg (by omega), if_neg (by omega), if_neg (by omega)], show plJ (25 + i) = i from by unfold plJ; rw [if_neg (by omega), if_neg (by omega), if_neg (by omega), if_neg (by omega), if_neg (by omega), if_neg (by omega)]; omega] at this
/-- what a year of the reference leaves as it was; what one of the class does -/
def frM (b : Nat) (M M' : Mem) : Prop := (∀ a j, (a = 133 → j < b ∨ b + 31 ≤ j) → a ≠ 135 → a ≠ 136 → gI M' a j = gI M a j) ∧ M'.2 = M.2
def frC (k : Nat) (M M' : Mem) : Prop := (∀ a j, (a < k ∨ k + 4 < a) → a ≠ 46 → a ≠ 47 → a ≠ 48 → gI M' a j = gI M a j) ∧ M'.2 = M.2
theorem frM.rf {b : Nat} {M : Mem} : frM b M M := ⟨fun _ _ _ _ _ => rfl, rfl⟩
theorem frC.rf {k : Nat} {M : Mem} : frC k M M := ⟨fun _ _ _ _ _ _ => rfl, rfl⟩
theorem frM.tr {b : Nat} {M M1 M2 : Mem} (h : frM b M M1) (h2 : frM b M1 M2) : frM b M M2 := ⟨fun a j x y z => (h2.1 a j x y z).trans (h.1 a j x y z), h2.2.trans h.2⟩
theorem frC.tr {k : Nat} {M M1 M2 : Mem} (h : frC k M M1) (h2 : frC k M1 M2) : frC k M M2 := ⟨fun a j x y z u => (h2.1 a j x y z u).trans (h.1 a j x y z u), h2.2.trans h.2⟩
theorem frM.st {b i : Nat} {M M1 : Mem} {v : Int32} (h : frM b M M1) (hi : b ≤ i) (hi2 : i < b + 31) : frM b M (sI M1 133 i v) := ⟨fun a j x y z => by
  by_cases ha : a = 133
  · rw [gI_sj (by have := x ha; omega)]; exact h.1 a j x y z
  · rw [gI_sa ha]; exact h.1 a j x y z, h.2⟩
theorem frM.sc {b a i : Nat} {M M1 : Mem} {v : Int32} (h : frM b M M1) (ha : a = 135 ∨ a = 136) : frM b M (sI M1 a i v) := ⟨fun c j x y z => by
  rw [gI_sa (by omega)]; exact h.1 c j x y z, h.2⟩
theorem frC.st {k a i : Nat} {M M1 : Mem} {v : Int32} (h : frC k M M1) (ha : k ≤ a ∧ a ≤ k + 4 ∨ a = 46 ∨ a = 47 ∨ a = 48) : frC k M (sI M1 a i v) := ⟨fun c j x y z u => by
  rw [gI_sa (by omega)]; exact h.1 c j x y z u, h.2⟩
