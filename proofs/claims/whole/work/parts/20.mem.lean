/-! MATHEMATICS: memories, ints that are small numbers -/
theorem lit_nI (k : Nat) : (OfNat.ofNat k : Int32) = nI k := Eq.trans rfl rfl
theorem lt_nI {a b : Nat} (ha : a < 2 ^ 31) (hb : b < 2 ^ 31) : (nI a < nI b) = (a < b) := propext (nI_ltI ha hb)
theorem ldI_nI {β : Type} {M : Mem} {a n i : Nat} {k : Int32 → Option β} (h : i < n) (hn : n < 2 ^ 31) : ldI M a n (nI i) k = k (gI M a i) := by
  unfold ldI
  rw [nI_clamp (Nat.lt_trans h hn), if_neg]
  rintro (q | q)
  · exact nI_pos (Nat.lt_trans h hn) q
  · omega
theorem stI_nI {β : Type} {M : Mem} {a n i : Nat} {v : Int32} {k : Mem → Option β} (h : i < n) (hn : n < 2 ^ 31) : stI M a n (nI i) v k = k (sI M a i v) := by
  unfold stI
  rw [nI_clamp (Nat.lt_trans h hn), if_neg]
  rintro (q | q)
  · exact nI_pos (Nat.lt_trans h hn) q
  · omega
theorem gI_aI_s {M : Mem} {a j : Nat} {f : Nat → Int32} : gI (aI M a f) a j = f j := by show va_up M.1 a f a j = _; rw [va_up_self]
theorem gI_aI_n {M : Mem} {a b j : Nat} {f : Nat → Int32} (h : b ≠ a) : gI (aI M a f) b j = gI M b j := by show va_up M.1 a f b j = _; rw [va_up_ne _ _ h]; rfl
theorem aI_aI {M : Mem} {a : Nat} {f g : Nat → Int32} : aI (aI M a f) a g = aI M a g := by
  unfold aI
  rw [show va_up (va_up M.1 a f) a g = va_up M.1 a g from bx_uu M.1 a f g]
theorem aI_1 {M : Mem} {a : Nat} {f : Nat → Int32} : (aI M a f).1 a = f := va_up_self _ _ _
theorem aI_n {M : Mem} {a b : Nat} {f : Nat → Int32} (h : b ≠ a) : (aI M a f).1 b = M.1 b := va_up_ne _ _ h
theorem sI_aI {M : Mem} {a j : Nat} {f : Nat → Int32} {v : Int32} : sI (aI M a f) a j v = aI M a (upd f j v) := by unfold sI; rw [aI_1, aI_aI]
theorem aI_self {M : Mem} {a : Nat} : aI M a (M.1 a) = M := by
  obtain ⟨x, y, z⟩ := M
  unfold aI
  have : va_up x a (x a) = x := by
    funext k
    unfold va_up
    by_cases h : k = a
    · rw [if_pos h, h]
    · rw [if_neg h]
  rw [this]
theorem sI_def {M : Mem} {a j : Nat} {v : Int32} : sI M a j v = aI M a (upd (M.1 a) j v) := Eq.trans rfl rfl
theorem gI_def {M : Mem} {a j : Nat} : gI M a j = M.1 a j := Eq.trans rfl rfl
/-- what is laid so far -/
def cpR (f : Nat → Int32) (b c k : Nat) : Nat → Int32 := fun j => if c ≤ j ∧ j < c + k then f (b + (j - c)) else f j
theorem lays0_l {M : Mem} {f : Nat → Int32} {b c : Nat} (hb : b + 31 ≤ 186) (hc : c + 31 ≤ 186) (hbc : b + 31 ≤ c ∨ c + 31 ≤ b) : ∀ (d k n : Nat), k + d = 31 → d < n → fX13_lays0_l2 n (aI M 133 (cpR f b c k)) (nI b) (nI c) (nI k) = some (aI M 133 (cpR f b c 31)) := by
  intro d
  induction d with
  | zero =>
    intro k n h1 h2
    cases n with
    | zero => omega
    | succ n =>
      obtain rfl : k = 31 := by omega
      rw [fX13_lays0_l2]
      simp only [lit_nI, lt_nI (a := 31) (b := 31) (by omega) (by omega), Nat.lt_irrefl, if_false]
  | succ d ih =>
    intro k n h1 h2
    cases n with
    | zero => omega
    | succ n =>
      rw [fX13_lays0_l2]
      simp only [lit_nI, lt_nI (a := k) (b := 31) (by omega) (by omega), show k < 31 from by omega, if_true, nI_add, pu]
      rw [ldI_nI (by omega) (by omega), stI_nI (by omega) (by omega), gI_aI_s, sI_aI]
      rw [show upd (cpR f b c k) (c + k) (cpR f b c k (b + k)) = cpR f b c (k + 1) from ?_]
      · exact ih (k + 1) n (by omega) (by omega)
      · funext j
        unfold upd cpR
        by_cases hj : j = c + k
        · subst hj
          rw [if_pos rfl, if_neg (by omega), if_pos (by omega), show c + k - c = k by omega]
        · rw [if_neg hj]
          by_cases h3 : c ≤ j ∧ j < c + k
          · rw [if_pos h3, if_pos (by omega)]
          · rw [if_neg h3, if_neg (by omega)]
theorem lays0_eq {M : Mem} {b c : Nat} (hb : b + 31 ≤ 186) (hc : c + 31 ≤ 186) (hbc : b + 31 ≤ c ∨ c + 31 ≤ b) : fX13_lays0 M (nI b) (nI c) = some (aI M 133 (cpR (M.1 133) b c 31)) := by
  have h0 : cpR (M.1 133) b c 0 = M.1 133 := by
    funext j
    unfold cpR
    rw [if_neg (by omega)]
  have h := lays0_l (M := M) (f := M.1 133) hb hc hbc 31 0 FU rfl (by decide)
  rw [h0, aI_self] at h
  exact h
def kpt (v lo hi : Int32) : Int32 := if v < lo then lo else if hi < v then hi else v
theorem kept_eq (v lo hi : Int32) : fX13_kept v lo hi = some (kpt v lo hi) := by
  unfold fX13_kept kpt
  split
  · rfl
  · split <;> rfl
def gathR (f : Nat → Int32) (b : Nat) (h : Int32) : Nat → Int32 := upd (upd f b (kpt (f b + h) 0 999)) (b + 2) (kpt (f (b + 2) + f (b + 2) / 10) 0 999)
theorem gathers_eq {M : Mem} {b : Nat} {h : Int32} (hb : b + 31 ≤ 186) : fX13_gathers M (nI b) h = some (aI M 133 (gathR (M.1 133) b h)) := by
  simp (disch := omega) only [fX13_gathers, lit_nI, nI_add, kept_eq, b1, Option.bind, ldI_nI, stI_nI, sI_def, gI_def, aI_1, aI_aI, Nat.add_zero, pk_us, pk_un]
  rfl
/-- a deed d of a land (its rows cost, builds, owes, glory) done in the row at b: whether, and the row -/
def doR (cost builds owes glory : Nat → Int32) (f : Nat → Int32) (b d : Nat) : Bool × (Nat → Int32) :=
  if f b < cost d then (false, upd f (b + 8) (f (b + 8) + 1))
  else
    let f1 := upd f b (f b - cost d)
    let f2 := upd f1 (b + 1) (kpt (f1 (b + 1) + builds d) 0 99)
    let f3 := upd f2 (b + 2) (kpt (f2 (b + 2) + owes d) 0 999)
    let r := (f3 (b + 4)).toNatClampNeg
    (true, upd f3 (b + 6 + r) (f3 (b + 6 + r) + glory d))
theorem does_eq {M : Mem} {b d r : Nat} (hb : b + 31 ≤ 186) (hd : d < 7) (hr : M.1 133 (b + 4) = nI r) (hr2 : r < 2) :
    fX13_does M (nI b) (nI d) = some (if (doR (M.1 104) (M.1 105) (M.1 106) (M.1 107) (M.1 133) b d).1 then 1 else 0, aI M 133 (doR (M.1 104) (M.1 105) (M.1 106) (M.1 107) (M.1 133) b d).2) := by
  have hd1 : ¬ nI d = -1 := fun q => by
    have h1 := congrArg Int32.toInt q
    rw [nI_toInt (by omega)] at h1
    exact absurd h1 (by rw [show ((-1 : Int32)).toInt = -1 from by decide]; omega)
  unfold fX13_does doR
  rw [if_neg hd1]
  simp (disch := omega) only [lit_nI, nI_add, kept_eq, b1, Option.bind, ldI_nI, stI_nI, sI_def, gI_def, aI_1, aI_n, aI_aI, Nat.add_zero, pk_us, pk_un, pu, hr, nI_clamp]
  by_cases hc : M.1 133 b < M.1 104 d
  · rw [if_pos hc, if_pos hc]; rfl
  · rw [if_neg hc, if_neg hc]; rfl
