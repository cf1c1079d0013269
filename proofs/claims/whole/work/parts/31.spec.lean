/-! WHAT BOTH SIDES COMPUTE: lands, rows, years -/
/-- a land: counts (0 deeds, 1 harvests, 2 friends, 3 champions, 4 gates, 5 and 6 the ways' lengths), rows (0 cost, 1 builds, 2 owes, 3 glory, 4 harvest, 5 men, 6 strength, 7 kind, 8 and 9 of gates), rules (0 stays, 1 likes) -/
abbrev LA : Type := (Nat → Nat) × (Nat → Nat → Int32) × (Nat → List Int32)
def aN (A : LA) (i : Nat) : Nat := A.1 i
def aF (A : LA) (i j : Nat) : Int32 := A.2.1 i j
def aC (A : LA) (i : Nat) : List Int32 := A.2.2 i
def kpt (v lo hi : Int32) : Int32 := if v < lo then lo else if hi < v then hi else v
theorem kept_eq (v lo hi : Int32) : fX13_kept v lo hi = some (kpt v lo hi) := by
  unfold fX13_kept kpt
  split
  · rfl
  · split <;> rfl
def gathR (r : Nat → Int32) (h : Int32) : Nat → Int32 := upd (upd r 0 (kpt (r 0 + h) 0 999)) 2 (kpt (r 2 + r 2 / 10) 0 999)
def harvR (A : LA) (r : Nat → Int32) : Int32 := if aN A 1 = 0 then 20 else aF A 4 ((r 3).toNatClampNeg % aN A 1)
def wayR (A : LA) (r : Nat → Int32) (who : Nat) : Int32 := if aN A (5 + who) = 0 then -1 else r (13 + 6 * who + (r (10 + who)).toNatClampNeg % aN A (5 + who))
def ruler (r : Nat → Int32) : Nat := (r 4).toNatClampNeg
/-- a deed done: whether, and the row -/
def doR (A : LA) (r : Nat → Int32) (d : Nat) : Bool × (Nat → Int32) :=
  if r 0 < aF A 0 d then (false, upd r 8 (r 8 + 1))
  else (true, upd (upd (upd (upd r 0 (r 0 - aF A 0 d)) 1 (kpt (r 1 + aF A 1 d) 0 99)) 2 (kpt (r 2 + aF A 2 d) 0 999)) (6 + ruler r) (r (6 + ruler r) + aF A 3 d))
/-- the same, -1 for none -/
def doX (A : LA) (r : Nat → Int32) (d : Int32) : Bool × (Nat → Int32) := if d < 0 then (false, r) else doR A r d.toNatClampNeg
-- values of rules
def opV (x a b : Int32) : Int32 :=
  if x = -14 then a * b else if x = -13 then a - b else if x = -12 then a + b else if x = -11 then (if a = b then 1 else 0)
  else if x = -10 then (if a < b then 1 else 0) else if x = -9 then (if a = 0 then 0 else if b = 0 then 0 else 1)
  else if x = -8 then (if a = 0 then (if b = 0 then 0 else 1) else 1) else (if b = 0 then 0 else a / b)
def itV (v : Nat → Int32) (x : Int32) : Int32 := if x < 0 then v ((-1) - x).toNatClampNeg else x
/-- what a list of items does to a stack (its cells, how many) -/
def evF (v : Nat → Int32) : List Int32 → (Nat → Int32) → Nat → Int32
  | [], st, _ => st 0
  | x :: l, st, n =>
    if x < -6 then
      if x = -7 then evF v l (upd st (n - 1) (if st (n - 1) = 0 then 1 else 0)) n
      else evF v l (upd st (n - 2) (opV x (st (n - 2)) (st (n - 1)))) (n - 1)
    else evF v l (upd st n (itV v x)) (n + 1)
def evL (l : List Int32) (v : Nat → Int32) : Int32 := evF v l (fun _ => 0) 0
/-- well formed: the stack never falls short, never over 40, one at the end -/
def wfC : List Int32 → Nat → Prop
  | [], n => n = 1
  | x :: l, n => if x < -6 then (-16 < x ∧ if x = -7 then 1 ≤ n ∧ wfC l n else 2 ≤ n ∧ wfC l (n - 1)) else x ≤ 9999 ∧ n < 40 ∧ wfC l (n + 1)
theorem evF_congr (v : Nat → Int32) : ∀ (l : List Int32) (st st' : Nat → Int32) (n : Nat), wfC l n → (∀ j, j < n → st j = st' j) → evF v l st n = evF v l st' n := by
  intro l
  induction l with
  | nil => intro st st' n hw h; exact h 0 (by unfold wfC at hw; omega)
  | cons x l ih =>
    intro st st' n hw h
    unfold wfC at hw
    unfold evF
    by_cases hx : x < -6
    · rw [if_pos hx] at hw
      rw [if_pos hx, if_pos hx]
      obtain ⟨-, hw⟩ := hw
      by_cases h7 : x = -7
      · rw [if_pos h7] at hw
        rw [if_pos h7, if_pos h7, h (n - 1) (by omega)]
        refine ih _ _ _ hw.2 fun j hj => ?_
        rw [upd_a, upd_a, h j hj]
      · rw [if_neg h7] at hw
        rw [if_neg h7, if_neg h7, h (n - 1) (by omega), h (n - 2) (by omega)]
        refine ih _ _ _ hw.2 fun j hj => ?_
        rw [upd_a, upd_a, h j (by omega)]
    · rw [if_neg hx] at hw
      rw [if_neg hx, if_neg hx]
      refine ih _ _ _ hw.2.2 fun j hj => ?_
      rw [upd_a, upd_a]
      by_cases hj2 : j = n
      · rw [if_pos hj2, if_pos hj2]
      · rw [if_neg hj2, if_neg hj2, h j (by omega)]
/-- what a friend thinks of a brother (more: glory added) -/
def likV (r : Nat → Int32) (f who : Nat) (more : Int32) (i : Nat) : Int32 :=
  if i = 0 then r (6 + who) + more else if i = 1 then (if r 4 = nI who then 1 else 0) else if i = 2 then (if who = 0 then -(r (25 + f)) else r (25 + f)) else if i = 3 then r 0 else r 2
def likR (A : LA) (r : Nat → Int32) (f who : Nat) (more : Int32) : Int32 := evL (aC A 1) (likV r f who more)
/-- whether a friend follows the younger one; more glory for one of them -/
def youR (A : LA) (r : Nat → Int32) (f : Nat) (m0 m1 : Int32) : Bool := if aC A 1 = [] then decide (0 < r (25 + f)) else decide (likR A r f 0 m0 < likR A r f 1 m1)
def shl1 (n : Nat) : Int32 := (1 : Int32) <<< ((nI n) &&& 31 : Int32)
def folN (A : LA) (r : Nat → Int32) (who : Nat) : Nat → Int32
  | 0 => 0
  | n + 1 => if youR A r n 0 0 = (who == 1) then folN A r who n ||| shl1 n else folN A r who n
def bitR (x : Int32) (n : Nat) : Bool := decide (¬ ((x : Int32) >>> ((nI n) &&& 31 : Int32)) &&& 1 = 0)
def menN (A : LA) (x : Int32) : Nat → Int32
  | 0 => 0
  | n + 1 => if bitR x n = true then menN A x n + aF A 5 n else menN A x n
def stayV (A : LA) (r : Nat → Int32) (i : Nat) : Int32 := if i = 0 then r 0 else if i = 1 then r 1 else if i = 2 then r 2 else if i = 3 then r (6 + ruler r) else if i = 4 then r 3 else menN A (folN A r (ruler r) (aN A 2)) (aN A 2)
def stayR (A : LA) (r : Nat → Int32) : Bool := if aC A 0 = [] then false else decide (0 < evL (aC A 0) (stayV A r))
def ageR (r : Nat → Int32) : Nat → Int32 := upd (upd (upd r 3 (r 3 + 1)) (10 + ruler r) (r (10 + ruler r) + 1)) 5 (r 5 + 1)
def overR (r : Nat → Int32) : Nat → Int32 := upd (upd r 4 (1 - r 4)) 5 0
def turnR (A : LA) (r : Nat → Int32) : Nat → Int32 := if r 5 < r 12 then r else if stayR A r then upd r 9 (r 9 + 1) else overR r
/-- a year with a harvest and a deed -/
def liveR (A : LA) (r : Nat → Int32) (h d : Int32) : Nat → Int32 := turnR A (ageR (doX A (gathR r h) d).2)
def goesR (A : LA) (r : Nat → Int32) : Nat → Int32 := liveR A r (harvR A r) (wayR A r (ruler r))
def yearsR (A : LA) (r : Nat → Int32) : Nat → (Nat → Int32)
  | 0 => r
  | n + 1 => goesR A (yearsR A r n)
def aloneR (A : LA) (r : Nat → Int32) : Nat → Int32 := ageR (doX A (gathR r (harvR A r)) (wayR A r (ruler r))).2
/-- numbers within bounds -/
def inB (x : Int32) (n : Nat) : Prop := ∃ k : Nat, k ≤ n ∧ x = nI k
def inZ (x : Int32) (n : Nat) : Prop := -(n : Int) ≤ x.toInt ∧ x.toInt ≤ n
def okA (A : LA) : Prop := aN A 0 ≤ 7 ∧ aN A 1 ≤ 10 ∧ aN A 2 ≤ 6 ∧ aN A 3 ≤ 7 ∧ aN A 4 ≤ 7 ∧ aN A 5 ≤ 6 ∧ aN A 6 ≤ 6 ∧ (∀ d, d < aN A 0 → inB (aF A 0 d) 99 ∧ inZ (aF A 1 d) 20 ∧ inZ (aF A 2 d) 99 ∧ inZ (aF A 3 d) 20) ∧ (∀ i, i < aN A 1 → inB (aF A 4 i) 99) ∧ (∀ i, i < aN A 2 → inB (aF A 5 i) 9) ∧ (∀ i, i < aN A 3 → inB (aF A 6 i) 20 ∧ inB (aF A 7 i) 3) ∧ (∀ i, i < aN A 4 → inB (aF A 8 i) 20 ∧ inB (aF A 9 i) 3) ∧ (∀ i, i < 2 → aC A i = [] ∨ wfC (aC A i) 0 ∧ ∀ x ∈ aC A i, -7 < x → x < 0 → ((-1) - x).toNatClampNeg < 6 - i)
/-- a row of a land, Y years old at most, glory within Z -/
def okR (A : LA) (Y Z : Nat) (r : Nat → Int32) : Prop := inB (r 0) 999 ∧ inB (r 1) 99 ∧ inB (r 2) 999 ∧ inB (r 3) Y ∧ inB (r 4) 1 ∧ inB (r 5) Y ∧ inZ (r 6) Z ∧ inZ (r 7) Z ∧ inB (r 10) Y ∧ inB (r 11) Y ∧ (∃ n : Nat, 1 ≤ n ∧ n ≤ 5 ∧ r 12 = nI n) ∧ (∀ b, b < 2 → ∀ i, i < aN A (5 + b) → ∃ d : Nat, d < aN A 0 ∧ r (13 + 6 * b + i) = nI d) ∧ (∀ i, i < 6 → inZ (r (25 + i)) 9) ∧ ∀ j, 31 ≤ j → r j = 0
