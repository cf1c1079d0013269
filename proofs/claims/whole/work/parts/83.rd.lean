/-! TEXTS: expressions, as both read them: the class from above, the reference by a row of what waits -/
abbrev RE : Type := Except (Nat × Nat) (List Int32 × Nat)
def begB (c : Nat → Nat) (L q : Nat) : Bool := decide (tK c L q = 2 ∨ tK c L q = 1 ∨ tK c L q = 40)
def partR (c : Nat → Nat) (L : Nat) (vf : Nat → Int32) (r : Nat → Nat → RE) (a q : Nat) : RE :=
  if tK c L q = 2 then (if tV c L q = 10000 then .error (2, tP c L q) else .ok ([nI (tV c L q)], tN c L q))
  else if tK c L q = 1 then (if vf (tW c L q) = -1 then .error (3, tP c L q) else .ok ([(-1) - vf (tW c L q)], tN c L q))
  else if tK c L q = 40 then (match r (a + 1) (tN c L q) with
    | .error e => .error e
    | .ok (l, q2) => if tK c L q2 = 41 then .ok (l, tN c L q2) else .error (1, tP c L q2))
  else .error (1, tP c L q)
/-- operands joined by operators of one strength -/
def opL (c : Nat → Nat) (L : Nat) (op : Nat → Option Int32) (sub : Nat → RE) : Nat → List Int32 → Nat → RE
  | 0, l, q => .ok (l, q)
  | n + 1, l, q => match op q with
    | none => .ok (l, q)
    | some o => match sub (tN c L q) with
      | .error e => .error e
      | .ok (l2, q2) => opL c L op sub n (l ++ l2 ++ [o]) q2
def opsR (c : Nat → Nat) (L : Nat) (op : Nat → Option Int32) (sub : Nat → RE) (q : Nat) : RE := match sub q with
  | .error e => .error e
  | .ok (l, q2) => opL c L op sub 700 l q2
def opP (c : Nat → Nat) (L q : Nat) : Option Int32 := if tK c L q = 42 then some (-14) else if tK c L q = 47 then some (-15) else none
def opS (c : Nat → Nat) (L q : Nat) : Option Int32 := if tK c L q = 43 then some (-12) else if tK c L q = 45 then some (-13) else none
def opA (c : Nat → Nat) (L q : Nat) : Option Int32 := if tW c L q = 12 then some (-9) else none
def opO (c : Nat → Nat) (L q : Nat) : Option Int32 := if tW c L q = 11 then some (-8) else none
def testR (c : Nat → Nat) (L : Nat) (sum : Nat → RE) (q : Nat) : RE := match sum q with
  | .error e => .error e
  | .ok (l, q2) => if tK c L q2 = 60 ∨ tK c L q2 = 61 then (match sum (tN c L q2) with
      | .error e => .error e
      | .ok (l2, q3) => .ok (l ++ l2 ++ [if tK c L q2 = 60 then -10 else -11], q3)) else .ok (l, q2)
def notR (c : Nat → Nat) (L : Nat) (test : Nat → RE) : Nat → Nat → RE
  | 0, q => if tW c L q = 13 then .error (2, tP c L q) else test q
  | m + 1, q => if tW c L q = 13 then (match notR c L test m (tN c L q) with
      | .error e => .error e
      | .ok (l, q2) => .ok (l ++ [-7], q2)) else test q
def sumR (c : Nat → Nat) (L : Nat) (vf : Nat → Int32) (r : Nat → Nat → RE) (a : Nat) : Nat → RE := opsR c L (opS c L) (opsR c L (opP c L) (partR c L vf r a))
def andR (c : Nat → Nat) (L : Nat) (vf : Nat → Int32) (r : Nat → Nat → RE) (a : Nat) : Nat → RE := opsR c L (opA c L) (notR c L (testR c L (sumR c L vf r a)) 6)
def expR (c : Nat → Nat) (L : Nat) (vf : Nat → Int32) (r : Nat → Nat → RE) (a q : Nat) : RE := if 6 ≤ a ∧ begB c L q = true then .error (2, tP c L q) else opsR c L (opO c L) (andR c L vf r a) q
def rexp (c : Nat → Nat) (L : Nat) (vf : Nat → Int32) : Nat → Nat → Nat → RE
  | 0, _, _ => .error (0, 0)
  | d + 1, a, q => expR c L vf (rexp c L vf d) a q
-- the row of what waits; 0 is an open parenthesis
def strN (x : Int32) : Nat := if x = -8 then 1 else if x = -9 then 2 else if x = -7 then 3 else if x = -10 then 4 else if x = -11 then 4 else if x = -12 then 5 else if x = -13 then 5 else 6
def drp (least : Nat) : List Int32 → List Int32 → List Int32 × List Int32
  | out, [] => (out, [])
  | out, x :: s => if x = 0 ∨ strN x < least then (out, x :: s) else drp least (out ++ [x]) s
abbrev YS : Type := List Int32 × List Int32 × Nat × (Nat → Bool) × Nat
abbrev YC : Type := Option (Bool × Nat) × YS
def bset (f : Nat → Bool) (k : Nat) (b : Bool) : Nat → Bool := fun i => if i = k then b else f i
def yrd (c : Nat → Nat) (L : Nat) (vf : Nat → Int32) : Nat → YC → Option (Except (Nat × Nat) YS)
  | 0, _ => none
  | n + 1, (some (nt, m), (out, st, d, te, q)) =>
    if nt = true ∧ tW c L q = 13 then (if m = 0 then some (.error (2, tP c L q)) else yrd c L vf n (some (nt, m - 1), (out, -7 :: st, d, te, tN c L q)))
    else if tK c L q = 40 then (if d < 6 then yrd c L vf n (some (true, 6), (out, 0 :: st, d + 1, bset te (d + 1) false, tN c L q)) else some (.error (if begB c L (tN c L q) = true then 2 else 1, tP c L (tN c L q))))
    else if tK c L q = 2 then (if tV c L q = 10000 then some (.error (2, tP c L q)) else yrd c L vf n (none, (out ++ [nI (tV c L q)], st, d, te, tN c L q)))
    else if tK c L q = 1 then (if vf (tW c L q) = -1 then some (.error (3, tP c L q)) else yrd c L vf n (none, (out ++ [(-1) - vf (tW c L q)], st, d, te, tN c L q)))
    else some (.error (1, tP c L q))
  | n + 1, (none, (out, st, d, te, q)) =>
    if tW c L q = 12 then yrd c L vf n (some (true, 6), ((drp 2 out st).1, -9 :: (drp 2 out st).2, d, bset te d false, tN c L q))
    else if tW c L q = 11 then yrd c L vf n (some (true, 6), ((drp 1 out st).1, -8 :: (drp 1 out st).2, d, bset te d false, tN c L q))
    else if (tK c L q = 60 ∨ tK c L q = 61) ∧ te d = false then yrd c L vf n (some (false, 0), ((drp 4 out st).1, (if tK c L q = 60 then -10 else -11) :: (drp 4 out st).2, d, bset te d true, tN c L q))
    else if tK c L q = 43 ∨ tK c L q = 45 then yrd c L vf n (some (false, 0), ((drp 5 out st).1, (if tK c L q = 43 then -12 else -13) :: (drp 5 out st).2, d, te, tN c L q))
    else if tK c L q = 42 ∨ tK c L q = 47 then yrd c L vf n (some (false, 0), ((drp 6 out st).1, (if tK c L q = 42 then -14 else -15) :: (drp 6 out st).2, d, te, tN c L q))
    else if tK c L q = 41 ∧ 0 ∈ st then yrd c L vf n (none, ((drp 0 out st).1, (drp 0 out st).2.tail, d - 1, te, tN c L q))
    else if 1 < d then some (.error (1, tP c L q)) else some (.ok (out, st, d, te, q))
def Rch (c : Nat → Nat) (L : Nat) (vf : Nat → Int32) (x y : YC) : Prop := ∃ k, ∀ n, yrd c L vf (n + k) x = yrd c L vf n y
def Fls (c : Nat → Nat) (L : Nat) (vf : Nat → Int32) (x : YC) (e : Nat × Nat) : Prop := ∃ k, ∀ n, yrd c L vf (n + k) x = some (.error e)
theorem Rch.tr {c : Nat → Nat} {L : Nat} {vf : Nat → Int32} {x y z : YC} (h : Rch c L vf x y) (h2 : Rch c L vf y z) : Rch c L vf x z := by
  obtain ⟨k, hk⟩ := h
  obtain ⟨j, hj⟩ := h2
  exact ⟨j + k, fun n => by rw [← Nat.add_assoc, hk, hj]⟩
theorem Rch.fl {c : Nat → Nat} {L : Nat} {vf : Nat → Int32} {x y : YC} {e : Nat × Nat} (h : Rch c L vf x y) (h2 : Fls c L vf y e) : Fls c L vf x e := by
  obtain ⟨k, hk⟩ := h
  obtain ⟨j, hj⟩ := h2
  exact ⟨j + k, fun n => by rw [← Nat.add_assoc, hk, hj]⟩
theorem Rch.s {c : Nat → Nat} {L : Nat} {vf : Nat → Int32} {x y : YC} (h : ∀ n, yrd c L vf (n + 1) x = yrd c L vf n y) : Rch c L vf x y := ⟨1, h⟩
theorem Fls.s {c : Nat → Nat} {L : Nat} {vf : Nat → Int32} {x : YC} {e : Nat × Nat} (h : ∀ n, yrd c L vf (n + 1) x = some (.error e)) : Fls c L vf x e := ⟨1, h⟩
/-- the top of what waits is weaker -/
def lowB (k : Nat) (S : List Int32) : Prop := ∀ x s, S = x :: s → x = 0 ∨ strN x < k
theorem lowB.mono {k j : Nat} {S : List Int32} (h : lowB k S) (hj : k ≤ j) : lowB j S := fun x s e => by
  rcases h x s e with q | q
  · exact Or.inl q
  · exact Or.inr (by omega)
theorem lowB_c {k : Nat} {x : Int32} {S : List Int32} (h : x = 0 ∨ strN x < k) : lowB k (x :: S) := fun y s e => by
  injection e with e1 e2
  rw [← e1]
  exact h
/-- what waits above S, with what is out, is the code l behind what was out -/
def Aft (k : Nat) (out l S st out' : List Int32) : Prop := ∃ P, (∀ x ∈ P, x ≠ 0 ∧ k ≤ strN x) ∧ st = P ++ S ∧ out' ++ P = out ++ l
theorem drp_P {k : Nat} {S : List Int32} (h : lowB k S) : ∀ (P out : List Int32), (∀ x ∈ P, x ≠ 0 ∧ k ≤ strN x) → drp k out (P ++ S) = (out ++ P, S) := by
  intro P
  induction P with
  | nil =>
    intro out _
    rw [List.nil_append, List.append_nil]
    cases S with
    | nil => rfl
    | cons x s => rw [drp, if_pos (h x s rfl)]
  | cons x P ih =>
    intro out hP
    obtain ⟨h1, h2⟩ := hP x List.mem_cons_self
    rw [List.cons_append, drp, if_neg, ih _ (fun y hy => hP y (List.mem_cons_of_mem _ hy)), List.append_assoc, List.singleton_append]
    rintro (z | z)
    · exact h1 z
    · omega
theorem Aft.drp {k j : Nat} {out l S st out' : List Int32} (h : Aft k out l S st out') (hS : lowB j S) (hj : j ≤ k) : drp j out' st = (out ++ l, S) := by
  obtain ⟨P, h1, h2, h3⟩ := h
  rw [h2, drp_P hS P out' (fun x hx => ⟨(h1 x hx).1, Nat.le_trans hj (h1 x hx).2⟩), h3]
theorem Aft.mono {k j : Nat} {out l S st out' : List Int32} (h : Aft k out l S st out') (hj : j ≤ k) : Aft j out l S st out' := by
  obtain ⟨P, h1, h2, h3⟩ := h
  exact ⟨P, fun x hx => ⟨(h1 x hx).1, Nat.le_trans hj (h1 x hx).2⟩, h2, h3⟩
theorem Aft.rf {k : Nat} {out l S : List Int32} : Aft k out l S S (out ++ l) := ⟨[], fun x hx => absurd hx List.not_mem_nil, rfl, List.append_nil _⟩
/-- an operator behind what was joined -/
theorem Aft.op {k j : Nat} {out l l2 S st out' : List Int32} {o : Int32} (h : Aft j (out ++ l) l2 (o :: S) st out') (ho : o ≠ 0) (hs : strN o = k) (hj : k ≤ j) : Aft k out (l ++ l2 ++ [o]) S st out' := by
  obtain ⟨P, h1, h2, h3⟩ := h
  refine ⟨P ++ [o], fun x hx => ?_, by rw [h2]; simp, by rw [← List.append_assoc, h3]; simp⟩
  rcases List.mem_append.mp hx with z | z
  · exact ⟨(h1 x z).1, Nat.le_trans hj (h1 x z).2⟩
  · rw [List.mem_singleton.mp z]; exact ⟨ho, by omega⟩
theorem Aft.mem {k : Nat} {out l S st out' : List Int32} (h : Aft k out l S st out') (h0 : (0 : Int32) ∈ S) : (0 : Int32) ∈ st := by
  obtain ⟨P, h1, h2, h3⟩ := h
  rw [h2]
  exact List.mem_append.mpr (Or.inr h0)
-- tokens
theorem tW_k {c : Nat → Nat} {L q : Nat} (h : tK c L q ≠ 1) : tW c L q = 22 := by unfold tW; rw [if_neg h]
theorem tW_1 {c : Nat → Nat} {L q w : Nat} (h : tW c L q = w) (hw : w ≠ 22) : tK c L q = 1 := by
  by_cases q1 : tK c L q = 1
  · exact q1
  · rw [tW_k q1] at h; omega
theorem tK_end {c : Nat → Nat} {L q : Nat} (h : L ≤ q) : tK c L q = 0 := by
  have := runN_ge (f := blkB) (c := c) (L - q) q
  unfold tK
  rw [if_pos (by unfold tP; omega)]
/-- what a level does: from its first token, behind what was out, above S -/
def Lev (c : Nat → Nat) (L : Nat) (vf : Nat → Int32) (k d : Nat) (md : Option (Bool × Nat)) (te : Nat → Bool) (q : Nat) (F : (Nat → Bool) → Nat → Prop) (r : RE) : Prop := ∀ out S, lowB k S → match r with
  | .error e => Fls c L vf (md, (out, S, d, te, q)) e
  | .ok (l, q2) => q ≤ q2 ∧ q2 ≤ L ∧ ∃ st out' te', Rch c L vf (md, (out, S, d, te, q)) (none, (out', st, d, te', q2)) ∧ Aft k out l S st out' ∧ F te' q2
def sameT (d : Nat) (te te' : Nat → Bool) : Prop := ∀ i, i ≤ d → te' i = te i
def folP (c : Nat → Nat) (L q : Nat) : Prop := tK c L q ≠ 42 ∧ tK c L q ≠ 47
def folS (c : Nat → Nat) (L q : Nat) : Prop := folP c L q ∧ tK c L q ≠ 43 ∧ tK c L q ≠ 45
def folT (c : Nat → Nat) (L d : Nat) (te : Nat → Bool) (q : Nat) : Prop := folS c L q ∧ (tK c L q = 60 ∨ tK c L q = 61 → te d = true)
/-- operands joined by operators of one strength k -/
theorem opL_ok {c : Nat → Nat} {L : Nat} {vf : Nat → Int32} {k d : Nat} {op : Nat → Option Int32} {sub : Nat → RE} {md : Option (Bool × Nat)} {F G : (Nat → Bool) → Nat → Prop} {t0 : (Nat → Bool) → (Nat → Bool)}
    (hL : L ≤ 700) (hop0 : ∀ q, op q ≠ none → tK c L q ≠ 0)
    (hstep : ∀ q o te n out st, op q = some o → F te q → yrd c L vf (n + 1) (none, (out, st, d, te, q)) = yrd c L vf n (md, ((drp k out st).1, o :: (drp k out st).2, d, t0 te, tN c L q)))
    (ho : ∀ q o, op q = some o → o ≠ 0 ∧ strN o = k)
    (hsub : ∀ q o te, op q = some o → F te q → q ≤ L → Lev c L vf (k + 1) d md (t0 te) (tN c L q) (fun te' q2 => F te' q2) (sub (tN c L q)))
    (hG : ∀ te q, F te q → op q = none → G te q) :
    ∀ (n : Nat) (l : List Int32) (q : Nat) (te : Nat → Bool) (out S st out' : List Int32), 700 ≤ q + n → q ≤ L → lowB k S → Aft k out l S st out' → F te q → match opL c L op sub n l q with
      | .error e => Fls c L vf (none, (out', st, d, te, q)) e
      | .ok (l2, q2) => q ≤ q2 ∧ q2 ≤ L ∧ ∃ st2 out2 te2, Rch c L vf (none, (out', st, d, te, q)) (none, (out2, st2, d, te2, q2)) ∧ Aft k out l2 S st2 out2 ∧ G te2 q2 := by
  intro n
  induction n with
  | zero =>
    intro l q te out S st out' hn hq hS hA hF
    have h0 : op q = none := by
      cases z : op q with
      | none => rfl
      | some o => exact absurd (tK_end (c := c) (L := L) (q := q) (by omega)) (hop0 q (by rw [z]; exact fun y => by cases y))
    exact ⟨Nat.le_refl _, hq, st, out', te, ⟨0, fun _ => rfl⟩, hA, hG te q hF h0⟩
  | succ n ih =>
    intro l q te out S st out' hn hq hS hA hF
    unfold opL
    cases h0 : op q with
    | none => exact ⟨Nat.le_refl _, hq, st, out', te, ⟨0, fun _ => rfl⟩, hA, hG te q hF h0⟩
    | some o =>
      obtain ⟨o1, o2⟩ := ho q o h0
      have hk := hop0 q (by rw [h0]; exact fun y => by cases y)
      obtain ⟨n1, n2⟩ := tN_gt (c := c) hq hk
      obtain ⟨p1, p2⟩ := tP_le (c := c) hq
      obtain ⟨n3, n4⟩ := tN_le (c := c) hq
      have e1 : Rch c L vf (none, (out', st, d, te, q)) (md, (out ++ l, o :: S, d, t0 te, tN c L q)) := Rch.s fun n => by
        rw [hstep q o te n out' st h0 hF, hA.drp hS (Nat.le_refl _)]
      have hs := hsub q o te h0 hF hq (out ++ l) (o :: S) (lowB_c (Or.inr (by omega)))
      dsimp only
      cases hr : sub (tN c L q) with
      | error e =>
        rw [hr] at hs
        exact e1.fl hs
      | ok v =>
        obtain ⟨l2, q2⟩ := v
        rw [hr] at hs
        obtain ⟨s1, s2, st2, out2, te2, s3, s4, s5⟩ := hs
        have hi := ih (l ++ l2 ++ [o]) q2 te2 out S st2 out2 (by omega) s2 hS (s4.op o1 o2 (by omega)) s5
        dsimp only
        cases hr2 : opL c L op sub n (l ++ l2 ++ [o]) q2 with
        | error e =>
          rw [hr2] at hi
          exact (e1.tr s3).fl hi
        | ok v2 =>
          obtain ⟨l3, q3⟩ := v2
          rw [hr2] at hi
          obtain ⟨i1, i2, st3, out3, te3, i3, i4, i5⟩ := hi
          exact ⟨by omega, i2, st3, out3, te3, (e1.tr s3).tr i3, i4, i5⟩
theorem opsR_ok {c : Nat → Nat} {L : Nat} {vf : Nat → Int32} {k d : Nat} {op : Nat → Option Int32} {sub : Nat → RE} {md md0 : Option (Bool × Nat)} {F G : (Nat → Bool) → Nat → Prop} {t0 : (Nat → Bool) → (Nat → Bool)} {te : Nat → Bool} {q : Nat}
    (hL : L ≤ 700) (hop0 : ∀ q, op q ≠ none → tK c L q ≠ 0)
    (hstep : ∀ q o te n out st, op q = some o → F te q → yrd c L vf (n + 1) (none, (out, st, d, te, q)) = yrd c L vf n (md, ((drp k out st).1, o :: (drp k out st).2, d, t0 te, tN c L q)))
    (ho : ∀ q o, op q = some o → o ≠ 0 ∧ strN o = k)
    (hsub : ∀ q o te, op q = some o → F te q → q ≤ L → Lev c L vf (k + 1) d md (t0 te) (tN c L q) (fun te' q2 => F te' q2) (sub (tN c L q)))
    (hG : ∀ te q, F te q → op q = none → G te q)
    (h1 : Lev c L vf (k + 1) d md0 te q F (sub q)) : Lev c L vf k d md0 te q G (opsR c L op sub q) := by
  intro out S hS
  have h := h1 out S (hS.mono (by omega))
  unfold opsR
  cases hr : sub q with
  | error e => rw [hr] at h; exact h
  | ok v =>
    obtain ⟨l, q2⟩ := v
    rw [hr] at h
    obtain ⟨s1, s2, st, out', te', s3, s4, s5⟩ := h
    have hi := opL_ok (vf := vf) hL hop0 hstep ho hsub hG 700 l q2 te' out S st out' (by omega) s2 hS (s4.mono (by omega)) s5
    dsimp only
    cases hr2 : opL c L op sub 700 l q2 with
    | error e => rw [hr2] at hi; exact s3.fl hi
    | ok v2 =>
      obtain ⟨l3, q3⟩ := v2
      rw [hr2] at hi
      obtain ⟨i1, i2, st3, out3, te3, i3, i4, i5⟩ := hi
      exact ⟨by omega, i2, st3, out3, te3, s3.tr i3, i4, i5⟩
