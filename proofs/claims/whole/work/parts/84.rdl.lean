/-! TEXTS: expressions, level by level -/
theorem Lev.w {c : Nat → Nat} {L : Nat} {vf : Nat → Int32} {k d : Nat} {md : Option (Bool × Nat)} {te : Nat → Bool} {q : Nat} {F G : (Nat → Bool) → Nat → Prop} {r : RE} (h : Lev c L vf k d md te q F r) (hw : ∀ te' q2, F te' q2 → G te' q2) : Lev c L vf k d md te q G r := by
  intro out S hS
  have := h out S hS
  cases r with
  | error e => exact this
  | ok v =>
    obtain ⟨l, q2⟩ := v
    obtain ⟨h1, h2, st, out', te', h3, h4, h5⟩ := this
    exact ⟨h1, h2, st, out', te', h3, h4, hw _ _ h5⟩
def folE (c : Nat → Nat) (L d : Nat) (te : Nat → Bool) (q : Nat) : Prop := folT c L d te q ∧ tW c L q ≠ 12 ∧ tW c L q ≠ 11
/-- what is told of expressions one deeper -/
def deepR (c : Nat → Nat) (L : Nat) (vf : Nat → Int32) (r : Nat → Nat → RE) (a : Nat) : Prop := (a < 6 → ∀ q te, q ≤ L → te (a + 1) = false → Lev c L vf 1 (a + 1) (some (true, 6)) te q (fun te' q2 => folE c L (a + 1) te' q2 ∧ ∀ i, i ≤ a → te' i = te i) (r a q)) ∧ (a = 6 → ∀ q, r a q = .error (if begB c L q = true then 2 else 1, tP c L q))
theorem partL {c : Nat → Nat} {L : Nat} {vf : Nat → Int32} {r : Nat → Nat → RE} {a : Nat} (ha : a ≤ 5) (hr : deepR c L vf r (a + 1)) (nt : Bool) (m : Nat) (te : Nat → Bool) (q : Nat) (hq : q ≤ L) (h13 : ¬ (nt = true ∧ tW c L q = 13)) : Lev c L vf 7 (a + 1) (some (nt, m)) te q (fun te' _ => sameT (a + 1) te te') (partR c L vf r a q) := by
  intro out S hS
  obtain ⟨n3, n4⟩ := tN_le (c := c) hq
  obtain ⟨p1, p2⟩ := tP_le (c := c) hq
  unfold partR
  by_cases k2 : tK c L q = 2
  · rw [if_pos k2]
    by_cases v : tV c L q = 10000
    · rw [if_pos v]
      exact Fls.s fun n => by rw [yrd, if_neg h13, if_neg (by omega), if_pos k2, if_pos v]
    · rw [if_neg v]
      exact ⟨by omega, n4, S, _, te, Rch.s fun n => by rw [yrd, if_neg h13, if_neg (by omega), if_pos k2, if_neg v], Aft.rf, fun _ _ => rfl⟩
  · rw [if_neg k2]
    by_cases k1 : tK c L q = 1
    · rw [if_pos k1]
      by_cases v : vf (tW c L q) = -1
      · rw [if_pos v]
        exact Fls.s fun n => by rw [yrd, if_neg h13, if_neg (by omega), if_neg k2, if_pos k1, if_pos v]
      · rw [if_neg v]
        exact ⟨by omega, n4, S, _, te, Rch.s fun n => by rw [yrd, if_neg h13, if_neg (by omega), if_neg k2, if_pos k1, if_neg v], Aft.rf, fun _ _ => rfl⟩
    · rw [if_neg k1]
      by_cases k40 : tK c L q = 40
      · rw [if_pos k40]
        by_cases h6 : a + 1 < 6
        · have e1 : Rch c L vf (some (nt, m), (out, S, a + 1, te, q)) (some (true, 6), (out, 0 :: S, a + 1 + 1, bset te (a + 1 + 1) false, tN c L q)) := Rch.s fun n => by rw [yrd, if_neg h13, if_pos k40, if_pos h6]
          have h := hr.1 h6 (tN c L q) (bset te (a + 1 + 1) false) n4 (if_pos rfl) out (0 :: S) (lowB_c (Or.inl rfl))
          cases hv : r (a + 1) (tN c L q) with
          | error e => rw [hv] at h; exact e1.fl h
          | ok v =>
            obtain ⟨l, q2⟩ := v
            rw [hv] at h
            obtain ⟨s1, s2, st, out', te', s3, s4, s5, s6⟩ := h
            obtain ⟨⟨⟨⟨f1, f2⟩, f3, f4⟩, f5⟩, f6, f7⟩ := s5
            dsimp only
            by_cases k41 : tK c L q2 = 41
            · rw [if_pos k41]
              obtain ⟨n5, n6⟩ := tN_le (c := c) s2
              have hw : tW c L q2 = 22 := tW_k (by omega)
              have e2 : Rch c L vf (none, (out', st, a + 1 + 1, te', q2)) (none, (out ++ l, S, a + 1, te', tN c L q2)) := Rch.s fun n => by
                rw [yrd, if_neg (by omega), if_neg (by omega), if_neg (by rintro ⟨z, _⟩; omega), if_neg (by omega), if_neg (by omega), if_pos ⟨k41, s4.mem List.mem_cons_self⟩, s4.drp (lowB_c (Or.inl rfl)) (Nat.zero_le _)]
                rfl
              obtain ⟨p3, p4⟩ := tP_le (c := c) s2
              refine ⟨by omega, n6, S, _, te', (e1.tr s3).tr e2, Aft.rf, fun i hi => ?_⟩
              rw [s6 i hi]
              exact if_neg (by omega)
            · rw [if_neg k41]
              refine (e1.tr s3).fl (Fls.s fun n => ?_)
              rw [yrd, if_neg f6, if_neg f7, if_neg (by rintro ⟨z1, z2⟩; rw [f5 z1] at z2; exact absurd z2 (by decide)), if_neg (by omega), if_neg (by omega), if_neg (by rintro ⟨z, _⟩; exact k41 z), if_pos (by omega)]
        · have h6' : a + 1 = 6 := by omega
          have h := hr.2 h6' (tN c L q)
          rw [h]
          exact Fls.s fun n => by rw [yrd, if_neg h13, if_pos k40, if_neg h6]
      · rw [if_neg k40]
        exact Fls.s fun n => by rw [yrd, if_neg h13, if_neg k40, if_neg k2, if_neg k1]
theorem opP_c {c : Nat → Nat} {L q : Nat} {o : Int32} (h : opP c L q = some o) : (tK c L q = 42 ∨ tK c L q = 47) ∧ o = (if tK c L q = 42 then -14 else -15) := by
  unfold opP at h
  by_cases k : tK c L q = 42
  · rw [if_pos k] at h; rw [if_pos k]; exact ⟨Or.inl k, (Option.some.inj h).symm⟩
  · rw [if_neg k] at h; rw [if_neg k]
    by_cases k' : tK c L q = 47
    · rw [if_pos k'] at h; exact ⟨Or.inr k', (Option.some.inj h).symm⟩
    · rw [if_neg k'] at h; cases h
theorem opP_n {c : Nat → Nat} {L q : Nat} (h : opP c L q = none) : folP c L q := by
  unfold opP at h
  by_cases k : tK c L q = 42
  · rw [if_pos k] at h; cases h
  · rw [if_neg k] at h
    by_cases k' : tK c L q = 47
    · rw [if_pos k'] at h; cases h
    · exact ⟨k, k'⟩
theorem opS_c {c : Nat → Nat} {L q : Nat} {o : Int32} (h : opS c L q = some o) : (tK c L q = 43 ∨ tK c L q = 45) ∧ o = (if tK c L q = 43 then -12 else -13) := by
  unfold opS at h
  by_cases k : tK c L q = 43
  · rw [if_pos k] at h; rw [if_pos k]; exact ⟨Or.inl k, (Option.some.inj h).symm⟩
  · rw [if_neg k] at h; rw [if_neg k]
    by_cases k' : tK c L q = 45
    · rw [if_pos k'] at h; exact ⟨Or.inr k', (Option.some.inj h).symm⟩
    · rw [if_neg k'] at h; cases h
theorem opS_n {c : Nat → Nat} {L q : Nat} (h : opS c L q = none) : tK c L q ≠ 43 ∧ tK c L q ≠ 45 := by
  unfold opS at h
  by_cases k : tK c L q = 43
  · rw [if_pos k] at h; cases h
  · rw [if_neg k] at h
    by_cases k' : tK c L q = 45
    · rw [if_pos k'] at h; cases h
    · exact ⟨k, k'⟩
theorem opA_c {c : Nat → Nat} {L q : Nat} {o : Int32} (h : opA c L q = some o) : tW c L q = 12 ∧ o = -9 := by
  unfold opA at h
  by_cases k : tW c L q = 12
  · rw [if_pos k] at h; exact ⟨k, (Option.some.inj h).symm⟩
  · rw [if_neg k] at h; cases h
theorem opA_n {c : Nat → Nat} {L q : Nat} (h : opA c L q = none) : tW c L q ≠ 12 := fun k => by
  unfold opA at h
  rw [if_pos k] at h
  cases h
theorem opO_c {c : Nat → Nat} {L q : Nat} {o : Int32} (h : opO c L q = some o) : tW c L q = 11 ∧ o = -8 := by
  unfold opO at h
  by_cases k : tW c L q = 11
  · rw [if_pos k] at h; exact ⟨k, (Option.some.inj h).symm⟩
  · rw [if_neg k] at h; cases h
theorem opO_n {c : Nat → Nat} {L q : Nat} (h : opO c L q = none) : tW c L q ≠ 11 := fun k => by
  unfold opO at h
  rw [if_pos k] at h
  cases h
theorem opsome {op : Option Int32} (h : op ≠ none) : ∃ o, op = some o := by
  cases op with
  | none => exact absurd rfl h
  | some o => exact ⟨o, rfl⟩
theorem prodL {c : Nat → Nat} {L : Nat} {vf : Nat → Int32} {r : Nat → Nat → RE} {a : Nat} (hL : L ≤ 700) (ha : a ≤ 5) (hr : deepR c L vf r (a + 1)) (nt : Bool) (m : Nat) (te : Nat → Bool) (q : Nat) (hq : q ≤ L) (h13 : ¬ (nt = true ∧ tW c L q = 13)) : Lev c L vf 6 (a + 1) (some (nt, m)) te q (fun te' q2 => sameT (a + 1) te te' ∧ folP c L q2) (opsR c L (opP c L) (partR c L vf r a) q) := by
  refine opsR_ok (md := some (false, 0)) (t0 := fun te => te) (F := fun te' _ => sameT (a + 1) te te') hL ?_ ?_ ?_ ?_ ?_ (partL ha hr nt m te q hq h13)
  · intro q h
    obtain ⟨o, e⟩ := opsome h
    have := (opP_c e).1
    omega
  · intro q o te n out st h _
    obtain ⟨k, e⟩ := opP_c h
    have hw : tW c L q = 22 := tW_k (by omega)
    rw [yrd, if_neg (by omega), if_neg (by omega), if_neg (by rintro ⟨z, _⟩; omega), if_neg (by omega), if_pos k, e]
  · intro q o h
    obtain ⟨k, e⟩ := opP_c h
    rw [e]
    split <;> decide
  · intro q o te1 h hF hq
    exact (partL ha hr false 0 te1 (tN c L q) (tN_le hq).2 (fun z => absurd z.1 (by decide))).w fun te' _ z i hi => (z i hi).trans (hF i hi)
  · intro te1 q hF h
    exact ⟨hF, opP_n h⟩
theorem sumL {c : Nat → Nat} {L : Nat} {vf : Nat → Int32} {r : Nat → Nat → RE} {a : Nat} (hL : L ≤ 700) (ha : a ≤ 5) (hr : deepR c L vf r (a + 1)) (nt : Bool) (m : Nat) (te : Nat → Bool) (q : Nat) (hq : q ≤ L) (h13 : ¬ (nt = true ∧ tW c L q = 13)) : Lev c L vf 5 (a + 1) (some (nt, m)) te q (fun te' q2 => sameT (a + 1) te te' ∧ folS c L q2) (sumR c L vf r a q) := by
  refine opsR_ok (md := some (false, 0)) (t0 := fun te => te) (F := fun te' q2 => sameT (a + 1) te te' ∧ folP c L q2) hL ?_ ?_ ?_ ?_ ?_ (prodL hL ha hr nt m te q hq h13)
  · intro q h
    obtain ⟨o, e⟩ := opsome h
    have := (opS_c e).1
    omega
  · intro q o te n out st h _
    obtain ⟨k, e⟩ := opS_c h
    have hw : tW c L q = 22 := tW_k (by omega)
    rw [yrd, if_neg (by omega), if_neg (by omega), if_neg (by rintro ⟨z, _⟩; omega), if_pos k, e]
  · intro q o h
    obtain ⟨k, e⟩ := opS_c h
    rw [e]
    split <;> decide
  · intro q o te1 h hF hq
    exact (prodL hL ha hr false 0 te1 (tN c L q) (tN_le hq).2 (fun z => absurd z.1 (by decide))).w fun te' _ z => ⟨fun i hi => (z.1 i hi).trans (hF.1 i hi), z.2⟩
  · intro te1 q hF h
    exact ⟨hF.1, hF.2, opS_n h⟩
theorem testL {c : Nat → Nat} {L : Nat} {vf : Nat → Int32} {r : Nat → Nat → RE} {a : Nat} (hL : L ≤ 700) (ha : a ≤ 5) (hr : deepR c L vf r (a + 1)) (nt : Bool) (m : Nat) (te : Nat → Bool) (ht : te (a + 1) = false) (q : Nat) (hq : q ≤ L) (h13 : ¬ (nt = true ∧ tW c L q = 13)) : Lev c L vf 4 (a + 1) (some (nt, m)) te q (fun te' q2 => folT c L (a + 1) te' q2 ∧ ∀ i, i ≤ a → te' i = te i) (testR c L (sumR c L vf r a) q) := by
  intro out S hS
  have h := sumL hL ha hr nt m te q hq h13 out S (hS.mono (by decide))
  unfold testR
  cases hv : sumR c L vf r a q with
  | error e => rw [hv] at h; exact h
  | ok v =>
    obtain ⟨l, q2⟩ := v
    rw [hv] at h
    obtain ⟨s1, s2, st, out', te1, s3, s4, s5, s6⟩ := h
    have ht1 : te1 (a + 1) = false := by rw [s5 _ (Nat.le_refl _)]; exact ht
    dsimp only
    by_cases k : tK c L q2 = 60 ∨ tK c L q2 = 61
    · rw [if_pos k]
      have hw : tW c L q2 = 22 := tW_k (by omega)
      obtain ⟨n3, n4⟩ := tN_le (c := c) s2
      obtain ⟨p1, p2⟩ := tP_le (c := c) s2
      have hso : (if tK c L q2 = 60 then (-10 : Int32) else -11) ≠ 0 ∧ strN (if tK c L q2 = 60 then (-10 : Int32) else -11) = 4 := by split <;> decide
      have e1 : Rch c L vf (none, (out', st, a + 1, te1, q2)) (some (false, 0), (out ++ l, (if tK c L q2 = 60 then (-10 : Int32) else -11) :: S, a + 1, bset te1 (a + 1) true, tN c L q2)) := Rch.s fun n => by
        rw [yrd, if_neg (by omega), if_neg (by omega), if_pos ⟨k, ht1⟩, s4.drp hS (by decide)]
      have h2 := sumL hL ha hr false 0 (bset te1 (a + 1) true) (tN c L q2) n4 (fun z => absurd z.1 (by decide)) (out ++ l) ((if tK c L q2 = 60 then (-10 : Int32) else -11) :: S) (lowB_c (Or.inr (by omega)))
      cases hv2 : sumR c L vf r a (tN c L q2) with
      | error e => rw [hv2] at h2; exact (s3.tr e1).fl h2
      | ok v2 =>
        obtain ⟨l2, q3⟩ := v2
        rw [hv2] at h2
        obtain ⟨u1, u2, st2, out2, te2, u3, u4, u5, u6⟩ := h2
        refine ⟨by omega, u2, st2, out2, te2, (s3.tr e1).tr u3, u4.op hso.1 hso.2 (by decide), ⟨u6, fun _ => ?_⟩, fun i hi => ?_⟩
        · rw [u5 _ (Nat.le_refl _)]; exact if_pos rfl
        · rw [u5 i (by omega), ← s5 i (by omega)]
          exact if_neg (by omega)
    · rw [if_neg k]
      exact ⟨s1, s2, st, out', te1, s3, s4.mono (by decide), ⟨s6, fun z => absurd z k⟩, fun i hi => s5 i (by omega)⟩
theorem notL {c : Nat → Nat} {L : Nat} {vf : Nat → Int32} {r : Nat → Nat → RE} {a : Nat} (hL : L ≤ 700) (ha : a ≤ 5) (hr : deepR c L vf r (a + 1)) (te : Nat → Bool) (ht : te (a + 1) = false) : ∀ (m q : Nat), q ≤ L → ∀ out S, lowB 4 S → match notR c L (testR c L (sumR c L vf r a)) m q with
    | .error e => Fls c L vf (some (true, m), (out, S, a + 1, te, q)) e
    | .ok (l, q2) => q ≤ q2 ∧ q2 ≤ L ∧ ∃ st out' te', Rch c L vf (some (true, m), (out, S, a + 1, te, q)) (none, (out', st, a + 1, te', q2)) ∧ Aft 3 out l S st out' ∧ (folT c L (a + 1) te' q2 ∧ ∀ i, i ≤ a → te' i = te i) := by
  intro m
  induction m with
  | zero =>
    intro q hq out S hS
    unfold notR
    by_cases k : tW c L q = 13
    · rw [if_pos k]
      exact Fls.s fun n => by rw [yrd, if_pos ⟨rfl, k⟩, if_pos rfl]
    · rw [if_neg k]
      have h := testL hL ha hr true 0 te ht q hq (fun z => k z.2) out S hS
      cases hv : testR c L (sumR c L vf r a) q with
      | error e => rw [hv] at h; exact h
      | ok v =>
        obtain ⟨l, q2⟩ := v
        rw [hv] at h
        obtain ⟨s1, s2, st, out', te1, s3, s4, s5⟩ := h
        exact ⟨s1, s2, st, out', te1, s3, s4.mono (by decide), s5⟩
  | succ m ih =>
    intro q hq out S hS
    unfold notR
    by_cases k : tW c L q = 13
    · rw [if_pos k]
      obtain ⟨n3, n4⟩ := tN_le (c := c) hq
      obtain ⟨p1, p2⟩ := tP_le (c := c) hq
      have e1 : Rch c L vf (some (true, m + 1), (out, S, a + 1, te, q)) (some (true, m), (out, -7 :: S, a + 1, te, tN c L q)) := Rch.s fun n => by
        rw [yrd, if_pos ⟨rfl, k⟩, if_neg (by omega), Nat.add_sub_cancel]
      have h := ih (tN c L q) n4 out (-7 :: S) (lowB_c (Or.inr (by decide)))
      cases hv : notR c L (testR c L (sumR c L vf r a)) m (tN c L q) with
      | error e => rw [hv] at h; exact e1.fl h
      | ok v =>
        obtain ⟨l, q2⟩ := v
        rw [hv] at h
        obtain ⟨s1, s2, st, out', te1, s3, s4, s5⟩ := h
        refine ⟨by omega, s2, st, out', te1, e1.tr s3, ?_, s5⟩
        have := Aft.op (k := 3) (l := []) (l2 := l) (out := out) (o := -7) (by rw [List.append_nil]; exact s4) (by decide) (by decide) (Nat.le_refl _)
        rw [List.nil_append] at this
        exact this
    · rw [if_neg k]
      have h := testL hL ha hr true (m + 1) te ht q hq (fun z => k z.2) out S hS
      cases hv : testR c L (sumR c L vf r a) q with
      | error e => rw [hv] at h; exact h
      | ok v =>
        obtain ⟨l, q2⟩ := v
        rw [hv] at h
        obtain ⟨s1, s2, st, out', te1, s3, s4, s5⟩ := h
        exact ⟨s1, s2, st, out', te1, s3, s4.mono (by decide), s5⟩
theorem notL6 {c : Nat → Nat} {L : Nat} {vf : Nat → Int32} {r : Nat → Nat → RE} {a : Nat} (hL : L ≤ 700) (ha : a ≤ 5) (hr : deepR c L vf r (a + 1)) (te : Nat → Bool) (ht : te (a + 1) = false) (q : Nat) (hq : q ≤ L) : Lev c L vf 3 (a + 1) (some (true, 6)) te q (fun te' q2 => folT c L (a + 1) te' q2 ∧ ∀ i, i ≤ a → te' i = te i) (notR c L (testR c L (sumR c L vf r a)) 6 q) := by
  intro out S hS
  have h := notL hL ha hr te ht 6 q hq out S (hS.mono (by decide))
  cases hv : notR c L (testR c L (sumR c L vf r a)) 6 q with
  | error e => rw [hv] at h; exact h
  | ok v =>
    obtain ⟨l, q2⟩ := v
    rw [hv] at h
    exact h
theorem andL {c : Nat → Nat} {L : Nat} {vf : Nat → Int32} {r : Nat → Nat → RE} {a : Nat} (hL : L ≤ 700) (ha : a ≤ 5) (hr : deepR c L vf r (a + 1)) (te : Nat → Bool) (ht : te (a + 1) = false) (q : Nat) (hq : q ≤ L) : Lev c L vf 2 (a + 1) (some (true, 6)) te q (fun te' q2 => (folT c L (a + 1) te' q2 ∧ tW c L q2 ≠ 12) ∧ ∀ i, i ≤ a → te' i = te i) (andR c L vf r a q) := by
  refine opsR_ok (md := some (true, 6)) (t0 := fun te => bset te (a + 1) false) (F := fun te' q2 => folT c L (a + 1) te' q2 ∧ ∀ i, i ≤ a → te' i = te i) hL ?_ ?_ ?_ ?_ ?_ (notL6 hL ha hr te ht q hq)
  · intro q h
    obtain ⟨o, e⟩ := opsome h
    have := tW_1 (opA_c e).1 (by decide)
    omega
  · intro q o te n out st h _
    obtain ⟨k, e⟩ := opA_c h
    rw [yrd, if_pos k, e]
  · intro q o h
    obtain ⟨k, e⟩ := opA_c h
    rw [e]
    decide
  · intro q o te1 h hF hq
    refine (notL6 hL ha hr (bset te1 (a + 1) false) (if_pos rfl) (tN c L q) (tN_le hq).2).w fun te' _ z => ⟨z.1, fun i hi => ?_⟩
    rw [z.2 i hi, ← hF.2 i hi]
    exact if_neg (by omega)
  · intro te1 q hF h
    exact ⟨⟨hF.1, opA_n h⟩, hF.2⟩
theorem expL {c : Nat → Nat} {L : Nat} {vf : Nat → Int32} {r : Nat → Nat → RE} {a : Nat} (hL : L ≤ 700) (ha : a ≤ 5) (hr : deepR c L vf r (a + 1)) (te : Nat → Bool) (ht : te (a + 1) = false) (q : Nat) (hq : q ≤ L) : Lev c L vf 1 (a + 1) (some (true, 6)) te q (fun te' q2 => folE c L (a + 1) te' q2 ∧ ∀ i, i ≤ a → te' i = te i) (expR c L vf r a q) := by
  unfold expR
  rw [if_neg (by rintro ⟨z, _⟩; omega)]
  refine opsR_ok (md := some (true, 6)) (t0 := fun te => bset te (a + 1) false) (F := fun te' q2 => (folT c L (a + 1) te' q2 ∧ tW c L q2 ≠ 12) ∧ ∀ i, i ≤ a → te' i = te i) hL ?_ ?_ ?_ ?_ ?_ (andL hL ha hr te ht q hq)
  · intro q h
    obtain ⟨o, e⟩ := opsome h
    have := tW_1 (opO_c e).1 (by decide)
    omega
  · intro q o te n out st h _
    obtain ⟨k, e⟩ := opO_c h
    rw [yrd, if_neg (by omega), if_pos k, e]
  · intro q o h
    obtain ⟨k, e⟩ := opO_c h
    rw [e]
    decide
  · intro q o te1 h hF hq
    refine (andL hL ha hr (bset te1 (a + 1) false) (if_pos rfl) (tN c L q) (tN_le hq).2).w fun te' _ z => ⟨z.1, fun i hi => ?_⟩
    rw [z.2 i hi, ← hF.2 i hi]
    exact if_neg (by omega)
  · intro te1 q hF h
    exact ⟨⟨hF.1.1, hF.1.2, opO_n h⟩, hF.2⟩
theorem rexp6 {c : Nat → Nat} {L : Nat} {vf : Nat → Int32} {d : Nat} (q : Nat) : rexp c L vf (d + 1) 6 q = .error (if begB c L q = true then 2 else 1, tP c L q) := by
  unfold rexp expR
  by_cases h : begB c L q = true
  · rw [if_pos ⟨Nat.le_refl _, h⟩, if_pos h]
  · rw [if_neg (fun z => h z.2), if_neg h]
    have hk : ¬ (tK c L q = 2 ∨ tK c L q = 1 ∨ tK c L q = 40) := by unfold begB at h; simpa using h
    have hw : tW c L q = 22 := tW_k (by omega)
    have h1 : partR c L vf (rexp c L vf d) 6 q = .error (1, tP c L q) := by
      unfold partR
      rw [if_neg (by omega), if_neg (by omega), if_neg (by omega)]
    have h2 : ∀ (op : Nat → Option Int32) (sub : Nat → RE), sub q = .error (1, tP c L q) → opsR c L op sub q = .error (1, tP c L q) := by
      intro op sub h
      unfold opsR
      rw [h]
    have h3 : sumR c L vf (rexp c L vf d) 6 q = .error (1, tP c L q) := h2 _ _ (h2 _ _ h1)
    have h4 : testR c L (sumR c L vf (rexp c L vf d) 6) q = .error (1, tP c L q) := by
      unfold testR
      rw [h3]
    have h5 : notR c L (testR c L (sumR c L vf (rexp c L vf d) 6)) 6 q = .error (1, tP c L q) := by
      unfold notR
      rw [if_neg (by omega), h4]
    exact h2 _ _ (h2 _ _ h5)
theorem rexpD {c : Nat → Nat} {L : Nat} {vf : Nat → Int32} (hL : L ≤ 700) : ∀ b a, a + b = 6 → deepR c L vf (rexp c L vf (8 - a)) a := by
  intro b
  induction b with
  | zero =>
    intro a ha
    have : a = 6 := by omega
    subst this
    exact ⟨fun h => absurd h (by omega), fun _ q => rexp6 q⟩
  | succ b ih =>
    intro a ha
    refine ⟨fun h6 q te hq ht => ?_, fun h => absurd h (by omega)⟩
    have hd := ih (a + 1) (by omega)
    rw [show 8 - a = (8 - (a + 1)) + 1 by omega]
    exact expL hL (by omega) hd te ht q hq
/-- a whole expression of a rule -/
theorem rexp_y {c : Nat → Nat} {L : Nat} {vf : Nat → Int32} (hL : L ≤ 700) {q : Nat} (hq : q ≤ L) {te : Nat → Bool} (ht : te 1 = false) : match rexp c L vf 8 0 q with
    | .error e => ∃ k, ∀ n, yrd c L vf (n + k) (some (true, 6), ([], [], 1, te, q)) = some (.error e)
    | .ok (l, q2) => q ≤ q2 ∧ q2 ≤ L ∧ ∃ out st te' k, (∀ n, yrd c L vf (n + k) (some (true, 6), ([], [], 1, te, q)) = some (.ok (out, st, 1, te', q2))) ∧ drp 0 out st = (l, []) := by
  have h := (rexpD (c := c) (vf := vf) hL 6 0 rfl).1 (by decide) q te hq ht [] [] (fun x s e => by cases e)
  rw [show 8 - 0 = 8 from rfl] at h
  cases hv : rexp c L vf 8 0 q with
  | error e => rw [hv] at h; exact h
  | ok v =>
    obtain ⟨l, q2⟩ := v
    rw [hv] at h
    obtain ⟨s1, s2, st, out, te', ⟨k, s3⟩, s4, s5, s6⟩ := h
    obtain ⟨⟨⟨⟨f1, f2⟩, f3, f4⟩, f5⟩, f6, f7⟩ := s5
    have hz : ¬ (0 : Int32) ∈ st := by
      obtain ⟨P, z1, z2, z3⟩ := s4
      rw [z2, List.append_nil]
      intro z
      exact (z1 0 z).1 rfl
    refine ⟨s1, s2, out, st, te', k + 1, fun n => ?_, ?_⟩
    · rw [show n + (k + 1) = (n + 1) + k by omega, s3, yrd, if_neg f6, if_neg f7, if_neg (by rintro ⟨z1, z2⟩; rw [f5 z1] at z2; exact absurd z2 (by decide)), if_neg (by omega), if_neg (by omega), if_neg (by rintro ⟨_, z⟩; exact hz z), if_neg (by omega)]
    · have := s4.drp (j := 0) (fun x s e => by cases e) (by decide)
      rw [this, List.nil_append]
