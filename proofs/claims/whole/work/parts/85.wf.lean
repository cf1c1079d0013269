/-! TEXTS: the code of an expression is well formed, and not longer than its text -/
def okL (lim B q : Nat) (r : RE) : Prop := match r with
  | .error _ => True
  | .ok (l, q2) => q + l.length ≤ q2 ∧ (∀ n, n ≤ B → ∀ rest, wfC rest (n + 1) → wfC (l ++ rest) n) ∧ ∀ x ∈ l, -7 < x → x < 0 → ((-1) - x).toNatClampNeg < lim
def okO (o : Int32) : Prop := -16 < o ∧ o < -6 ∧ o ≠ -7
theorem wf_op {o : Int32} {n : Nat} {rest : List Int32} (h : okO o) (hn : 2 ≤ n) (hr : wfC rest (n - 1)) : wfC (o :: rest) n := by
  unfold wfC
  rw [if_pos h.2.1, if_neg h.2.2]
  exact ⟨h.1, hn, hr⟩
theorem wf_not {n : Nat} {rest : List Int32} (hn : 1 ≤ n) (hr : wfC rest n) : wfC (-7 :: rest) n := by
  unfold wfC
  rw [if_pos (by decide), if_pos rfl]
  exact ⟨by decide, hn, hr⟩
theorem okO_n {o : Int32} (h : okO o) : ¬ -7 < o := fun z => by
  have h1 := Int32.lt_iff_toInt_lt.mp h.2.1
  have h2 := Int32.lt_iff_toInt_lt.mp z
  rw [show ((-6 : Int32)).toInt = -6 from by decide] at h1
  rw [show ((-7 : Int32)).toInt = -7 from by decide] at h2
  exact h.2.2 (Int32.toInt_inj.mp (by rw [show ((-7 : Int32)).toInt = -7 from by decide]; omega))
theorem opL_wf {c : Nat → Nat} {L lim B q0 : Nat} {op : Nat → Option Int32} {sub : Nat → RE} (hop0 : ∀ q, op q ≠ none → tK c L q ≠ 0) (ho : ∀ q o, op q = some o → okO o) (hsub : ∀ q, q ≤ L → okL lim (B + 1) q (sub q)) (hb : ∀ q l q2, q ≤ L → sub q = .ok (l, q2) → q2 ≤ L) : ∀ (n : Nat) (l : List Int32) (q : Nat), q ≤ L → okL lim B q0 (.ok (l, q)) → okL lim B q0 (opL c L op sub n l q) := by
  intro n
  induction n with
  | zero => intro l q hq h; exact h
  | succ n ih =>
    intro l q hq h
    unfold opL
    cases h0 : op q with
    | none => exact h
    | some o =>
      have hk := hop0 q (by rw [h0]; exact fun y => by cases y)
      have hoo := ho q o h0
      obtain ⟨n1, n2⟩ := tN_gt (c := c) hq hk
      obtain ⟨p1, p2⟩ := tP_le (c := c) hq
      obtain ⟨n3, n4⟩ := tN_le (c := c) hq
      have hs := hsub (tN c L q) n4
      dsimp only
      cases hv : sub (tN c L q) with
      | error e => exact True.intro
      | ok v =>
        obtain ⟨l2, q2⟩ := v
        rw [hv] at hs
        have hq2 := hb _ _ _ n4 hv
        obtain ⟨a1, a2, a3⟩ := h
        obtain ⟨b1', b2', b3'⟩ := hs
        refine ih (l ++ l2 ++ [o]) q2 hq2 ⟨?_, fun n hn rest hr => ?_, fun x hx z1 z2 => ?_⟩
        · rw [List.length_append, List.length_append, List.length_singleton]; omega
        · rw [List.append_assoc, List.append_assoc]
          refine a2 n hn _ (b2' (n + 1) (by omega) _ ?_)
          rw [List.singleton_append]
          exact wf_op hoo (by omega) hr
        · rcases List.mem_append.mp hx with y | y
          · rcases List.mem_append.mp y with w | w
            · exact a3 x w z1 z2
            · exact b3' x w z1 z2
          · rw [List.mem_singleton.mp y] at z1
            exact absurd z1 (okO_n hoo)
theorem okL.mono {lim B C q : Nat} {r : RE} (h : okL lim B q r) (hC : C ≤ B) : okL lim C q r := by
  cases r with
  | error e => exact True.intro
  | ok v =>
    obtain ⟨l, q2⟩ := v
    exact ⟨h.1, fun n hn => h.2.1 n (by omega), h.2.2⟩
theorem opsR_wf {c : Nat → Nat} {L lim B : Nat} {op : Nat → Option Int32} {sub : Nat → RE} (hop0 : ∀ q, op q ≠ none → tK c L q ≠ 0) (ho : ∀ q o, op q = some o → okO o) (hsub : ∀ q, q ≤ L → okL lim (B + 1) q (sub q)) (hb : ∀ q l q2, q ≤ L → sub q = .ok (l, q2) → q2 ≤ L) (q : Nat) (hq : q ≤ L) : okL lim B q (opsR c L op sub q) := by
  have h := (hsub q hq).mono (Nat.le_succ B)
  unfold opsR
  cases hv : sub q with
  | error e => exact True.intro
  | ok v =>
    obtain ⟨l, q2⟩ := v
    rw [hv] at h
    exact opL_wf hop0 ho hsub hb 700 l q2 (hb _ _ _ hq hv) h
/-- the places that are read to lie in the text -/
def inL (L : Nat) (sub : Nat → RE) : Prop := ∀ q l q2, q ≤ L → sub q = .ok (l, q2) → q2 ≤ L
theorem opL_in {c : Nat → Nat} {L : Nat} {op : Nat → Option Int32} {sub : Nat → RE} (hb : inL L sub) : ∀ (n : Nat) (l : List Int32) (q : Nat), q ≤ L → ∀ l2 q2, opL c L op sub n l q = .ok (l2, q2) → q2 ≤ L := by
  intro n
  induction n with
  | zero =>
    intro l q hq l2 q2 h
    unfold opL at h
    injection h with h
    injection h with h1 h2
    omega
  | succ n ih =>
    intro l q hq l2 q2 h
    unfold opL at h
    cases h0 : op q with
    | none =>
      rw [h0] at h
      injection h with h
      injection h with h1 h2
      omega
    | some o =>
      rw [h0] at h
      dsimp only at h
      cases hv : sub (tN c L q) with
      | error e => rw [hv] at h; cases h
      | ok v =>
        obtain ⟨l3, q3⟩ := v
        rw [hv] at h
        exact ih _ q3 (hb _ _ _ (tN_le hq).2 hv) l2 q2 h
theorem opsR_in {c : Nat → Nat} {L : Nat} {op : Nat → Option Int32} {sub : Nat → RE} (hb : inL L sub) : inL L (opsR c L op sub) := by
  intro q l q2 hq h
  unfold opsR at h
  cases hv : sub q with
  | error e => rw [hv] at h; cases h
  | ok v =>
    obtain ⟨l3, q3⟩ := v
    rw [hv] at h
    exact opL_in hb 700 l3 q3 (hb _ _ _ hq hv) l q2 h
theorem partR_in {c : Nat → Nat} {L : Nat} {vf : Nat → Int32} {r : Nat → Nat → RE} {a : Nat} (hr : inL L (r (a + 1))) : inL L (partR c L vf r a) := by
  intro q l q2 hq h
  have n4 := (tN_le (c := c) hq).2
  unfold partR at h
  split at h
  · split at h
    · cases h
    · injection h with h
      injection h with h1 h2
      omega
  · split at h
    · split at h
      · cases h
      · injection h with h
        injection h with h1 h2
        omega
    · split at h
      · cases hv : r (a + 1) (tN c L q) with
        | error e => rw [hv] at h; cases h
        | ok v =>
          obtain ⟨l3, q3⟩ := v
          rw [hv] at h
          dsimp only at h
          split at h
          · injection h with h
            injection h with h1 h2
            have := (tN_le (c := c) (hr _ _ _ n4 hv)).2
            omega
          · cases h
      · cases h
theorem testR_in {c : Nat → Nat} {L : Nat} {sum : Nat → RE} (hb : inL L sum) : inL L (testR c L sum) := by
  intro q l q2 hq h
  unfold testR at h
  cases hv : sum q with
  | error e => rw [hv] at h; cases h
  | ok v =>
    obtain ⟨l3, q3⟩ := v
    rw [hv] at h
    dsimp only at h
    have hq3 := hb _ _ _ hq hv
    split at h
    · cases hv2 : sum (tN c L q3) with
      | error e => rw [hv2] at h; cases h
      | ok v2 =>
        obtain ⟨l4, q4⟩ := v2
        rw [hv2] at h
        injection h with h
        injection h with h1 h2
        have := hb _ _ _ (tN_le (c := c) hq3).2 hv2
        omega
    · injection h with h
      injection h with h1 h2
      omega
theorem notR_in {c : Nat → Nat} {L : Nat} {test : Nat → RE} (hb : inL L test) : ∀ m, inL L (notR c L test m) := by
  intro m
  induction m with
  | zero =>
    intro q l q2 hq h
    unfold notR at h
    split at h
    · cases h
    · exact hb _ _ _ hq h
  | succ m ih =>
    intro q l q2 hq h
    unfold notR at h
    split at h
    · cases hv : notR c L test m (tN c L q) with
      | error e => rw [hv] at h; cases h
      | ok v =>
        obtain ⟨l3, q3⟩ := v
        rw [hv] at h
        injection h with h
        injection h with h1 h2
        have := ih _ _ _ (tN_le (c := c) hq).2 hv
        omega
    · exact hb _ _ _ hq h
theorem rexp_in {c : Nat → Nat} {L : Nat} {vf : Nat → Int32} : ∀ d a, inL L (rexp c L vf d a) := by
  intro d
  induction d with
  | zero =>
    intro a q l q2 hq h
    unfold rexp at h
    cases h
  | succ d ih =>
    intro a q l q2 hq h
    unfold rexp expR at h
    split at h
    · cases h
    · exact opsR_in (opsR_in (notR_in (testR_in (opsR_in (opsR_in (partR_in (ih (a + 1)))))) 6)) q l q2 hq h
/-- what values a rule's words are -/
def vfOk (vf : Nat → Int32) (lim : Nat) : Prop := lim ≤ 6 ∧ ∀ w, w ≤ 22 → vf w = -1 ∨ ∃ i, i < lim ∧ vf w = nI i
theorem it_6 : ∀ i, i < 6 → ¬ ((-1 : Int32) - nI i < -6) ∧ ((-1 : Int32) - nI i ≤ 9999) ∧ ((-1) - ((-1 : Int32) - nI i)).toNatClampNeg = i := by decide
theorem partR_wf {c : Nat → Nat} {L lim : Nat} {vf : Nat → Int32} {r : Nat → Nat → RE} {a : Nat} (hvf : vfOk vf lim) (ha : a ≤ 5) (hr : ∀ q, q ≤ L → okL lim (5 * (a + 1)) q (r (a + 1) q)) (hin : inL L (r (a + 1))) (q : Nat) (hq : q ≤ L) : okL lim (5 * a + 5) q (partR c L vf r a q) := by
  obtain ⟨n3, n4⟩ := tN_le (c := c) hq
  obtain ⟨p1, p2⟩ := tP_le (c := c) hq
  unfold partR
  split
  · next k2 =>
    split
    · exact True.intro
    · next v =>
      have hv := (tV_le (c := c) (L := L) hq).1
      have hg := tN_gt (c := c) hq (by omega)
      refine ⟨by rw [List.length_singleton]; omega, fun n hn rest hr => ?_, fun x hx z1 z2 => ?_⟩
      · rw [List.singleton_append]
        unfold wfC
        rw [if_neg (fun z => nI_pos (n := tV c L q) (by omega) (Int32.lt_trans z (by decide)))]
        refine ⟨?_, by omega, hr⟩
        rw [show (9999 : Int32) = nI 9999 from rfl]
        exact nI_le (by omega) (by decide)
      · rw [List.mem_singleton.mp hx] at z2
        exact absurd z2 (nI_pos (by omega))
  · split
    · next k1 =>
      split
      · exact True.intro
      · next v =>
        have hg := tN_gt (c := c) hq (by omega)
        rcases hvf.2 (tW c L q) tW_le with e | ⟨i, hi, e⟩
        · exact absurd e v
        · obtain ⟨i1, i2, i3⟩ := it_6 i (by have := hvf.1; omega)
          rw [e]
          refine ⟨by rw [List.length_singleton]; omega, fun n hn rest hr => ?_, fun x hx z1 z2 => ?_⟩
          · rw [List.singleton_append]
            unfold wfC
            rw [if_neg i1]
            exact ⟨i2, by omega, hr⟩
          · rw [List.mem_singleton.mp hx, i3]
            exact hi
    · split
      · next k40 =>
        have hg := tN_gt (c := c) hq (by omega)
        have h := hr (tN c L q) n4
        cases hv : r (a + 1) (tN c L q) with
        | error e => exact True.intro
        | ok v =>
          obtain ⟨l, q2⟩ := v
          rw [hv] at h
          dsimp only
          split
          · have hq2 := hin _ _ _ n4 hv
            have := tN_le (c := c) hq2
            have := tP_le (c := c) hq2
            exact ⟨by have := h.1; omega, fun n hn => h.2.1 n (by omega), h.2.2⟩
          · exact True.intro
      · exact True.intro
theorem testR_wf {c : Nat → Nat} {L lim B : Nat} {sum : Nat → RE} (hs : ∀ q, q ≤ L → okL lim (B + 1) q (sum q)) (hin : inL L sum) (q : Nat) (hq : q ≤ L) : okL lim B q (testR c L sum q) := by
  have h := hs q hq
  unfold testR
  cases hv : sum q with
  | error e => exact True.intro
  | ok v =>
    obtain ⟨l, q2⟩ := v
    rw [hv] at h
    have hq2 := hin _ _ _ hq hv
    dsimp only
    split
    · next k =>
      have hg := tN_gt (c := c) hq2 (by omega)
      have hp := tP_le (c := c) hq2
      have n4 := (tN_le (c := c) hq2).2
      have h2 := hs _ n4
      cases hv2 : sum (tN c L q2) with
      | error e => exact True.intro
      | ok v2 =>
        obtain ⟨l2, q3⟩ := v2
        rw [hv2] at h2
        obtain ⟨a1, a2, a3⟩ := h
        obtain ⟨b1', b2', b3'⟩ := h2
        have hoo : okO (if tK c L q2 = 60 then -10 else -11) := by split <;> exact ⟨by decide, by decide, by decide⟩
        refine ⟨?_, fun n hn rest hr => ?_, fun x hx z1 z2 => ?_⟩
        · rw [List.length_append, List.length_append, List.length_singleton]; omega
        · rw [List.append_assoc, List.append_assoc]
          refine a2 n (by omega) _ (b2' (n + 1) (by omega) _ ?_)
          rw [List.singleton_append]
          exact wf_op hoo (by omega) hr
        · rcases List.mem_append.mp hx with y | y
          · rcases List.mem_append.mp y with w | w
            · exact a3 x w z1 z2
            · exact b3' x w z1 z2
          · rw [List.mem_singleton.mp y] at z1
            exact absurd z1 (okO_n hoo)
    · exact ⟨h.1, fun n hn => h.2.1 n (by omega), h.2.2⟩
theorem notR_wf {c : Nat → Nat} {L lim B : Nat} {test : Nat → RE} (hs : ∀ q, q ≤ L → okL lim B q (test q)) : ∀ (m q : Nat), q ≤ L → okL lim B q (notR c L test m q) := by
  intro m
  induction m with
  | zero =>
    intro q hq
    unfold notR
    split
    · exact True.intro
    · exact hs q hq
  | succ m ih =>
    intro q hq
    unfold notR
    split
    · next k =>
      have hk := tW_1 k (by decide)
      have hg := tN_gt (c := c) hq (by omega)
      have hp := tP_le (c := c) hq
      have h := ih (tN c L q) (tN_le (c := c) hq).2
      cases hv : notR c L test m (tN c L q) with
      | error e => exact True.intro
      | ok v =>
        obtain ⟨l, q2⟩ := v
        rw [hv] at h
        obtain ⟨a1, a2, a3⟩ := h
        refine ⟨?_, fun n hn rest hr => ?_, fun x hx z1 z2 => ?_⟩
        · rw [List.length_append, List.length_singleton]; omega
        · rw [List.append_assoc, List.singleton_append]
          exact a2 n hn _ (wf_not (by omega) hr)
        · rcases List.mem_append.mp hx with y | y
          · exact a3 x y z1 z2
          · rw [List.mem_singleton.mp y] at z1
            exact absurd z1 (by decide)
    · exact hs q hq
theorem opP_o {c : Nat → Nat} {L q : Nat} {o : Int32} (h : opP c L q = some o) : okO o := by
  rw [(opP_c h).2]
  split <;> exact ⟨by decide, by decide, by decide⟩
theorem opS_o {c : Nat → Nat} {L q : Nat} {o : Int32} (h : opS c L q = some o) : okO o := by
  rw [(opS_c h).2]
  split <;> exact ⟨by decide, by decide, by decide⟩
theorem opA_o {c : Nat → Nat} {L q : Nat} {o : Int32} (h : opA c L q = some o) : okO o := by
  rw [(opA_c h).2]
  exact ⟨by decide, by decide, by decide⟩
theorem opO_o {c : Nat → Nat} {L q : Nat} {o : Int32} (h : opO c L q = some o) : okO o := by
  rw [(opO_c h).2]
  exact ⟨by decide, by decide, by decide⟩
theorem opP_0 {c : Nat → Nat} {L q : Nat} (h : opP c L q ≠ none) : tK c L q ≠ 0 := by
  obtain ⟨o, e⟩ := opsome h
  have := (opP_c e).1
  omega
theorem opS_0 {c : Nat → Nat} {L q : Nat} (h : opS c L q ≠ none) : tK c L q ≠ 0 := by
  obtain ⟨o, e⟩ := opsome h
  have := (opS_c e).1
  omega
theorem opA_0 {c : Nat → Nat} {L q : Nat} (h : opA c L q ≠ none) : tK c L q ≠ 0 := by
  obtain ⟨o, e⟩ := opsome h
  have := tW_1 (opA_c e).1 (by decide)
  omega
theorem opO_0 {c : Nat → Nat} {L q : Nat} (h : opO c L q ≠ none) : tK c L q ≠ 0 := by
  obtain ⟨o, e⟩ := opsome h
  have := tW_1 (opO_c e).1 (by decide)
  omega
theorem rexp_wf {c : Nat → Nat} {L lim : Nat} {vf : Nat → Int32} (hvf : vfOk vf lim) : ∀ b a, a + b = 6 → ∀ q, q ≤ L → okL lim (5 * a) q (rexp c L vf (8 - a) a q) := by
  intro b
  induction b with
  | zero =>
    intro a ha q hq
    have : a = 6 := by omega
    subst this
    rw [show 8 - 6 = 1 + 1 from rfl, rexp6]
    exact True.intro
  | succ b ih =>
    intro a ha q hq
    have hd := ih (a + 1) (by omega)
    rw [show 8 - a = (8 - (a + 1)) + 1 by omega]
    unfold rexp expR
    rw [if_neg (by rintro ⟨z, _⟩; omega)]
    have i0 := rexp_in (c := c) (L := L) (vf := vf) (8 - (a + 1)) (a + 1)
    have i1 := partR_in (c := c) (vf := vf) (a := a) i0
    have i2 : inL L (opsR c L (opP c L) (partR c L vf (rexp c L vf (8 - (a + 1))) a)) := opsR_in i1
    have i3 : inL L (sumR c L vf (rexp c L vf (8 - (a + 1))) a) := opsR_in i2
    have i4 := testR_in (c := c) i3
    have i5 := notR_in (c := c) i4 6
    have i6 : inL L (andR c L vf (rexp c L vf (8 - (a + 1))) a) := opsR_in i5
    have w1 : ∀ q, q ≤ L → okL lim (5 * a + 5) q (partR c L vf (rexp c L vf (8 - (a + 1))) a q) := partR_wf hvf (by omega) hd i0
    have w2 : ∀ q, q ≤ L → okL lim (5 * a + 4) q (opsR c L (opP c L) (partR c L vf (rexp c L vf (8 - (a + 1))) a) q) := opsR_wf (fun q => opP_0) (fun q o => opP_o) w1 i1
    have w3 : ∀ q, q ≤ L → okL lim (5 * a + 3) q (sumR c L vf (rexp c L vf (8 - (a + 1))) a q) := opsR_wf (fun q => opS_0) (fun q o => opS_o) w2 i2
    have w4 : ∀ q, q ≤ L → okL lim (5 * a + 2) q (testR c L (sumR c L vf (rexp c L vf (8 - (a + 1))) a) q) := testR_wf w3 i3
    have w5 : ∀ q, q ≤ L → okL lim (5 * a + 2) q (notR c L (testR c L (sumR c L vf (rexp c L vf (8 - (a + 1))) a)) 6 q) := notR_wf w4 6
    have w6 : ∀ q, q ≤ L → okL lim (5 * a + 1) q (andR c L vf (rexp c L vf (8 - (a + 1))) a q) := opsR_wf (fun q => opA_0) (fun q o => opA_o) w5 i5
    exact opsR_wf (fun q => opO_0) (fun q o => opO_o) w6 i6 q hq
theorem rexp_c {c : Nat → Nat} {L lim : Nat} {vf : Nat → Int32} (hvf : vfOk vf lim) {q : Nat} (hq : q ≤ L) {l : List Int32} {q2 : Nat} (h : rexp c L vf 8 0 q = .ok (l, q2)) : q + l.length ≤ q2 ∧ q2 ≤ L ∧ wfC l 0 ∧ ∀ x ∈ l, -7 < x → x < 0 → ((-1) - x).toNatClampNeg < lim := by
  have w := rexp_wf (c := c) (L := L) hvf 6 0 rfl q hq
  rw [show 8 - 0 = 8 from rfl, h] at w
  refine ⟨w.1, rexp_in 8 0 q l q2 hq h, ?_, w.2.2⟩
  have := w.2.1 0 (Nat.le_refl _) [] rfl
  rwa [List.append_nil] at this
