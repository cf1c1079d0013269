/-! TEXTS: the reference's steps in an expression -/
def z0 : List Int32 → Nat
  | [] => 0
  | x :: s => if x = 0 then z0 s + 1 else z0 s
theorem drp_z {k : Nat} : ∀ (st out : List Int32), z0 (drp k out st).2 = z0 st ∧ ((drp k out st).1.length + (drp k out st).2.length = out.length + st.length) ∧ (vst st → vst (drp k out st).2) := by
  intro st
  induction st with
  | nil => intro out; exact ⟨rfl, rfl, fun h => h⟩
  | cons x s ih =>
    intro out
    unfold drp
    by_cases h : x = 0 ∨ strN x < k
    · rw [if_pos h]; exact ⟨rfl, rfl, fun h => h⟩
    · rw [if_neg h]
      obtain ⟨i1, i2, i3⟩ := ih (out ++ [x])
      refine ⟨?_, ?_, fun hv => i3 fun y hy => hv y (List.mem_cons_of_mem _ hy)⟩
      · rw [i1]
        show _ = if x = 0 then z0 s + 1 else z0 s
        rw [if_neg (fun z => h (Or.inl z))]
      · rw [i2, List.length_append, List.length_singleton, List.length_cons]; omega
theorem drp_0 : ∀ (st out : List Int32), (0 : Int32) ∈ st → ∃ s, (drp 0 out st).2 = 0 :: s := by
  intro st
  induction st with
  | nil => intro out h; exact absurd h List.not_mem_nil
  | cons x s ih =>
    intro out h
    unfold drp
    by_cases h0 : x = 0
    · rw [if_pos (Or.inl h0)]; exact ⟨s, by rw [h0]⟩
    · rw [if_neg (by rintro (z | z); exact h0 z; exact absurd z (Nat.not_lt_zero _))]
      rcases List.mem_cons.mp h with e | e
      · exact absurd e.symm h0
      · exact ih _ e
theorem mX.goes {c : Nat → Nat} {L : Nat} {km : Nat → Nat} {p0 : Nat} {M0 : Mem} {kt ks : Nat} {out st : List Int32} {d : Nat} {te : Nat → Bool} {q : Nat} {M : Mem} (h : mX c L km p0 M0 kt ks out st d te q M) (hk : tK c L q ≠ 0) (h1 : kt ≤ 2) (h2 : ks ≤ 1) : ∃ M', fX13_goes M = some M' ∧ mX c L km p0 M0 0 0 out st d te (tN c L q) M' := by
  obtain ⟨⟨a1, a2, a3⟩, b1', ⟨top, t1, t2, t3⟩, ⟨s1, s2, s3, s4⟩, ⟨d1, d2, d3⟩, e1, f1⟩ := h
  obtain ⟨n1, n2⟩ := tN_gt (c := c) a3 hk
  obtain ⟨p1, p2⟩ := tP_le (c := c) a3
  obtain ⟨n3, n4⟩ := tN_le (c := c) a3
  obtain ⟨M', g1, g2, g3⟩ := goesM a1 n4 a2.1
  have m1 : ∀ j, (j < 26 ∨ 31 < j) → gI M' 103 j = gI M 103 j := fun j hj => g3.1 103 j (fun _ => hj)
  have m2 : ∀ a j, a ≠ 103 → gI M' a j = gI M a j := fun a j ha => g3.1 a j (fun e => absurd e ha)
  refine ⟨M', g1, ⟨a1.fr g3, g2, n4⟩, by rw [m1 _ (by omega)]; exact b1', ⟨top, by rw [m1 _ (by omega)]; exact t1, encP_c _ _ _ t2 (fun i _ _ => m2 130 i (by decide)), by omega⟩, ⟨by rw [m1 _ (by omega)]; exact s1, by omega, stM_c _ s3 (fun i _ => m2 131 i (by decide)), s4⟩, ⟨by rw [m1 _ (by omega)]; exact d1, d2, d3⟩, fun i h1 h2 => by rw [m2 132 i (by decide)]; exact e1 i h1 h2, f1.tr g3.Y⟩
theorem mX.push {c : Nat → Nat} {L : Nat} {km : Nat → Nat} {p0 : Nat} {M0 : Mem} {out st : List Int32} {d : Nat} {te : Nat → Bool} {q : Nat} {M : Mem} {x : Int32} (h : mX c L km p0 M0 0 0 out st d te q M) (hx : x = 0 ∨ (-16 < x ∧ x < -6)) : ∃ M', fX13_waitsFor M (acM x) = some M' ∧ mX c L km p0 M0 1 1 out (x :: st) d te q M' := by
  obtain ⟨⟨a1, a2, a3⟩, b1', ⟨top, t1, t2, t3⟩, ⟨s1, s2, s3, s4⟩, ⟨d1, d2, d3⟩, e1, f1⟩ := h
  have hL := a1.1
  refine ⟨sI (sI M 131 st.length (acM x)) 103 43 (nI (st.length + 1)), waits_ok s1 (by omega), ⟨a1.mv ?_ (fun j => ?_), a2.mv (fun j j1 j2 => ?_) rfl, a3⟩, ?_, ⟨top, ?_, encP_c _ _ _ t2 (fun i _ _ => ?_), by rw [List.length_cons]; omega⟩, ⟨?_, by rw [List.length_cons]; omega, ⟨?_, stM_c _ s3 (fun i hi => ?_)⟩, fun y hy => ?_⟩, ⟨?_, d2, d3⟩, fun i i1 i2 => ?_, (f1.st (Or.inr (Or.inl rfl))).st (Or.inl ⟨rfl, by omega⟩)⟩
  · rw [gI_sj (by decide), gI_sa (by decide)]
  · rw [gI_sa (by decide), gI_sa (by decide)]
  · rw [gI_sj (by omega), gI_sa (by decide)]
  · rw [gI_sj (by decide), gI_sa (by decide)]; exact b1'
  · rw [gI_sj (by decide), gI_sa (by decide)]; exact t1
  · rw [gI_sa (by decide), gI_sa (by decide)]
  · rw [gI_ss, List.length_cons]
  · rw [gI_sa (by decide), gI_ss]
  · rw [gI_sa (by decide), gI_sj (by omega)]
  · rcases List.mem_cons.mp hy with e | e
    · rw [e]; exact hx
    · exact s4 y e
  · rw [gI_sj (by decide), gI_sa (by decide)]; exact d1
  · rw [gI_sa (by decide), gI_sa (by decide)]; exact e1 i i1 i2
theorem mX.le {c : Nat → Nat} {L : Nat} {km : Nat → Nat} {p0 : Nat} {M0 : Mem} {kt ks kt2 ks2 : Nat} {out st : List Int32} {d : Nat} {te : Nat → Bool} {q : Nat} {M : Mem} (h : mX c L km p0 M0 kt ks out st d te q M) (h1 : kt ≤ kt2) (h2 : ks ≤ ks2) : mX c L km p0 M0 kt2 ks2 out st d te q M := by
  obtain ⟨a, b1', ⟨top, t1, t2, t3⟩, ⟨s1, s2, s3, s4⟩, dd, e1, f1⟩ := h
  exact ⟨a, b1', ⟨top, t1, t2, by omega⟩, ⟨s1, by omega, s3, s4⟩, dd, e1, f1⟩
theorem dropM_l {c : Nat → Nat} {L : Nat} {km : Nat → Nat} {p0 : Nat} {M0 : Mem} {kt ks d : Nat} {te : Nat → Bool} {q least : Nat} (hl : least ≤ 6) (hkt : kt ≤ 2) (hks : ks ≤ 2) : ∀ (st : List Int32) (fuel : Nat) (out : List Int32) (M : Mem), mX c L km p0 M0 kt ks out st d te q M → st.length < fuel → ∃ M', fX13_drops_l0 fuel M (nI least) = some M' ∧ mX c L km p0 M0 kt ks (drp least out st).1 (drp least out st).2 d te q M' := by
  intro st
  induction st with
  | nil =>
    intro fuel out M h hf
    obtain ⟨m, rfl⟩ : ∃ m, fuel = m + 1 := ⟨fuel - 1, by omega⟩
    rw [fX13_drops_l0, pu_s, h.2.2.2.1.1, if_neg (by decide)]
    exact ⟨M, rfl, h⟩
  | cons x s ih =>
    intro fuel out M h hf
    obtain ⟨m, rfl⟩ : ∃ m, fuel = m + 1 := ⟨fuel - 1, by omega⟩
    have h' := h
    obtain ⟨⟨a1, a2, a3⟩, b1', ⟨top, t1, t2, t3⟩, ⟨s1, s2, s3, s4⟩, ⟨d1, d2, d3⟩, e1, f1⟩ := h
    rw [List.length_cons] at s1 s2 t3 hf
    have hL := a1.1
    have hx := s4 x List.mem_cons_self
    obtain ⟨o1, o2⟩ := acM_f hx
    rw [fX13_drops_l0, pu_s, s1, if_pos (by rw [show (0 : Int32) = nI 0 from rfl, lt_nI (by omega) (by omega)]; omega), pu_s, nI_m1 (by omega), Nat.add_sub_cancel, ldI_nI (by omega) (by decide), s3.1, o1, b1_s]
    unfold drp
    by_cases hx0 : x = 0
    · rw [if_pos hx0, if_neg (by decide), if_pos (Or.inl hx0)]
      exact ⟨M, rfl, h'⟩
    · obtain ⟨o3, o4, o5⟩ := o2 hx0
      rw [if_neg hx0, if_pos (show (0 : Int32) = 0 from rfl), pu_s, nI_m1 (by omega), Nat.add_sub_cancel, ldI_nI (by omega) (by decide), s3.1, o3, b1_s]
      by_cases hst : strN x < least
      · rw [if_pos (by rw [lt_nI (by omega) (by omega)]; exact hst), if_pos (Or.inr hst)]
        exact ⟨M, rfl, h'⟩
      · have hpe := encP_le _ _ _ t2
        rw [if_neg (by rw [lt_nI (by omega) (by omega)]; exact hst), if_neg (by rintro (z | z); exact hx0 z; exact hst z), pu_s, pu_s, pu_s, gI_ss, nI_m1 (by omega), Nat.add_sub_cancel, ldI_nI (by omega) (by decide), gI_sa (by decide), s3.1, puts_ok (top := top) (by rw [gI_sj (by decide)]; exact t1) (by omega), b1_s]
        refine ih m (out ++ [x]) _ ⟨⟨a1.mv ?_ (fun j => ?_), a2.mv (fun j j1 j2 => ?_) rfl, a3⟩, ?_, ⟨top + 1, gI_ss, ?_, by omega⟩, ⟨?_, by omega, stM_c _ s3.2 (fun i hi => ?_), fun y hy => s4 y (List.mem_cons_of_mem _ hy)⟩, ⟨?_, d2, d3⟩, fun i i1 i2 => ?_, ((f1.st (Or.inl ⟨rfl, by omega⟩)).st (Or.inr (Or.inr (Or.inr ⟨rfl, hpe⟩)))).st (Or.inl ⟨rfl, by omega⟩)⟩ (by omega)
        · rw [gI_sj (by decide), gI_sa (by decide), gI_sj (by decide)]
        · rw [gI_sa (by decide), gI_sa (by decide), gI_sa (by decide)]
        · rw [gI_sj (by omega), gI_sa (by decide), gI_sj (by omega)]
        · rw [gI_sj (by decide), gI_sa (by decide), gI_sj (by decide)]; exact b1'
        · refine encP_op (hx.resolve_left hx0).2 _ _ _ (encP_c _ _ _ t2 fun i i1 i2 => ?_) ?_
          · rw [gI_sa (by decide), gI_sj (by omega), gI_sa (by decide)]
          · rw [gI_sa (by decide), gI_ss, o5]
        · rw [gI_sj (by decide), gI_sa (by decide), gI_ss]
        · rw [gI_sa (by decide), gI_sa (by decide), gI_sa (by decide)]
        · rw [gI_sj (by decide), gI_sa (by decide), gI_sj (by decide)]; exact d1
        · rw [gI_sa (by decide), gI_sa (by decide), gI_sa (by decide)]; exact e1 i i1 i2
theorem dropM {c : Nat → Nat} {L : Nat} {km : Nat → Nat} {p0 : Nat} {M0 : Mem} {d : Nat} {te : Nat → Bool} {q least : Nat} (hl : least ≤ 6) {st out : List Int32} {M : Mem} (h : mX c L km p0 M0 0 0 out st d te q M) : ∃ M', fX13_drops M (nI least) = some M' ∧ mX c L km p0 M0 0 0 (drp least out st).1 (drp least out st).2 d te q M' := by
  have h1 := h.2.2.2.1.2.1
  have h2 := h.1.1.1
  have h3 := h.1.2.2
  exact dropM_l hl (by decide) (by decide) st FU out M h (by show _ < 100000; omega)
theorem mX.te {c : Nat → Nat} {L : Nat} {km : Nat → Nat} {p0 : Nat} {M0 : Mem} {kt ks : Nat} {out st : List Int32} {d : Nat} {te : Nat → Bool} {q : Nat} {M : Mem} (h : mX c L km p0 M0 kt ks out st d te q M) (b : Bool) : mX c L km p0 M0 kt ks out st d (bset te d b) q (sI M 132 d (bN b)) := by
  obtain ⟨⟨a1, a2, a3⟩, b1', ⟨top, t1, t2, t3⟩, ⟨s1, s2, s3, s4⟩, ⟨d1, d2, d3⟩, e1, f1⟩ := h
  refine ⟨⟨a1.mv ?_ (fun j => ?_), a2.mv (fun j j1 j2 => ?_) rfl, a3⟩, ?_, ⟨top, ?_, encP_c _ _ _ t2 (fun i _ _ => ?_), t3⟩, ⟨?_, s2, stM_c _ s3 (fun i hi => ?_), s4⟩, ⟨?_, d2, d3⟩, fun i i1 i2 => ?_, f1.st (Or.inr (Or.inr (Or.inl rfl)))⟩
  · rw [gI_sa (by decide)]
  · rw [gI_sa (by decide)]
  · rw [gI_sa (by decide)]
  · rw [gI_sa (by decide)]; exact b1'
  · rw [gI_sa (by decide)]; exact t1
  · rw [gI_sa (by decide)]
  · rw [gI_sa (by decide)]; exact s1
  · rw [gI_sa (by decide)]
  · rw [gI_sa (by decide)]; exact d1
  · unfold bset
    by_cases e : i = d
    · rw [e, gI_ss, if_pos rfl]
    · rw [gI_sj e, if_neg e]; exact e1 i i1 i2
/-- a parenthesis: one deeper -/
theorem mX.deep {c : Nat → Nat} {L : Nat} {km : Nat → Nat} {p0 : Nat} {M0 : Mem} {out st : List Int32} {d : Nat} {te : Nat → Bool} {q : Nat} {M : Mem} (h : mX c L km p0 M0 0 0 out st d te q M) (hd : d < 6) : ∃ M', fX13_deeper M = some M' ∧ mX c L km p0 M0 0 0 out st (d + 1) (bset te (d + 1) false) q M' := by
  obtain ⟨⟨a1, a2, a3⟩, b1', ⟨top, t1, t2, t3⟩, ⟨s1, s2, s3, s4⟩, ⟨d1, d2, d3⟩, e1, f1⟩ := h
  refine ⟨sI (sI M 103 44 (nI (d + 1))) 132 (d + 1) 0, ?_, ⟨a1.mv ?_ (fun j => ?_), a2.mv (fun j j1 j2 => ?_) rfl, a3⟩, ?_, ⟨top, ?_, encP_c _ _ _ t2 (fun i _ _ => ?_), t3⟩, ⟨?_, s2, stM_c _ s3 (fun i hi => ?_), s4⟩, ⟨?_, by omega, by omega⟩, fun i i1 i2 => ?_, (f1.st (Or.inl ⟨rfl, by omega⟩)).st (Or.inr (Or.inr (Or.inl rfl)))⟩
  · unfold fX13_deeper
    rw [pu_s, d1, show (6 : Int32) = nI 6 from rfl, if_pos (by rw [lt_nI (by omega) (by omega)]; exact hd), pu_s, pu_s, nI_1, pu_s, gI_ss, stI_nI (by omega) (by decide)]
    rfl
  · rw [gI_sa (by decide), gI_sj (by decide)]
  · rw [gI_sa (by decide), gI_sa (by decide)]
  · rw [gI_sa (by decide), gI_sj (by omega)]
  · rw [gI_sa (by decide), gI_sj (by decide)]; exact b1'
  · rw [gI_sa (by decide), gI_sj (by decide)]; exact t1
  · rw [gI_sa (by decide), gI_sa (by decide)]
  · rw [gI_sa (by decide), gI_sj (by decide)]; exact s1
  · rw [gI_sa (by decide), gI_sa (by decide)]
  · rw [gI_sa (by decide), gI_ss]
  · unfold bset
    by_cases e : i = d + 1
    · rw [e, gI_ss, if_pos rfl]; rfl
    · rw [gI_sj e, gI_sa (by decide), if_neg e]; exact e1 i i1 (by omega)
theorem mX.wr {c : Nat → Nat} {L : Nat} {km : Nat → Nat} {p0 : Nat} {M0 : Mem} {kt ks : Nat} {out st : List Int32} {d : Nat} {te : Nat → Bool} {q : Nat} {M : Mem} (h : mX c L km p0 M0 kt ks out st d te q M) (h1 : kt ≤ 2) (h2 : ks ≤ 2) {e : Nat} (he : 1 ≤ e) (he2 : e < 10) : ∃ M', fX13_wrong M (nI e) = some M' ∧ fY p0 M0 (e, tP c L q) M' := by
  obtain ⟨⟨a1, a2, a3⟩, b1', ⟨top, t1, t2, t3⟩, ⟨s1, s2, s3, s4⟩, ⟨d1, d2, d3⟩, e1, f1⟩ := h
  have hpe := encP_le _ _ _ t2
  have hL := a1.1
  refine ⟨_, wrong_ok b1' a2.2.2.1, ⟨?_, gI_ss, he, he2⟩, ⟨top, st.length, ?_, ?_, hpe, by omega, by omega⟩, f1.wr he he2⟩
  · rw [gI_sj (by decide), gI_ss]
  · rw [gI_sj (by decide), gI_sj (by decide)]; exact t1
  · rw [gI_sj (by decide), gI_sj (by decide)]; exact s1
theorem mX.deepF {c : Nat → Nat} {L : Nat} {km : Nat → Nat} {p0 : Nat} {M0 : Mem} {out st : List Int32} {d : Nat} {te : Nat → Bool} {q : Nat} {M : Mem} (h : mX c L km p0 M0 0 0 out st d te q M) (hd : ¬ d < 6) : ∃ M', fX13_deeper M = some M' ∧ fY p0 M0 (if begB c L q = true then 2 else 1, tP c L q) M' := by
  have hb61 : ∀ e : Nat, 1 ≤ e → e < 10 → ∃ M', fX13_deeper_b61 M (nI e) = some M' ∧ fY p0 M0 (e, tP c L q) M' := by
    intro e he he2
    obtain ⟨M', w1, w2⟩ := h.wr (by decide) (by decide) he he2
    refine ⟨M', ?_, w2⟩
    unfold fX13_deeper_b61
    rw [w1, b1_s]
  obtain ⟨⟨a1, a2, a3⟩, b1', -, -, ⟨d1, d2, d3⟩, -⟩ := h
  obtain ⟨z1, z2, z3⟩ := sort2 a2
  have key : fX13_deeper M = fX13_deeper_b61 M (nI (if begB c L q = true then 2 else 1)) := by
    unfold fX13_deeper fX13_deeper_b56
    rw [pu_s, d1, show (6 : Int32) = nI 6 from rfl, if_neg (by rw [lt_nI (by omega) (by omega)]; exact hd), pu_s]
    by_cases k2 : tK c L q = 2
    · have hb : begB c L q = true := decide_eq_true (Or.inl k2)
      rw [if_pos (z1.mpr k2), if_pos hb]
      rfl
    · rw [if_neg (fun y => k2 (z1.mp y)), pu_s]
      by_cases k1 : tK c L q = 1
      · have hb : begB c L q = true := decide_eq_true (Or.inr (Or.inl k1))
        rw [if_pos (z2.mpr k1), if_pos hb]
        rfl
      · rw [if_neg (fun y => k1 (z2.mp y)), show (40 : Int32) = nI 40 from rfl, isSign_ok a2 (by decide), b1_s]
        by_cases k40 : tK c L q = 40
        · have hb : begB c L q = true := decide_eq_true (Or.inr (Or.inr k40))
          rw [if_pos k40, if_neg (by decide), if_pos hb]
          rfl
        · have hb : ¬ begB c L q = true := fun y => by
            have y2 := of_decide_eq_true y
            omega
          rw [if_neg k40, if_pos rfl, if_neg hb]
          rfl
  rw [key]
  by_cases hb : begB c L q = true
  · rw [if_pos hb]; exact hb61 2 (by decide) (by decide)
  · rw [if_neg hb]; exact hb61 1 (by decide) (by decide)
/-- how a rule's words are known -/
def kvOk (vf : Nat → Int32) (km : Nat → Nat) (lo hi : Nat) : Prop := ∀ w, w ≤ 22 → (vf w = -1 → kwI w < nI lo ∨ nI hi < kwI w) ∧ (vf w ≠ -1 → ¬ kwI w < nI lo ∧ ¬ nI hi < kwI w ∧ ((-1 : Int32) - vf w < 0) ∧ ¬ ((-1 : Int32) - vf w < -6) ∧ kwI w = nI (km ((-1) - ((-1 : Int32) - vf w)).toNatClampNeg))
def ptR (c : Nat → Nat) (L : Nat) (vf : Nat → Int32) (q : Nat) : Except (Nat × Nat) Int32 := if tK c L q = 2 then (if tV c L q = 10000 then .error (2, tP c L q) else .ok (nI (tV c L q))) else if tK c L q = 1 then (if vf (tW c L q) = -1 then .error (3, tP c L q) else .ok ((-1) - vf (tW c L q))) else .error (1, tP c L q)
theorem mX.put2 {c : Nat → Nat} {L : Nat} {km : Nat → Nat} {p0 : Nat} {M0 : Mem} {out st : List Int32} {d : Nat} {te : Nat → Bool} {q : Nat} {M : Mem} {x v1 v2 : Int32} (h : mX c L km p0 M0 0 0 out st d te q M) (hq : q < L) (hx : ¬ x < -6) (hv : if x < 0 then v1 = 2 ∧ v2 = nI (km ((-1) - x).toNatClampNeg) else v1 = 1 ∧ v2 = x) : ∃ M1 M2, fX13_puts M v1 = some M1 ∧ gI M1 103 30 = gI M 103 30 ∧ fX13_puts M1 v2 = some M2 ∧ mX c L km p0 M0 2 0 (out ++ [x]) st d te q M2 := by
  obtain ⟨⟨a1, a2, a3⟩, b1', ⟨top, t1, t2, t3⟩, ⟨s1, s2, s3, s4⟩, ⟨d1, d2, d3⟩, e1, f1⟩ := h
  have hpe := encP_le _ _ _ t2
  have hL := a1.1
  refine ⟨_, _, puts_ok t1 (by omega), ?_, puts_ok (top := top + 1) gI_ss (by omega), ⟨a1.mv ?_ (fun j => ?_), a2.mv (fun j j1 j2 => ?_) rfl, a3⟩, ?_, ⟨top + 2, gI_ss, ?_, by omega⟩, ⟨?_, by omega, stM_c _ s3 (fun i hi => ?_), s4⟩, ⟨?_, d2, d3⟩, fun i i1 i2 => ?_, ((((f1.st (Or.inr (Or.inr (Or.inr ⟨rfl, hpe⟩)))).st (Or.inl ⟨rfl, by omega⟩)).st (Or.inr (Or.inr (Or.inr ⟨rfl, by omega⟩)))).st (Or.inl ⟨rfl, by omega⟩))⟩
  · rw [gI_sj (by decide), gI_sa (by decide)]
  · rw [gI_sj (by decide), gI_sa (by decide), gI_sj (by decide), gI_sa (by decide)]
  · rw [gI_sa (by decide), gI_sa (by decide), gI_sa (by decide), gI_sa (by decide)]
  · rw [gI_sj (by omega), gI_sa (by decide), gI_sj (by omega), gI_sa (by decide)]
  · rw [gI_sj (by decide), gI_sa (by decide), gI_sj (by decide), gI_sa (by decide)]; exact b1'
  · refine encP_v hx _ _ _ (encP_c _ _ _ t2 fun i i1 i2 => ?_) ?_
    · rw [gI_sa (by decide), gI_sj (by omega), gI_sa (by decide), gI_sj (by omega)]
    · rw [gI_sa (by decide), gI_sj (by omega), gI_sa (by decide), gI_ss, gI_sa (by decide), gI_ss]
      exact hv
  · rw [gI_sj (by decide), gI_sa (by decide), gI_sj (by decide), gI_sa (by decide)]; exact s1
  · rw [gI_sa (by decide), gI_sa (by decide), gI_sa (by decide), gI_sa (by decide)]
  · rw [gI_sj (by decide), gI_sa (by decide), gI_sj (by decide), gI_sa (by decide)]; exact d1
  · rw [gI_sa (by decide), gI_sa (by decide), gI_sa (by decide), gI_sa (by decide)]; exact e1 i i1 i2
/-- what is still put behind a fault -/
theorem fY.put2 {p0 : Nat} {M0 : Mem} {e : Nat × Nat} {M : Mem} {v1 : Int32} {top w : Nat} (h : fY p0 M0 e M) (h40 : gI M 103 40 = nI top) (h43 : gI M 103 43 = nI w) (hp : p0 ≤ top) (ht : top + w ≤ 1396) (hw : w ≤ 940) (v2 : Int32) : ∃ M1 M2, fX13_puts M v1 = some M1 ∧ gI M1 103 30 = gI M 103 30 ∧ fX13_puts M1 v2 = some M2 ∧ fY p0 M0 e M2 := by
  obtain ⟨⟨g1, g2, g3, g4⟩, -, f1⟩ := h
  refine ⟨_, _, puts_ok h40 (by omega), ?_, puts_ok (top := top + 1) gI_ss (by omega), ⟨?_, ?_, g3, g4⟩, ⟨top + 2, w, gI_ss, ?_, by omega, by omega, hw⟩, ((((f1.st (Or.inr (Or.inr (Or.inr ⟨rfl, hp⟩)))).st (Or.inl ⟨rfl, by omega⟩)).st (Or.inr (Or.inr (Or.inr ⟨rfl, by omega⟩)))).st (Or.inl ⟨rfl, by omega⟩))⟩
  · rw [gI_sj (by decide), gI_sa (by decide)]
  · rw [gI_sj (by decide), gI_sa (by decide), gI_sj (by decide), gI_sa (by decide)]; exact g1
  · rw [gI_sj (by decide), gI_sa (by decide), gI_sj (by decide), gI_sa (by decide)]; exact g2
  · rw [gI_sj (by decide), gI_sa (by decide), gI_sj (by decide), gI_sa (by decide)]; exact h43
theorem fY.b97 {p0 : Nat} {M0 : Mem} {e : Nat × Nat} {M : Mem} (h : fY p0 M0 e M) : fX13_part_b97 M = some M := by
  unfold fX13_part_b97
  rw [good_0 h.1.1 h.1.2.2.1 h.1.2.2.2, b1_s, if_pos rfl]
theorem mX.b97 {c : Nat → Nat} {L : Nat} {km : Nat → Nat} {p0 : Nat} {M0 : Mem} {out st : List Int32} {d : Nat} {te : Nat → Bool} {q : Nat} {M : Mem} (h : mX c L km p0 M0 2 0 out st d te q M) (hk : tK c L q ≠ 0) : ∃ M', fX13_part_b97 M = some M' ∧ mX c L km p0 M0 0 0 out st d te (tN c L q) M' := by
  obtain ⟨M', g1, g2⟩ := h.goes hk (Nat.le_refl _) (by decide)
  refine ⟨M', ?_, g2⟩
  unfold fX13_part_b97
  rw [good_1 h.2.1, b1_s, if_neg (by decide), g1, b1_s]
theorem partM {c : Nat → Nat} {L : Nat} {vf : Nat → Int32} {km : Nat → Nat} {p0 lo hi : Nat} {M0 : Mem} {out st : List Int32} {d : Nat} {te : Nat → Bool} {q : Nat} {M : Mem} (hk : kvOk vf km lo hi) (hlo : gI M0 103 41 = nI lo) (hhi : gI M0 103 42 = nI hi) (h : mX c L km p0 M0 0 0 out st d te q M) : match ptR c L vf q with
    | .error e => ∃ M', fX13_part M = some M' ∧ fY p0 M0 e M'
    | .ok x => ∃ M', fX13_part M = some M' ∧ mX c L km p0 M0 0 0 (out ++ [x]) st d te (tN c L q) M' := by
  have h' := h
  obtain ⟨⟨a1, a2, a3⟩, b1', ⟨top, t1, t2, t3⟩, ⟨s1, s2, s3, s4⟩, ⟨d1, d2, d3⟩, e1, f1⟩ := h
  have hpe := encP_le _ _ _ t2
  have hL := a1.1
  have hpl := tP_le (c := c) a3
  obtain ⟨z1, z2, z3⟩ := sort2 a2
  have glo : gI M 103 41 = nI lo := (f1.1 103 41 (fun _ => by omega) (by decide) (by decide) (fun z => absurd z (by decide))).trans hlo
  have ghi : gI M 103 42 = nI hi := (f1.1 103 42 (fun _ => by omega) (by decide) (by decide) (fun z => absurd z (by decide))).trans hhi
  have wr : ∀ e : Nat, 1 ≤ e → e < 10 → fX13_wrong M (nI e) = some (sI (sI M 103 22 (nI e)) 103 23 (nI (tP c L q))) ∧ fY p0 M0 (e, tP c L q) (sI (sI M 103 22 (nI e)) 103 23 (nI (tP c L q))) := by
    intro e he he2
    obtain ⟨M', w1, w2⟩ := h'.wr (by decide) (by decide) he he2
    have := wrong_ok (e := e) b1' a2.2.2.1
    rw [this] at w1
    exact ⟨this, by rw [Option.some.inj w1]; exact w2⟩
  unfold ptR
  by_cases k2 : tK c L q = 2
  · rw [if_pos k2]
    have hg := tN_gt (c := c) a3 (by omega)
    have hv := tV_le (c := c) (L := L) a3
    have e29 : gI M 103 29 = nI (tN c L q - tP c L q) := a2.2.2.2.1
    have n4 := tN_le (c := c) a3
    by_cases v : tV c L q = 10000
    · have hlong := (hv.2.mp v).2
      rw [if_pos v]
      obtain ⟨w1, w2⟩ := wr 2 (by decide) (by decide)
      obtain ⟨M1, M2, p1, p2, p3, p4⟩ := fY.put2 (v1 := 1) w2 (top := top) (w := st.length) (by rw [gI_sj (by decide), gI_sj (by decide)]; exact t1) (by rw [gI_sj (by decide), gI_sj (by decide)]; exact s1) hpe (by omega) (by omega) (gI (sI (sI M 103 22 (nI 2)) 103 23 (nI (tP c L q))) 103 30)
      refine ⟨M2, ?_, p4⟩
      unfold fX13_part fX13_part_b29
      rw [good_1 b1', b1_s, if_neg (by decide), pu_s, if_pos (z1.mpr k2), pu_s, e29, show (4 : Int32) = nI 4 from rfl, if_pos (by rw [lt_nI (by omega) (by omega)]; exact hlong), show fX13_wrong M 2 = _ from w1, b1_s, p1, b1_s, pu_s, p2, p3, b1_s, p4.b97]
    · have hlong : ¬ 4 < tN c L q - tP c L q := fun z => v (hv.2.mpr ⟨k2, z⟩)
      rw [if_neg v]
      have e30 : gI M 103 30 = nI (tV c L q) := by
        rw [a2.2.2.2.2.1, if_pos k2]
        unfold tV
        rw [if_pos k2, if_neg hlong, Nat.min_eq_right (by omega)]
      have hv1 := hv.1
      obtain ⟨M1, M2, p1, p2, p3, p4⟩ := h'.put2 (x := nI (tV c L q)) (v1 := 1) (v2 := nI (tV c L q)) (by omega) (fun z => nI_pos (n := tV c L q) (by omega) (Int32.lt_trans z (by decide))) (by rw [if_neg (nI_pos (by omega))]; exact ⟨rfl, rfl⟩)
      obtain ⟨M3, g1, g2⟩ := p4.b97 (by omega)
      refine ⟨M3, ?_, g2⟩
      unfold fX13_part fX13_part_b29
      rw [good_1 b1', b1_s, if_neg (by decide), pu_s, if_pos (z1.mpr k2), pu_s, e29, show (4 : Int32) = nI 4 from rfl, if_neg (by rw [lt_nI (by omega) (by omega)]; exact hlong), p1, b1_s, pu_s, p2, e30, p3, b1_s, g1]
  · rw [if_neg k2]
    by_cases k1 : tK c L q = 1
    · rw [if_pos k1]
      have hg := tN_gt (c := c) a3 (by omega)
      have hwle := tW_le (c := c) (L := L) (q := q)
      obtain ⟨v1', v2'⟩ := hk (tW c L q) hwle
      have hkn := known_ok hL a3 a2
      by_cases v : vf (tW c L q) = -1
      · rw [if_pos v]
        obtain ⟨w1, w2⟩ := wr 3 (by decide) (by decide)
        obtain ⟨M1, M2, p1, p2, p3, p4⟩ := fY.put2 (v1 := 2) w2 (top := top) (w := st.length) (by rw [gI_sj (by decide), gI_sj (by decide)]; exact t1) (by rw [gI_sj (by decide), gI_sj (by decide)]; exact s1) hpe (by omega) (by omega) (kwI (tW c L q))
        refine ⟨M2, ?_, p4⟩
        have b74 : fX13_part_b74 M (kwI (tW c L q)) = some M2 := by
          unfold fX13_part_b74 fX13_part_b79
          rw [show fX13_wrong M 3 = _ from w1, b1_s, p1, b1_s, p3, b1_s, p4.b97]
        unfold fX13_part
        rw [good_1 b1', b1_s, if_neg (by decide), pu_s, if_neg (fun y => k2 (z1.mp y)), pu_s, if_pos (z2.mpr k1), hkn, b1_s, pu_s, glo]
        by_cases y1 : kwI (tW c L q) < nI lo
        · rw [if_pos y1]; exact b74
        · rw [if_neg y1, pu_s, ghi, if_pos ((v1' v).resolve_left y1)]
          exact b74
      · rw [if_neg v]
        obtain ⟨y1, y2, y3, y4, y5⟩ := v2' v
        obtain ⟨M1, M2, p1, p2, p3, p4⟩ := h'.put2 (x := (-1) - vf (tW c L q)) (v1 := 2) (v2 := kwI (tW c L q)) (by omega) y4 (by rw [if_pos y3]; exact ⟨rfl, y5⟩)
        obtain ⟨M3, g1, g2⟩ := p4.b97 (by omega)
        refine ⟨M3, ?_, g2⟩
        unfold fX13_part fX13_part_b79
        rw [good_1 b1', b1_s, if_neg (by decide), pu_s, if_neg (fun y => k2 (z1.mp y)), pu_s, if_pos (z2.mpr k1), hkn, b1_s, pu_s, glo, if_neg y1, pu_s, ghi, if_neg y2, p1, b1_s, p3, b1_s, g1]
    · rw [if_neg k1]
      obtain ⟨w1, w2⟩ := wr 1 (by decide) (by decide)
      refine ⟨_, ?_, w2⟩
      unfold fX13_part
      rw [good_1 b1', b1_s, if_neg (by decide), pu_s, if_neg (fun y => k2 (z1.mp y)), pu_s, if_neg (fun y => k1 (z2.mp y)), show fX13_wrong M 1 = _ from w1, b1_s, w2.b97]
