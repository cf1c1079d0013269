/-! TEXTS: the reference reads an expression -/
theorem kw_iff : ∀ w, w ≤ 22 → (kwI w = 21 ↔ w = 13) ∧ (kwI w = 19 ↔ w = 12) ∧ (kwI w = 20 ↔ w = 11) := by
  intro w hw
  exact (by decide : ∀ w, w < 23 → (kwI w = 21 ↔ w = 13) ∧ (kwI w = 19 ↔ w = 12) ∧ (kwI w = 20 ↔ w = 11)) w (by omega)
/-- behind an operand: a fault, or on -/
def opE (c : Nat → Nat) (L : Nat) (vf : Nat → Int32) (km : Nat → Nat) (p0 : Nat) (M0 : Mem) (q : Nat) (res : Except (Nat × Nat) YS) (M' : Mem) : Prop := (∃ e, res = .error e ∧ fY p0 M0 e M') ∨ (∃ n' out' st' d' te' q', q < q' ∧ q' ≤ L ∧ z0 st' + 1 = d' ∧ yrd c L vf n' (none, (out', st', d', te', q')) = some res ∧ mX c L km p0 M0 0 0 out' st' d' te' q' M')
theorem fY.part {p0 : Nat} {M0 : Mem} {e : Nat × Nat} {M : Mem} (h : fY p0 M0 e M) : fX13_operand_b120 M = some M := by
  unfold fX13_operand_b120 fX13_part
  rw [good_0 h.1.1 h.1.2.2.1 h.1.2.2.2, b1_s, if_pos rfl, b1_s]
theorem fY.l4 {p0 : Nat} {M0 : Mem} {e : Nat × Nat} {M : Mem} (h : fY p0 M0 e M) (f : Nat) (x2 x3 : Int32) : fX13_operand_l4 (f + 1) M x2 x3 = some M := by
  rw [fX13_operand_l4]
  by_cases q : x3 = 0
  · rw [if_pos q]; exact h.part
  · rw [if_neg q, good_0 h.1.1 h.1.2.2.1 h.1.2.2.2, b1_s, if_pos rfl]; exact h.part
theorem fY.l18 {p0 : Nat} {M0 : Mem} {e : Nat × Nat} {M : Mem} (h : fY p0 M0 e M) (f1 f2 : Nat) (x2 x4 : Int32) : fX13_operand_l18 (fX13_operand_l4 (f1 + 1)) (f2 + 1) M x2 x4 = some M := by
  have hg := good_0 h.1.1 h.1.2.2.1 h.1.2.2.2
  rw [fX13_operand_l18, hg, b1_s, if_pos rfl]
  unfold fX13_operand_b75 fX13_operand_b95 fX13_operand_b96 fX13_operand_b117
  rw [hg, b1_s, if_pos rfl, if_pos rfl]
  exact h.l4 f1 x2 0
theorem opd {c : Nat → Nat} {L : Nat} {vf : Nat → Int32} {km : Nat → Nat} {p0 lo hi : Nat} {M0 : Mem} (hk : kvOk vf km lo hi) (hlo : gI M0 103 41 = nI lo) (hhi : gI M0 103 42 = nI hi) : ∀ (N n : Nat) (nt : Bool) (m : Nat) (out st : List Int32) (d : Nat) (te : Nat → Bool) (q : Nat) (M : Mem) (res : Except (Nat × Nat) YS) (f1 f2 : Nat), L - q < N → N ≤ 1000 → z0 st + 1 = d → m ≤ 6 → yrd c L vf n (some (nt, m), (out, st, d, te, q)) = some res → mX c L km p0 M0 0 0 out st d te q M → N < f1 → N < f2 → ∃ M', fX13_operand_l18 (fX13_operand_l4 f1) f2 M (bN nt) (nI (if nt = true then 6 - m else 0)) = some M' ∧ opE c L vf km p0 M0 q res M' := by
  intro N
  induction N with
  | zero => intro n nt m out st d te q M res f1 f2 h; exact absurd h (Nat.not_lt_zero _)
  | succ N ih =>
    intro n nt m out st d te q M res f1 f2 hN hN1 hz hm hy h hf1 hf2
    obtain ⟨g1, rfl⟩ : ∃ g1, f1 = g1 + 1 := ⟨f1 - 1, by omega⟩
    obtain ⟨g2, rfl⟩ : ∃ g2, f2 = g2 + 1 := ⟨f2 - 1, by omega⟩
    have hg : fX13_isGood M = some 1 := good_1 h.2.1
    have hL := h.1.1.1
    have hq := h.1.2.2
    have hwle := tW_le (c := c) (L := L) (q := q)
    have hkn := known_ok hL hq h.1.2.1
    have hkw := kw_iff (tW c L q) hwle
    have n4 := tN_le (c := c) hq
    have hP := tP_le (c := c) hq
    have gt : tK c L q ≠ 0 → q < L ∧ q < tN c L q := fun z => by
      have := tN_gt (c := c) hq z
      omega
    cases n with
    | zero => cases hy
    | succ n =>
      rw [yrd] at hy
      by_cases h13 : nt = true ∧ tW c L q = 13
      · obtain ⟨hnt, hW⟩ := h13
        subst hnt
        have k1 := tW_1 hW (by decide)
        obtain ⟨gt1, gt2⟩ := gt (by omega)
        rw [if_pos ⟨rfl, hW⟩] at hy
        rw [if_pos rfl, fX13_operand_l18, hg, b1_s, if_neg (by decide), if_neg (show ¬ bN true = 0 by decide), hkn, b1_s, if_pos (hkw.1.mpr hW)]
        by_cases hm0 : m = 0
        · rw [if_pos hm0] at hy
          obtain ⟨M1, w1, w2⟩ := h.wr (by decide) (by decide) (e := 2) (by decide) (by decide)
          refine ⟨M1, ?_, Or.inl ⟨_, (Option.some.inj hy).symm, w2⟩⟩
          rw [if_pos (by rw [hm0]; rfl), show fX13_wrong M 2 = _ from w1, b1_s]
          unfold fX13_operand_b50
          rw [pu_s, good_0 w2.1.1 w2.1.2.2.1 w2.1.2.2.2, b1_s, if_pos rfl]
          obtain ⟨g3, rfl⟩ : ∃ g3, g2 = g3 + 1 := ⟨g2 - 1, by omega⟩
          exact w2.l18 g1 g3 _ _
        · rw [if_neg hm0] at hy
          obtain ⟨M1, w1, w2⟩ := h.push (x := -7) (Or.inr (by decide))
          obtain ⟨M2, u1, u2⟩ := w2.goes (by omega) (by decide) (by decide)
          obtain ⟨M', p1, p2⟩ := ih n true (m - 1) out (-7 :: st) d te (tN c L q) M2 res (g1 + 1) g2 (by omega) (by omega) hz (by omega) hy u2 (by omega) (by omega)
          refine ⟨M', ?_, ?_⟩
          · rw [if_neg (by rw [show (6 : Int32) = nI 6 from rfl, eq_nI (by omega) (by omega)]; omega)]
            unfold fX13_operand_b50
            rw [pu_s, hg, b1_s, if_neg (by decide), show fX13_waitsFor M 3 = _ from w1, b1_s, u1, b1_s, nI_1]
            rw [if_pos rfl, show 6 - (m - 1) = 6 - m + 1 by omega] at p1
            exact p1
          · rcases p2 with z | ⟨n', out', st', d', te', q', z1, z2⟩
            · exact Or.inl z
            · exact Or.inr ⟨n', out', st', d', te', q', by omega, z2⟩
      · rw [if_neg h13] at hy
        -- to the parenthesis or the part
        have b75 : fX13_operand_l18 (fX13_operand_l4 (g1 + 1)) (g2 + 1) M (bN nt) (nI (if nt = true then 6 - m else 0)) = fX13_operand_b75 (fX13_operand_l4 (g1 + 1)) M (bN nt) := by
          rw [fX13_operand_l18, hg, b1_s, if_neg (by decide)]
          cases nt with
          | false => rw [if_pos (show bN false = 0 from rfl)]
          | true => rw [if_neg (show ¬ bN true = 0 by decide), hkn, b1_s, if_neg (fun z => h13 ⟨rfl, hkw.1.mp z⟩)]
        rw [b75]
        unfold fX13_operand_b75
        rw [hg, b1_s, if_neg (by decide), show (40 : Int32) = nI 40 from rfl, isSign_ok h.1.2.1 (by decide), b1_s]
        by_cases k40 : tK c L q = 40
        · obtain ⟨gt1, gt2⟩ := gt (by omega)
          rw [if_pos k40] at hy
          rw [if_pos k40, if_neg (by decide)]
          obtain ⟨M1, w1, w2⟩ := h.push (x := 0) (Or.inl rfl)
          obtain ⟨M2, u1, u2⟩ := w2.goes (by omega) (by decide) (by decide)
          unfold fX13_operand_b96 fX13_operand_b117
          rw [if_neg (by decide), show fX13_waitsFor M 14 = _ from w1, b1_s, u1, b1_s]
          by_cases hd : d < 6
          · rw [if_pos hd] at hy
            obtain ⟨M3, v1, v2⟩ := u2.deep hd
            obtain ⟨M', p1, p2⟩ := ih n true 6 out (0 :: st) (d + 1) (bset te (d + 1) false) (tN c L q) M3 res g1 FU (by omega) (by omega) (by show (if (0 : Int32) = 0 then z0 st + 1 else z0 st) + 1 = d + 1; rw [if_pos rfl, hz]) (by omega) hy v2 (by omega) (by show _ < 100000; omega)
            refine ⟨M', ?_, ?_⟩
            · rw [v1, b1_s, fX13_operand_l4, if_neg (by decide), good_1 v2.2.1, b1_s, if_neg (by decide)]
              exact p1
            · rcases p2 with z | ⟨n', out', st', d', te', q', z1, z2⟩
              · exact Or.inl z
              · exact Or.inr ⟨n', out', st', d', te', q', by omega, z2⟩
          · rw [if_neg hd] at hy
            obtain ⟨M3, v1, v2⟩ := u2.deepF hd
            refine ⟨M3, ?_, Or.inl ⟨_, (Option.some.inj hy).symm, v2⟩⟩
            rw [v1, b1_s]
            exact v2.l4 g1 _ _
        · rw [if_neg k40] at hy
          rw [if_neg k40, if_pos rfl]
          have hp := partM hk hlo hhi h
          have fin : ∀ M', fX13_part M = some M' → fX13_operand_b95 (fX13_operand_l4 (g1 + 1)) M (bN nt) = some M' := by
            intro M' hM
            unfold fX13_operand_b95 fX13_operand_b96 fX13_operand_b117
            rw [if_pos rfl, fX13_operand_l4, if_pos rfl]
            unfold fX13_operand_b120
            rw [hM, b1_s]
          unfold ptR at hp
          by_cases k2 : tK c L q = 2
          · obtain ⟨gt1, gt2⟩ := gt (by omega)
            rw [if_pos k2] at hy hp
            by_cases v : tV c L q = 10000
            · rw [if_pos v] at hy hp
              obtain ⟨M', p1, p2⟩ := hp
              exact ⟨M', fin M' p1, Or.inl ⟨_, (Option.some.inj hy).symm, p2⟩⟩
            · rw [if_neg v] at hy hp
              obtain ⟨M', p1, p2⟩ := hp
              exact ⟨M', fin M' p1, Or.inr ⟨n, _, st, d, te, tN c L q, gt2, n4.2, hz, hy, p2⟩⟩
          · rw [if_neg k2] at hy hp
            by_cases k1 : tK c L q = 1
            · obtain ⟨gt1, gt2⟩ := gt (by omega)
              rw [if_pos k1] at hy hp
              by_cases v : vf (tW c L q) = -1
              · rw [if_pos v] at hy hp
                obtain ⟨M', p1, p2⟩ := hp
                exact ⟨M', fin M' p1, Or.inl ⟨_, (Option.some.inj hy).symm, p2⟩⟩
              · rw [if_neg v] at hy hp
                obtain ⟨M', p1, p2⟩ := hp
                exact ⟨M', fin M' p1, Or.inr ⟨n, _, st, d, te, tN c L q, gt2, n4.2, hz, hy, p2⟩⟩
            · rw [if_neg k1] at hy hp
              obtain ⟨M', p1, p2⟩ := hp
              exact ⟨M', fin M' p1, Or.inl ⟨_, (Option.some.inj hy).symm, p2⟩⟩
theorem opr {c : Nat → Nat} {L : Nat} {vf : Nat → Int32} {km : Nat → Nat} {p0 lo hi : Nat} {M0 : Mem} (hk : kvOk vf km lo hi) (hlo : gI M0 103 41 = nI lo) (hhi : gI M0 103 42 = nI hi) {n : Nat} {nt : Bool} {m : Nat} {out st : List Int32} {d : Nat} {te : Nat → Bool} {q : Nat} {M : Mem} {res : Except (Nat × Nat) YS} (hm : nt = true → m = 6) (hm2 : m ≤ 6) (hz : z0 st + 1 = d) (hy : yrd c L vf n (some (nt, m), (out, st, d, te, q)) = some res) (h : mX c L km p0 M0 0 0 out st d te q M) : ∃ M', fX13_operand M (bN nt) = some M' ∧ opE c L vf km p0 M0 q res M' := by
  have hL := h.1.1.1
  obtain ⟨M', p1, p2⟩ := opd hk hlo hhi 1000 n nt m out st d te q M res 99999 FU (by omega) (Nat.le_refl _) hz hm2 hy h (by decide) (by show _ < 100000; omega)
  refine ⟨M', ?_, p2⟩
  unfold fX13_operand
  rw [show fX13_operand_l4 FU M (bN nt) 1 = fX13_operand_l4 (99999 + 1) M (bN nt) 1 from rfl, fX13_operand_l4, if_neg (by decide), good_1 h.2.1, b1_s, if_neg (by decide)]
  have e : nI (if nt = true then 6 - m else 0) = 0 := by
    cases nt with
    | false => rfl
    | true => rw [hm rfl]; rfl
  rw [e] at p1
  exact p1
def finY (c : Nat → Nat) (L : Nat) (km : Nat → Nat) (p0 : Nat) (M0 : Mem) (res : Except (Nat × Nat) YS) (M' : Mem) : Prop := match res with
  | .error e => (gI M' 103 22 = nI e.1 ∧ gI M' 103 23 = nI e.2 ∧ 1 ≤ e.1 ∧ e.1 < 10) ∧ frY p0 M0 M'
  | .ok y => (tpM c L M' ∧ tkM c L y.2.2.2.2 M' ∧ y.2.2.2.2 ≤ L) ∧ gI M' 103 22 = 0 ∧ (∃ top, gI M' 103 40 = nI (top + 1) ∧ encP (gI M' 130) km (drp 0 y.1 y.2.1).1 p0 top ∧ gI M' 130 top = 0 ∧ top + 8 ≤ 2 * y.2.2.2.2) ∧ frY p0 M0 M'
theorem fY.l39 {c : Nat → Nat} {L : Nat} {km : Nat → Nat} {p0 : Nat} {M0 : Mem} {e : Nat × Nat} {M : Mem} (h : fY p0 M0 e M) (f : Nat) (x3 : Int32) : ∃ M', fX13_expression_l39 (f + 1) M x3 = some M' ∧ finY c L km p0 M0 (.error e) M' := by
  have hg := good_0 h.1.1 h.1.2.2.1 h.1.2.2.2
  obtain ⟨M', p1, p2, p3⟩ := h.end
  refine ⟨M', ?_, p2, p3⟩
  have b340 : fX13_expression_b340 M = some M' := by
    unfold fX13_expression_b340
    rw [hg, b1_s, if_pos rfl]
    exact p1
  rw [fX13_expression_l39]
  by_cases q : x3 = 0
  · rw [if_pos q]; exact b340
  · rw [if_neg q, hg, b1_s, if_pos rfl]; exact b340
theorem mX.b340 {c : Nat → Nat} {L : Nat} {vf : Nat → Int32} {km : Nat → Nat} {p0 : Nat} {M0 : Mem} {out st : List Int32} {d : Nat} {te : Nat → Bool} {q : Nat} {M : Mem} (h : mX c L km p0 M0 0 0 out st d te q M) : ∃ M', fX13_expression_b340 M = some M' ∧ finY c L km p0 M0 (if 1 < d then .error (1, tP c L q) else .ok (out, st, d, te, q)) M' := by
  have hd := h.2.2.2.2.1
  unfold fX13_expression_b340
  rw [good_1 h.2.1, b1_s, if_neg (by decide), pu_s, hd.1]
  by_cases h1 : 1 < d
  · obtain ⟨M1, w1, w2⟩ := h.wr (by decide) (by decide) (e := 1) (by decide) (by decide)
    obtain ⟨M', p1, p2, p3⟩ := w2.end
    rw [if_pos h1, if_pos (by rw [show (1 : Int32) = nI 1 from rfl, lt_nI (by omega) (by omega)]; exact h1), show fX13_wrong M 1 = _ from w1, b1_s]
    exact ⟨M', p1, p2, p3⟩
  · rw [if_neg h1, if_neg (by rw [show (1 : Int32) = nI 1 from rfl, lt_nI (by omega) (by omega)]; exact h1)]
    obtain ⟨M1, w1, w2⟩ := dropM (least := 0) (by decide) h
    obtain ⟨⟨a1, a2, a3⟩, b1', ⟨top, t1, t2, t3⟩, -, -, -, f1⟩ := w2
    have hpe := encP_le _ _ _ t2
    have hL := a1.1
    unfold fX13_expression_b360
    rw [show fX13_drops M 0 = _ from w1, b1_s, puts_ok t1 (by omega), b1_s]
    refine ⟨_, rfl, ⟨a1.mv ?_ (fun j => ?_), a2.mv (fun j j1 j2 => ?_) rfl, a3⟩, ?_, ⟨top, gI_ss, encP_c _ _ _ t2 (fun i i1 i2 => ?_), ?_, by show top + 8 ≤ 2 * q; omega⟩, (f1.st (Or.inr (Or.inr (Or.inr ⟨rfl, hpe⟩)))).st (Or.inl ⟨rfl, by omega⟩)⟩
    · rw [gI_sj (by decide), gI_sa (by decide)]
    · rw [gI_sa (by decide), gI_sa (by decide)]
    · rw [gI_sj (by omega), gI_sa (by decide)]
    · rw [gI_sj (by decide), gI_sa (by decide)]; exact b1'
    · rw [gI_sa (by decide), gI_sj (by omega)]
    · rw [gI_sa (by decide), gI_ss]
theorem open_l {M : Mem} : ∀ (st : List Int32) (fuel : Nat), stM M st → vst st → st.length < 950 → st.length < fuel → fX13_isOpened_l7 fuel M (pd st.length) = some (if (0 : Int32) ∈ st then 1 else 0) := by
  intro st
  induction st with
  | nil =>
    intro fuel h hv hl hf
    obtain ⟨m, rfl⟩ : ∃ m, fuel = m + 1 := ⟨fuel - 1, by omega⟩
    rw [fX13_isOpened_l7, if_pos (by decide), if_neg List.not_mem_nil]
    rfl
  | cons x s ih =>
    intro fuel h hv hl hf
    obtain ⟨m, rfl⟩ : ∃ m, fuel = m + 1 := ⟨fuel - 1, by omega⟩
    rw [List.length_cons] at hl hf
    have hx := acM_f (hv x List.mem_cons_self)
    rw [fX13_isOpened_l7, List.length_cons, pd_s, if_neg (nI_pos (by omega)), ldI_nI (by omega) (by decide), h.1, hx.1, b1_s]
    by_cases e : x = 0
    · rw [if_pos e, if_neg (by decide), if_pos (List.mem_cons.mpr (Or.inl e.symm))]
      unfold fX13_isOpened_b29
      rw [if_neg (nI_pos (by omega))]
    · rw [if_neg e, if_pos rfl, pu_s, pd_n, ih m h.2 (fun y hy => hv y (List.mem_cons_of_mem _ hy)) (by omega) (by omega)]
      by_cases z : (0 : Int32) ∈ s
      · rw [if_pos z, if_pos (List.mem_cons_of_mem _ z)]
      · rw [if_neg z, if_neg (fun y => by
          rcases List.mem_cons.mp y with w | w
          · exact e w.symm
          · exact z w)]
theorem mX.opened {c : Nat → Nat} {L : Nat} {km : Nat → Nat} {p0 : Nat} {M0 : Mem} {out st : List Int32} {d : Nat} {te : Nat → Bool} {q : Nat} {M : Mem} (h : mX c L km p0 M0 0 0 out st d te q M) : fX13_isOpened M = some (if (0 : Int32) ∈ st then 1 else 0) := by
  obtain ⟨⟨a1, a2, a3⟩, b1', -, ⟨s1, s2, s3, s4⟩, -⟩ := h
  have hL := a1.1
  unfold fX13_isOpened
  rw [pu_s, s1, pu_s]
  exact open_l st FU s3 s4 (by omega) (by show _ < 100000; omega)
theorem mX.closes {c : Nat → Nat} {L : Nat} {km : Nat → Nat} {p0 : Nat} {M0 : Mem} {out st : List Int32} {d : Nat} {te : Nat → Bool} {q : Nat} {M : Mem} (h : mX c L km p0 M0 0 0 out st d te q M) (h0 : (0 : Int32) ∈ st) (hd : 2 ≤ d) (hk : tK c L q ≠ 0) : ∃ M', fX13_closes M = some M' ∧ mX c L km p0 M0 0 0 (drp 0 out st).1 (drp 0 out st).2.tail (d - 1) te (tN c L q) M' := by
  obtain ⟨M1, w1, w2⟩ := dropM (least := 0) (by decide) h
  obtain ⟨s, hs⟩ := drp_0 st out h0
  rw [hs] at w2
  obtain ⟨⟨a1, a2, a3⟩, b1', ⟨top, t1, t2, t3⟩, ⟨s1, s2, s3, s4⟩, ⟨d1, d2, d3⟩, e1, f1⟩ := w2
  rw [List.length_cons] at s1 s2 t3
  have hL := a1.1
  have m1 : mX c L km p0 M0 0 0 (drp 0 out st).1 s (d - 1) te q (sI (sI M1 103 43 (nI s.length)) 103 44 (nI (d - 1))) := by
    refine ⟨⟨a1.mv ?_ (fun j => ?_), a2.mv (fun j j1 j2 => ?_) rfl, a3⟩, ?_, ⟨top, ?_, encP_c _ _ _ t2 (fun i i1 i2 => ?_), by omega⟩, ⟨?_, by omega, stM_c _ s3.2 (fun i hi => ?_), fun y hy => s4 y (List.mem_cons_of_mem _ hy)⟩, ⟨gI_ss, by omega, by omega⟩, fun i i1 i2 => ?_, (f1.st (Or.inl ⟨rfl, by omega⟩)).st (Or.inl ⟨rfl, by omega⟩)⟩
    · rw [gI_sj (by decide), gI_sj (by decide)]
    · rw [gI_sa (by decide), gI_sa (by decide)]
    · rw [gI_sj (by omega), gI_sj (by omega)]
    · rw [gI_sj (by decide), gI_sj (by decide)]; exact b1'
    · rw [gI_sj (by decide), gI_sj (by decide)]; exact t1
    · rw [gI_sa (by decide), gI_sa (by decide)]
    · rw [gI_sj (by decide), gI_ss]
    · rw [gI_sa (by decide), gI_sa (by decide)]
    · rw [gI_sa (by decide), gI_sa (by decide)]; exact e1 i i1 (by omega)
  obtain ⟨M2, g1, g2⟩ := m1.goes hk (by decide) (by decide)
  refine ⟨M2, ?_, by rw [hs]; exact g2⟩
  unfold fX13_closes
  rw [show fX13_drops M 0 = _ from w1, b1_s, pu_s, s1, pu_s, pu_s, gI_sj (by decide), d1, nI_m1 (by omega), Nat.add_sub_cancel, pu_s, nI_m1 (by omega), g1, b1_s]
theorem z0_mem : ∀ st : List Int32, (0 : Int32) ∈ st → 1 ≤ z0 st := by
  intro st
  induction st with
  | nil => intro h; exact absurd h List.not_mem_nil
  | cons x s ih =>
    intro h
    unfold z0
    by_cases e : x = 0
    · rw [if_pos e]; omega
    · rw [if_neg e]
      rcases List.mem_cons.mp h with z | z
      · exact absurd z.symm e
      · exact ih z
theorem mainY {c : Nat → Nat} {L : Nat} {vf : Nat → Int32} {km : Nat → Nat} {p0 lo hi : Nat} {M0 : Mem} (hk : kvOk vf km lo hi) (hlo : gI M0 103 41 = nI lo) (hhi : gI M0 103 42 = nI hi) : ∀ (N n : Nat) (out st : List Int32) (d : Nat) (te : Nat → Bool) (q : Nat) (M : Mem) (res : Except (Nat × Nat) YS) (f : Nat), L - q < N → z0 st + 1 = d → yrd c L vf n (none, (out, st, d, te, q)) = some res → mX c L km p0 M0 0 0 out st d te q M → N + 1 < f → ∃ M', fX13_expression_l39 f M 1 = some M' ∧ finY c L km p0 M0 res M' := by
  intro N
  induction N with
  | zero => intro n out st d te q M res f h; exact absurd h (Nat.not_lt_zero _)
  | succ N ih =>
    intro n out st d te q M res f hN hz hy h hf
    obtain ⟨g, rfl⟩ : ∃ g, f = g + 1 := ⟨f - 1, by omega⟩
    have hg : fX13_isGood M = some 1 := good_1 h.2.1
    have hL := h.1.1.1
    have hq := h.1.2.2
    have hwle := tW_le (c := c) (L := L) (q := q)
    have hkn := known_ok hL hq h.1.2.1
    have hkw := kw_iff (tW c L q) hwle
    have n4 := tN_le (c := c) hq
    have hP := tP_le (c := c) hq
    have gt : tK c L q ≠ 0 → q < L ∧ q < tN c L q := fun z => by
      have := tN_gt (c := c) hq z
      omega
    have hd := h.2.2.2.2.1
    -- behind an operand
    have after : ∀ (n : Nat) (nt : Bool) (m : Nat) (o : Int32) (S out2 : List Int32) (te2 : Nat → Bool) (M2 : Mem), (nt = true → m = 6) → m ≤ 6 → z0 S + 1 = d → q < L → q < tN c L q → yrd c L vf n (some (nt, m), (out2, S, d, te2, tN c L q)) = some res → mX c L km p0 M0 0 0 out2 S d te2 (tN c L q) M2 → ∃ M', (b1 (fX13_operand M2 (bN nt)) fun Mq => fX13_expression_b337 (fX13_expression_l39 g) Mq 1) = some M' ∧ finY c L km p0 M0 res M' := by
      intro n nt m o S out2 te2 M2 hm hm2 hz2 hq1 hq2 hy2 h2
      obtain ⟨M3, p1, p2⟩ := opr hk hlo hhi hm hm2 hz2 hy2 h2
      rw [p1, b1_s]
      unfold fX13_expression_b337
      obtain ⟨g3, rfl⟩ : ∃ g3, g = g3 + 1 := ⟨g - 1, by omega⟩
      rcases p2 with ⟨e, z1, z2⟩ | ⟨n', out', st', d', te', q', z1, z2, z3, z4, z5⟩
      · rw [z1]
        exact z2.l39 g3 1
      · exact ih n' out' st' d' te' q' M3 res (g3 + 1) (by omega) z3 z4 z5 (by omega)
    cases n with
    | zero => cases hy
    | succ n =>
      rw [yrd] at hy
      rw [fX13_expression_l39, if_neg (by decide), hg, b1_s, if_neg (by decide), hkn, b1_s]
      by_cases w12 : tW c L q = 12
      · have k1 := tW_1 w12 (by decide)
        obtain ⟨gt1, gt2⟩ := gt (by omega)
        rw [if_pos w12] at hy
        have hk19 := hkw.2.1.mpr w12
        rw [if_pos hk19]
        obtain ⟨M1, p1, p2⟩ := dropM (least := 2) (by decide) h
        obtain ⟨M2, p3, p4⟩ := p2.push (x := -9) (Or.inr (by decide))
        have p5 := p4.te false
        obtain ⟨M3, p6, p7⟩ := p5.goes (by omega) (by decide) (by decide)
        unfold fX13_expression_b70 fX13_expression_b83 fX13_expression_b99
        rw [if_pos hk19, show fX13_drops M 2 = _ from p1, b1_s, if_pos hk19, show fX13_waitsFor M1 4 = _ from p3, b1_s, pu_s, p4.2.2.2.2.1.1, stI_nI (by omega) (by decide), show fX13_goes (sI M2 132 d (vp_nar .boolean 0)) = _ from p6, b1_s]
        refine after n true 6 (-9) _ _ _ M3 (fun _ => rfl) (Nat.le_refl _) ?_ gt1 gt2 hy p7
        show (if (-9 : Int32) = 0 then _ else z0 (drp 2 out st).2) + 1 = d
        rw [if_neg (by decide), (drp_z st out).1, hz]
      · rw [if_neg w12] at hy
        rw [if_neg (fun z => w12 (hkw.2.1.mp z))]
        by_cases w11 : tW c L q = 11
        · have k1 := tW_1 w11 (by decide)
          obtain ⟨gt1, gt2⟩ := gt (by omega)
          rw [if_pos w11] at hy
          have hk20 := hkw.2.2.mpr w11
          have hk19 : ¬ kwI (tW c L q) = 19 := fun z => w12 (hkw.2.1.mp z)
          rw [if_pos hk20]
          obtain ⟨M1, p1, p2⟩ := dropM (least := 1) (by decide) h
          obtain ⟨M2, p3, p4⟩ := p2.push (x := -8) (Or.inr (by decide))
          have p5 := p4.te false
          obtain ⟨M3, p6, p7⟩ := p5.goes (by omega) (by decide) (by decide)
          unfold fX13_expression_b70 fX13_expression_b83 fX13_expression_b99
          rw [if_neg hk19, show fX13_drops M 1 = _ from p1, b1_s, if_neg hk19, show fX13_waitsFor M1 5 = _ from p3, b1_s, pu_s, p4.2.2.2.2.1.1, stI_nI (by omega) (by decide), show fX13_goes (sI M2 132 d (vp_nar .boolean 0)) = _ from p6, b1_s]
          refine after n true 6 (-8) _ _ _ M3 (fun _ => rfl) (Nat.le_refl _) ?_ gt1 gt2 hy p7
          show (if (-8 : Int32) = 0 then _ else z0 (drp 1 out st).2) + 1 = d
          rw [if_neg (by decide), (drp_z st out).1, hz]
        · rw [if_neg w11] at hy
          rw [if_neg (fun z => w11 (hkw.2.2.mp z))]
          -- a comparison, or what is behind it
          have toB : (if tK c L q = 60 ∨ tK c L q = 61 then fX13_expression_b142 (fX13_expression_l39 g) M 1 else fX13_expression_b201 (fX13_expression_l39 g) M 1) = (b1 (fX13_isSign M 60) fun vq21 => if vq21 = 0 then (b1 (fX13_isSign M 61) fun vq48 => if vq48 = 0 then fX13_expression_b201 (fX13_expression_l39 g) M 1 else fX13_expression_b142 (fX13_expression_l39 g) M 1) else fX13_expression_b142 (fX13_expression_l39 g) M 1) := by
            rw [show (60 : Int32) = nI 60 from rfl, isSign_ok h.1.2.1 (by decide), b1_s, show (61 : Int32) = nI 61 from rfl, isSign_ok h.1.2.1 (by decide), b1_s]
            by_cases y1 : tK c L q = 60
            · rw [if_pos (Or.inl y1), if_pos y1, if_neg (by decide)]
            · rw [if_neg y1, if_pos rfl]
              by_cases y2 : tK c L q = 61
              · rw [if_pos (Or.inr y2), if_pos y2, if_neg (by decide)]
              · rw [if_neg (by rintro (z | z); exact y1 z; exact y2 z), if_neg y2, if_pos rfl]
          rw [← toB]
          by_cases cmp : (tK c L q = 60 ∨ tK c L q = 61) ∧ te d = false
          · obtain ⟨gt1, gt2⟩ := gt (by omega)
            rw [if_pos cmp] at hy
            rw [if_pos cmp.1]
            have hte : gI M 132 d = 0 := by rw [h.2.2.2.2.2.1 d hd.2.1 (Nat.le_refl _), cmp.2]; rfl
            obtain ⟨M1, p1, p2⟩ := dropM (least := 4) (by decide) h
            have hx : acM (if tK c L q = 60 then -10 else -11) = (if tK c L q = 60 then 6 else 7) := by split <;> rfl
            have hxv : (if tK c L q = 60 then (-10 : Int32) else -11) = 0 ∨ (-16 < (if tK c L q = 60 then (-10 : Int32) else -11) ∧ (if tK c L q = 60 then (-10 : Int32) else -11) < -6) := by split <;> exact Or.inr (by decide)
            have hxn : ¬ (if tK c L q = 60 then (-10 : Int32) else -11) = 0 := by split <;> decide
            obtain ⟨M2, p3, p4⟩ := p2.push hxv
            have p5 := p4.te true
            obtain ⟨M3, p6, p7⟩ := p5.goes (by omega) (by decide) (by decide)
            have b176 : fX13_expression_b142 (fX13_expression_l39 g) M 1 = (b1 (fX13_operand M3 (bN false)) fun Mq => fX13_expression_b337 (fX13_expression_l39 g) Mq 1) := by
              have hb : ∀ s0, s0 = (if tK c L q = 60 then (6 : Int32) else 7) → fX13_expression_b176 (fX13_expression_l39 g) M1 1 s0 = (b1 (fX13_operand M3 (bN false)) fun Mq => fX13_expression_b337 (fX13_expression_l39 g) Mq 1) := by
                intro s0 hs
                unfold fX13_expression_b176
                rw [hs, ← hx, p3, b1_s, pu_s, p4.2.2.2.2.1.1, stI_nI (by omega) (by decide), show fX13_goes (sI M2 132 d (vp_nar .boolean 1)) = _ from p6, b1_s]
                rfl
              unfold fX13_expression_b142
              rw [pu_s, hd.1, ldI_nI (by omega) (by decide), hte, if_pos rfl, show fX13_drops M 4 = _ from p1, b1_s, show (60 : Int32) = nI 60 from rfl, isSign_ok p2.1.2.1 (by decide), b1_s]
              by_cases y1 : tK c L q = 60
              · rw [if_pos y1, if_neg (by decide)]
                exact hb 6 (by rw [if_pos y1])
              · rw [if_neg y1, if_pos rfl]
                exact hb 7 (by rw [if_neg y1])
            rw [b176]
            refine after n false 0 0 _ _ _ M3 (fun z => absurd z (by decide)) (by decide) ?_ gt1 gt2 hy p7
            show (if (if tK c L q = 60 then (-10 : Int32) else -11) = 0 then _ else z0 (drp 4 out st).2) + 1 = d
            rw [if_neg hxn, (drp_z st out).1, hz]
          · rw [if_neg cmp] at hy
            have b201 : (if tK c L q = 60 ∨ tK c L q = 61 then fX13_expression_b142 (fX13_expression_l39 g) M 1 else fX13_expression_b201 (fX13_expression_l39 g) M 1) = fX13_expression_b201 (fX13_expression_l39 g) M 1 := by
              by_cases y : tK c L q = 60 ∨ tK c L q = 61
              · rw [if_pos y]
                have hte : te d = true := by
                  cases z : te d with
                  | true => rfl
                  | false => exact absurd ⟨y, z⟩ cmp
                unfold fX13_expression_b142
                rw [pu_s, hd.1, ldI_nI (by omega) (by decide), h.2.2.2.2.2.1 d hd.2.1 (Nat.le_refl _), hte, if_neg (by decide)]
              · rw [if_neg y]
            rw [b201]
            have sg : ∀ k : Nat, 40 ≤ k ∧ k ≤ 61 → fX13_isSign M (nI k) = some (if tK c L q = k then 1 else 0) := fun k hk => isSign_ok h.1.2.1 hk
            have two : ∀ (x : Int32) (least : Nat) (s0 : Int32), least ≤ 6 → acM x = s0 → (-16 < x ∧ x < -6) → tK c L q ≠ 0 → yrd c L vf n (some (false, 0), ((drp least out st).1, x :: (drp least out st).2, d, te, tN c L q)) = some res → ∃ M1, fX13_drops M (nI least) = some M1 ∧ tkM c L q M1 ∧ ∃ M', (b1 (fX13_waitsFor M1 s0) fun Mq27 => b1 (fX13_goes Mq27) fun Mq28 => b1 (fX13_operand Mq28 0) fun Mq29 => fX13_expression_b337 (fX13_expression_l39 g) Mq29 1) = some M' ∧ finY c L km p0 M0 res M' := by
              intro x least s0 hl hs hx hk0 hy2
              obtain ⟨gt1, gt2⟩ := gt hk0
              have hxn : ¬ x = 0 := fun z => by rw [z] at hx; exact absurd hx.2 (by decide)
              obtain ⟨M1, p1, p2⟩ := dropM (least := least) hl h
              obtain ⟨M2, p3, p4⟩ := p2.push (x := x) (Or.inr hx)
              obtain ⟨M3, p6, p7⟩ := p4.goes hk0 (by decide) (by decide)
              obtain ⟨M', r1, r2⟩ := after n false 0 0 _ _ _ M3 (fun z => absurd z (by decide)) (by decide) (show z0 (x :: (drp least out st).2) + 1 = d by
                show (if x = 0 then _ else z0 (drp least out st).2) + 1 = d
                rw [if_neg hxn, (drp_z st out).1, hz]) gt1 gt2 hy2 p7
              refine ⟨M1, p1, p2.1.2.1, M', ?_, r2⟩
              rw [← hs, p3, b1_s, p6, b1_s]
              exact r1
            have b219 : (tK c L q = 43 ∨ tK c L q = 45) → ∃ M', fX13_expression_b219 (fX13_expression_l39 g) M 1 = some M' ∧ finY c L km p0 M0 res M' := by
              intro hk5
              rw [if_pos hk5] at hy
              by_cases y : tK c L q = 43
              · rw [if_pos y] at hy
                obtain ⟨M1, p1, p2, M', p3, p4⟩ := two (-12) 5 8 (by decide) (by decide) (by decide) (by omega) hy
                refine ⟨M', ?_, p4⟩
                unfold fX13_expression_b219 fX13_expression_b241
                rw [show fX13_drops M 5 = _ from p1, b1_s, show (43 : Int32) = nI 43 from rfl, isSign_ok p2 (by decide), b1_s, if_pos y, if_neg (by decide)]
                exact p3
              · rw [if_neg y] at hy
                obtain ⟨M1, p1, p2, M', p3, p4⟩ := two (-13) 5 9 (by decide) (by decide) (by decide) (by omega) hy
                refine ⟨M', ?_, p4⟩
                unfold fX13_expression_b219 fX13_expression_b241
                rw [show fX13_drops M 5 = _ from p1, b1_s, show (43 : Int32) = nI 43 from rfl, isSign_ok p2 (by decide), b1_s, if_neg y, if_pos rfl]
                exact p3
            unfold fX13_expression_b201
            rw [show (43 : Int32) = nI 43 from rfl, sg 43 (by decide), b1_s, show (45 : Int32) = nI 45 from rfl, sg 45 (by decide), b1_s, show (42 : Int32) = nI 42 from rfl, sg 42 (by decide), b1_s, show (47 : Int32) = nI 47 from rfl, sg 47 (by decide), b1_s, show (41 : Int32) = nI 41 from rfl, sg 41 (by decide), b1_s]
            by_cases y43 : tK c L q = 43
            · rw [if_pos y43, if_neg (by decide)]
              exact b219 (Or.inl y43)
            · rw [if_neg y43, if_pos (show (0 : Int32) = 0 from rfl)]
              by_cases y45 : tK c L q = 45
              · rw [if_pos y45, if_neg (by decide)]
                exact b219 (Or.inr y45)
              · rw [if_neg y45, if_pos (show (0 : Int32) = 0 from rfl)]
                rw [if_neg (by rintro (z | z); exact y43 z; exact y45 z)] at hy
                have b274 : (tK c L q = 42 ∨ tK c L q = 47) → ∃ M', fX13_expression_b274 (fX13_expression_l39 g) M 1 = some M' ∧ finY c L km p0 M0 res M' := by
                  intro hk5
                  rw [if_pos hk5] at hy
                  by_cases y : tK c L q = 42
                  · rw [if_pos y] at hy
                    obtain ⟨M1, p1, p2, M', p3, p4⟩ := two (-14) 6 10 (by decide) (by decide) (by decide) (by omega) hy
                    refine ⟨M', ?_, p4⟩
                    unfold fX13_expression_b274 fX13_expression_b297
                    rw [show fX13_drops M 6 = _ from p1, b1_s, show (42 : Int32) = nI 42 from rfl, isSign_ok p2 (by decide), b1_s, if_pos y, if_neg (by decide)]
                    exact p3
                  · rw [if_neg y] at hy
                    obtain ⟨M1, p1, p2, M', p3, p4⟩ := two (-15) 6 11 (by decide) (by decide) (by decide) (by omega) hy
                    refine ⟨M', ?_, p4⟩
                    unfold fX13_expression_b274 fX13_expression_b297
                    rw [show fX13_drops M 6 = _ from p1, b1_s, show (42 : Int32) = nI 42 from rfl, isSign_ok p2 (by decide), b1_s, if_neg y, if_pos rfl]
                    exact p3
                by_cases y42 : tK c L q = 42
                · rw [if_pos y42, if_neg (by decide)]
                  exact b274 (Or.inl y42)
                · rw [if_neg y42, if_pos (show (0 : Int32) = 0 from rfl)]
                  by_cases y47 : tK c L q = 47
                  · rw [if_pos y47, if_neg (by decide)]
                    exact b274 (Or.inr y47)
                  · rw [if_neg y47, if_pos (show (0 : Int32) = 0 from rfl)]
                    rw [if_neg (by rintro (z | z); exact y42 z; exact y47 z)] at hy
                    have b335 : ¬ (tK c L q = 41 ∧ (0 : Int32) ∈ st) → ∃ M', fX13_expression_b335 (fX13_expression_l39 g) M = some M' ∧ finY c L km p0 M0 res M' := by
                      intro hn
                      rw [if_neg hn] at hy
                      obtain ⟨M', p1, p2⟩ := h.b340 (vf := vf)
                      refine ⟨M', ?_, ?_⟩
                      · unfold fX13_expression_b335 fX13_expression_b337
                        obtain ⟨g3, rfl⟩ : ∃ g3, g = g3 + 1 := ⟨g - 1, by omega⟩
                        rw [fX13_expression_l39, if_pos rfl]
                        exact p1
                      · have : res = (if 1 < d then .error (1, tP c L q) else .ok (out, st, d, te, q)) := by
                          by_cases z : 1 < d
                          · rw [if_pos z] at hy ⊢; exact (Option.some.inj hy).symm
                          · rw [if_neg z] at hy ⊢; exact (Option.some.inj hy).symm
                        rw [this]
                        exact p2
                    by_cases y41 : tK c L q = 41
                    · rw [if_pos y41, if_neg (by decide), h.opened, b1_s]
                      by_cases z0' : (0 : Int32) ∈ st
                      · obtain ⟨gt1, gt2⟩ := gt (by omega)
                        rw [if_pos ⟨y41, z0'⟩] at hy
                        rw [if_pos z0', if_neg (by decide)]
                        have hz1 := z0_mem st z0'
                        obtain ⟨M1, p1, p2⟩ := h.closes z0' (by omega) (by omega)
                        rw [p1, b1_s]
                        unfold fX13_expression_b337
                        obtain ⟨s, hs⟩ := drp_0 st out z0'
                        refine ih n _ _ _ te _ M1 res g (by omega) ?_ hy p2 (by omega)
                        have hz2 := (drp_z (k := 0) st out).1
                        rw [hs] at hz2 ⊢
                        have hz3 : z0 (0 :: s) = z0 s + 1 := if_pos rfl
                        rw [List.tail_cons]
                        omega
                      · rw [if_neg z0', if_pos rfl]
                        exact b335 (fun z => z0' z.2)
                    · rw [if_neg y41, if_pos rfl]
                      exact b335 (fun z => y41 z.1)
