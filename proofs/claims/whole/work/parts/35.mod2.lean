/-! THE REFERENCE: who follows, who stays -/
def frT (M M' : Mem) : Prop := (∀ a j, a ≠ 135 → a ≠ 136 → gI M' a j = gI M a j) ∧ M'.2 = M.2
theorem frT.rf {M : Mem} : frT M M := ⟨fun _ _ _ _ => rfl, rfl⟩
theorem frT.tr {M M1 M2 : Mem} (h : frT M M1) (h2 : frT M1 M2) : frT M M2 := ⟨fun a j x y => (h2.1 a j x y).trans (h.1 a j x y), h2.2.trans h.2⟩
theorem frT.st {M M1 : Mem} {i : Nat} {v : Int32} (h : frT M M1) : frT M (sI M1 135 i v) := ⟨fun a j x y => by rw [gI_sa x]; exact h.1 a j x y, h.2⟩
theorem frT.p {M M1 M2 : Mem} (h : frT M M1) (h2 : frP M1 M2) : frT M M2 := ⟨fun a j x y => (h2.1 a j y).trans (h.1 a j x y), h2.2.trans h.2⟩
theorem frT.frM {M M' : Mem} (b : Nat) (f : frT M M') : frM b M M' := ⟨fun a j _ y z => f.1 a j y z, f.2⟩
theorem rB_t {M M' : Mem} {b : Nat} (f : frT M M') : rB M' b = rB M b := by
  funext j
  unfold rB
  rw [f.1 133 (b + j) (by decide) (by decide)]
theorem LandM.frT {A : LA} {M M' : Mem} (h : LandM A M) (f : frT M M') : LandM A M' := h.mv fun a j x y => f.1 a j (by omega) (by omega)
theorem zsub (x : Int32) : (0 : Int32) - x = -x := Int32.zero_sub x
theorem like_ok {A : LA} {M : Mem} {b f who : Nat} {more : Int32} (hL : LandM A M) (hA : okA A) (hc : aC A 1 ≠ []) (hb : b + 31 ≤ 186) (hf : f < 6) (hw : who < 2) :
    ∃ M', fX13_likeOf M (nI b) (nI f) (nI who) more = some (likR A (rB M b) f who more, M') ∧ frT M M' := by
  have gB : ∀ i, i < 31 → gI M 133 (b + i) = rB M b i := fun i h => rB_g h
  have g0 : gI M 133 b = rB M b 0 := rB_g (i := 0) (by decide)
  have hl7 := hL.2.2.2.2.2.2.2.2.2.2.2.2.2.1
  have hlen := hL.2.2.2.2.2.2.2.2.2.2.2.2.2.2 1 (by decide)
  unfold ruleM at hl7
  rw [if_neg hc] at hl7
  obtain ⟨p, hp, hat, hen⟩ := hl7
  have hok := hA.2.2.2.2.2.2.2.2.2.2.2.2 1 (by decide)
  rcases hok with hok | ⟨hwf, hix⟩
  · exact absurd hok hc
  let M5 := sI (sI (sI M 135 3 (rB M b 0)) 135 4 (rB M b 2)) 135 5 (rB M b (6 + who) + more)
  -- the last two told, then the reckoning
  have fin : ∀ u w : Int32, u = (if rB M b 4 = nI who then 1 else 0) → w = (if who = 0 then -(rB M b (25 + f)) else rB M b (25 + f)) → ∃ M', (stI (sI M5 135 6 u) 135 8 7 w fun Mq10 => pu (gI Mq10 103 7) fun vq11 => b2 (fX13_reckons Mq10 vq11) fun vq12 Mq13 => some (vq12, Mq13)) = some (likR A (rB M b) f who more, M') ∧ frT M M' := by
    intro u w hu hw9
    have hfr : frT M (sI (sI M5 135 6 u) 135 7 w) := ((((frT.rf.st).st).st).st).st
    have h7 : ∀ i, i < 5 → gI (sI (sI M5 135 6 u) 135 7 w) 135 (kmL i) = likV (rB M b) f who more i := by
      intro i hi
      rcases (show i = 0 ∨ i = 1 ∨ i = 2 ∨ i = 3 ∨ i = 4 by omega) with h | h | h | h | h <;> subst h
      · show gI (sI (sI M5 135 6 u) 135 7 w) 135 5 = _
        rw [gI_sj (by decide), gI_sj (by decide), gI_ss]; rfl
      · show gI (sI (sI M5 135 6 u) 135 7 w) 135 6 = _
        rw [gI_sj (by decide), gI_ss, hu]; rfl
      · show gI (sI (sI M5 135 6 u) 135 7 w) 135 7 = _
        rw [gI_ss, hw9]; rfl
      · show gI (sI (sI M5 135 6 u) 135 7 w) 135 3 = _
        rw [gI_sj (by decide), gI_sj (by decide), gI_sj (by decide), gI_sj (by decide), gI_ss]; rfl
      · show gI (sI (sI M5 135 6 u) 135 7 w) 135 4 = _
        rw [gI_sj (by decide), gI_sj (by decide), gI_sj (by decide), gI_ss]; rfl
    obtain ⟨M', h1, h2⟩ := reckons_ok (v := likV (rB M b) f who more) (km := kmL) kmL_lt (l := aC A 1) (M := sI (sI M5 135 6 u) 135 7 w) (p := p) hwf (by omega) (encM_congr _ _ hen (fun i => (hfr.1 115 i (by decide) (by decide)).symm)) (fun x hx q1 q2 => h7 _ (hix x hx q1 q2))
    refine ⟨M', ?_, hfr.p h2⟩
    rw [show (7 : Int32) = nI 7 from rfl, stI_nI (by decide) (by decide), pu_s, hfr.1 103 7 (by decide) (by decide), hat, h1, b2_s]
    rfl
  have hlik : ∀ u : Int32, u = (if rB M b 4 = nI who then 1 else 0) → ∃ M', fX13_likeOf_b84 M5 (nI who) (rB M b (25 + f)) u 6 = some (likR A (rB M b) f who more, M') ∧ frT M M' := by
    intro u hu
    unfold fX13_likeOf_b84 fX13_likeOf_b104
    rw [show (6 : Int32) = nI 6 from rfl, stI_nI (by decide) (by decide)]
    by_cases h0 : who = 0
    · rw [if_pos (by rw [h0]; exact nI_0)]
      exact fin u _ hu (by rw [if_pos h0]; exact zsub _)
    · rw [if_neg (nI_ne0 (by omega) (by omega))]
      exact fin u _ hu (by rw [if_neg h0])
  unfold fX13_likeOf
  rw [show (25 : Int32) = nI 25 from rfl, nI_add, nI_add, ldI_nI (by omega) (by decide), show nI b + 0 = nI b from nI_add b 0, ldI_nI (by omega) (by decide), show b + 25 + f = b + (25 + f) by omega, gB _ (by omega), g0]
  rw [show (3 : Int32) = nI 3 from rfl, stI_nI (by decide) (by decide), show (2 : Int32) = nI 2 from rfl, nI_add, ldI_nI (by omega) (by decide), gI_sa (by decide), gB _ (by omega), show (4 : Int32) = nI 4 from rfl, stI_nI (by decide) (by decide)]
  rw [show (6 : Int32) = nI 6 from rfl, nI_add, nI_add, ldI_nI (by omega) (by decide), gI_sa (by decide), gI_sa (by decide), show b + 6 + who = b + (6 + who) by omega, gB _ (by omega), show (5 : Int32) = nI 5 from rfl, stI_nI (by decide) (by decide)]
  rw [nI_add, ldI_nI (by omega) (by decide), gI_sa (by decide), gI_sa (by decide), gI_sa (by decide), gB _ (by omega)]
  by_cases h4 : rB M b 4 = nI who
  · rw [if_pos h4]
    exact hlik 1 (by rw [if_pos h4])
  · rw [if_neg h4]
    exact hlik 0 (by rw [if_neg h4])
theorem follows_ok {A : LA} {M : Mem} {b f who : Nat} {more : Int32} (hL : LandM A M) (hA : okA A) (hb : b + 31 ≤ 186) (hf : f < 6) (hw : who < 2) :
    ∃ M', fX13_follows M (nI b) (nI f) (nI who) more = some (if youR A (rB M b) f (if who = 0 then more else 0) (if who = 0 then 0 else more) = true then 1 else 0, M') ∧ frT M M' := by
  have hl7 := hL.2.2.2.2.2.2.2.2.2.2.2.2.2.1
  unfold ruleM at hl7
  unfold fX13_follows youR
  rw [pu_s]
  by_cases hc : aC A 1 = []
  · rw [if_pos hc] at hl7
    rw [if_pos hc, hl7, if_pos rfl, show (25 : Int32) = nI 25 from rfl, nI_add, nI_add, ldI_nI (by omega) (by decide), show b + 25 + f = b + (25 + f) by omega, rB_g (by omega)]
    refine ⟨M, ?_, frT.rf⟩
    by_cases h : 0 < rB M b (25 + f)
    · rw [if_pos h, if_pos (decide_eq_true h)]
    · rw [if_neg h, if_neg (by simpa using h)]
  · rw [if_neg hc] at hl7
    obtain ⟨p, hp, hat, hen⟩ := hl7
    rw [if_neg hc, hat, if_neg (nI_neg1 (by omega))]
    have two : ∀ m0 m1 : Int32, ∃ M', (b2 (fX13_likeOf M (nI b) (nI f) 0 m0) fun vq2 Mq3 => b2 (fX13_likeOf Mq3 (nI b) (nI f) 1 m1) fun vq4 Mq5 => if vq2 < vq4 then some ((1 : Int32), Mq5) else some (0, Mq5)) = some (if decide (likR A (rB M b) f 0 m0 < likR A (rB M b) f 1 m1) = true then 1 else 0, M') ∧ frT M M' := by
      intro m0 m1
      obtain ⟨M1, h1, f1⟩ := like_ok (more := m0) hL hA hc hb hf (who := 0) (by decide)
      obtain ⟨M2, h2, f2⟩ := like_ok (more := m1) (hL.frT f1) hA hc hb hf (who := 1) (by decide)
      refine ⟨M2, ?_, f1.tr f2⟩
      rw [show (0 : Int32) = nI 0 from rfl, h1, b2_s, show (1 : Int32) = nI 1 from rfl, h2, b2_s, rB_t f1]
      by_cases h : likR A (rB M b) f 0 m0 < likR A (rB M b) f 1 m1
      · rw [if_pos h, if_pos (decide_eq_true h)]
      · rw [if_neg h, if_neg (by simpa using h)]
    unfold fX13_follows_b42 fX13_follows_b62
    rcases (show who = 0 ∨ who = 1 by omega) with h | h <;> subst h
    · rw [if_pos nI_0, if_pos rfl, if_pos rfl]
      obtain ⟨M', h1, f1⟩ := two more 0
      refine ⟨M', ?_, f1⟩
      rw [← h1]
      rfl
    · rw [if_neg (show ¬ nI 1 = 0 from by decide), if_neg (show ¬ (1 : Nat) = 0 from by decide), if_neg (show ¬ (1 : Nat) = 0 from by decide)]
      obtain ⟨M', h1, f1⟩ := two 0 more
      refine ⟨M', ?_, f1⟩
      rw [← h1]
      rfl
theorem or0 (x : Int32) : x ||| 0 = x := Int32.or_zero
theorem followers_l {A : LA} {b who : Nat} (hA : okA A) (hb : b + 31 ≤ 186) (hw : who < 2) {r : Nat → Int32} : ∀ (d i fuel : Nat) (M : Mem), LandM A M → rB M b = r → i + d = aN A 2 → d < fuel →
    ∃ M', fX13_followers_l5 fuel M (nI b) (nI who) (folN A r who i) (nI i) = some (folN A r who (aN A 2), M') ∧ frT M M' := by
  have h6 : aN A 2 ≤ 6 := hA.2.2.1
  intro d
  induction d with
  | zero =>
    intro i fuel M hL hr hi hf
    obtain ⟨m, rfl⟩ : ∃ m, fuel = m + 1 := ⟨fuel - 1, by omega⟩
    refine ⟨M, ?_, frT.rf⟩
    rw [fX13_followers_l5, pu_s, hL.2.2.1, if_neg (by rw [lt_nI (by omega) (by omega)]; omega), show aN A 2 = i by omega]
  | succ d ih =>
    intro i fuel M hL hr hi hf
    obtain ⟨m, rfl⟩ : ∃ m, fuel = m + 1 := ⟨fuel - 1, by omega⟩
    rw [fX13_followers_l5, pu_s, hL.2.2.1, if_pos (by rw [lt_nI (by omega) (by omega)]; omega)]
    obtain ⟨M1, h1, f1⟩ := follows_ok (more := 0) hL hA hb (f := i) (by omega) (who := 0) (by decide)
    simp only [ite_self] at h1
    rw [show fX13_follows M (nI b) (nI i) 0 0 = _ from h1, b2_s, hr]
    have hL1 := hL.frT f1
    have hr1 : rB M1 b = r := (rB_t f1).trans hr
    have nx : ∀ w : Int32, w = folN A r who (i + 1) → ∃ M', fX13_followers_l5 m M1 (nI b) (nI who) w (nI i + 1) = some (folN A r who (aN A 2), M') ∧ frT M M' := by
      intro w hw9
      obtain ⟨M', h2, f2⟩ := ih (i + 1) m M1 hL1 hr1 (by omega) (by omega)
      refine ⟨M', ?_, f1.tr f2⟩
      rw [hw9, nI_1, h2]
    unfold fX13_followers_b36
    simp only [pu_s]
    by_cases hy : youR A r i 0 0 = (who == 1)
    · rw [if_pos (by
        rw [hy]
        rcases (show who = 0 ∨ who = 1 by omega) with h | h <;> subst h <;> rfl)]
      exact nx _ (by show _ = if _ then _ else _; rw [if_pos hy]; rfl)
    · rw [if_neg (by
        intro q
        apply hy
        rcases (show who = 0 ∨ who = 1 by omega) with h | h <;> subst h
        · by_cases hz : youR A r i 0 0 = true
          · rw [if_pos hz] at q; exact absurd q (by decide)
          · simpa using hz
        · by_cases hz : youR A r i 0 0 = true
          · simpa using hz
          · rw [if_neg hz] at q; exact absurd q (by decide))]
      exact nx _ (by show _ = if _ then _ else _; rw [if_neg hy]; exact or0 _)
theorem followers_ok {A : LA} {M : Mem} {b who : Nat} (hL : LandM A M) (hA : okA A) (hb : b + 31 ≤ 186) (hw : who < 2) : ∃ M', fX13_followers M (nI b) (nI who) = some (folN A (rB M b) who (aN A 2), M') ∧ frT M M' := by
  have h6 : aN A 2 ≤ 6 := hA.2.2.1
  exact followers_l hA hb hw (aN A 2) 0 FU M hL rfl (by omega) (by show _ < 100000; omega)
theorem bit01 (x : Int32) : x &&& 1 = 0 ∨ x &&& 1 = 1 := by
  obtain ⟨j, hj, e⟩ := pk_andE x (m := 1) 1 (by decide)
  rcases (show j = 0 ∨ j = 1 by omega) with h | h <;> subst h
  · exact Or.inl e
  · exact Or.inr e
theorem men_l {A : LA} {x : Int32} (hA : okA A) {M : Mem} (hL : LandM A M) : ∀ (d i fuel : Nat), i + d = aN A 2 → d < fuel → fX13_menOf_l4 fuel M x (menN A x i) (nI i) = some (menN A x (aN A 2)) := by
  have h6 : aN A 2 ≤ 6 := hA.2.2.1
  intro d
  induction d with
  | zero =>
    intro i fuel hi hf
    obtain ⟨m, rfl⟩ : ∃ m, fuel = m + 1 := ⟨fuel - 1, by omega⟩
    rw [fX13_menOf_l4, pu_s, hL.2.2.1, if_neg (by rw [lt_nI (by omega) (by omega)]; omega), show aN A 2 = i by omega]
  | succ d ih =>
    intro i fuel hi hf
    obtain ⟨m, rfl⟩ : ∃ m, fuel = m + 1 := ⟨fuel - 1, by omega⟩
    rw [fX13_menOf_l4, pu_s, hL.2.2.1, if_pos (by rw [lt_nI (by omega) (by omega)]; omega)]
    have nx : ∀ w : Int32, w = menN A x (i + 1) → fX13_menOf_l4 m M x w (nI i + 1) = some (menN A x (aN A 2)) := by
      intro w hw9
      rw [hw9, nI_1, ih (i + 1) m (by omega) (by omega)]
    unfold fX13_menOf_b32
    simp only [pu_s]
    by_cases hb : bitR x i = true
    · have hb2 := of_decide_eq_true hb
      rw [if_pos ((bit01 _).resolve_left hb2), ldI_nI (by omega) (by decide), hL.2.2.2.2.2.2.2.2.2.1 i (by omega)]
      exact nx _ (by show _ = if _ then _ else _; rw [if_pos hb])
    · have hb2 : (x >>> (nI i &&& 31)) &&& 1 = 0 := by
        unfold bitR at hb
        simpa using hb
      rw [if_neg (by rw [hb2]; decide)]
      refine nx _ ?_
      show _ = if _ then _ else _
      rw [if_neg hb]
      exact Int32.add_zero _
theorem men_ok {A : LA} {x : Int32} (hA : okA A) {M : Mem} (hL : LandM A M) : fX13_menOf M x = some (menN A x (aN A 2)) := by
  have h6 : aN A 2 ≤ 6 := hA.2.2.1
  exact men_l hA hL (aN A 2) 0 FU (by omega) (by show _ < 100000; omega)
