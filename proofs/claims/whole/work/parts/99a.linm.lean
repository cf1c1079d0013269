/-! TEXTS: each line as the reference reads it -/
theorem eb_s {α β : Type} {a : α} {k : α → Except (Nat × Nat) β} : eb (.ok a) k = k a := rfl
theorem pM.row {c : Nat → Nat} {L : Nat} {M0 : Mem} {S : LNS} {q i : Nat} {M : Mem} {v : Int32} (h : pM c L M0 S q M) (hi : i < 31) : pM c L M0 (S.1, upd S.2.1 i v, S.2.2) q (sI M 129 i v) :=
  putM h (fun a j z => gI_sa (by omega)) rfl (h.2.2.2.2.1.mv (Nat.le_refl _) fun a j z => gI_sa (by omega)) ((rA_up hi).trans (by rw [h.2.2.2.2.2.1])) ⟨by rw [gI_sa (by decide)]; exact h.2.2.2.2.2.2.1.1, by rw [gI_sa (by decide)]; exact h.2.2.2.2.2.2.1.2⟩ (frR.rf.st (by omega))
theorem pM.arr {c : Nat → Nat} {L : Nat} {M0 : Mem} {S : LNS} {q a i : Nat} {M : Mem} {v : Int32} (h : pM c L M0 S q M) (ha : 118 ≤ a ∧ a ≤ 128 ∧ a ≠ 122) (hi : a ≤ 121 → aN S.1 0 ≤ i) (hi2 : a = 123 → aN S.1 1 ≤ i) (hi3 : a = 124 → aN S.1 2 ≤ i) (hi4 : a = 125 ∨ a = 126 → aN S.1 3 ≤ i) (hi5 : a = 127 ∨ a = 128 → aN S.1 4 ≤ i) : pM c L M0 S q (sI M a i v) := by
  obtain ⟨t, ⟨u1, u2, u3, u4, u5⟩, top, w1, w2, w3, w4⟩ := h.2.2.2.2.1
  have gg : ∀ b j, (b = a → j ≠ i) → gI (sI M a i v) b j = gI M b j := fun b j z => by rw [gI_sI, if_neg (fun y => z y.1 y.2)]
  refine putM h (fun b j z => gI_sa (by omega)) rfl ⟨?_, ⟨fun d hd => ?_, fun d hd => ?_, fun d hd => ?_, fun d hd => ?_, fun d hd => ?_⟩, top, ?_, w2, w3.mv (Nat.le_refl _) (gI_sa (by omega)) (fun j _ => gI_sa (by omega)), w4.mv (Nat.le_refl _) (gI_sa (by omega)) (fun j _ => gI_sa (by omega))⟩ ?_ ⟨by rw [gI_sa (by omega)]; exact h.2.2.2.2.2.2.1.1, by rw [gI_sa (by omega)]; exact h.2.2.2.2.2.2.1.2⟩ (frR.rf.st (by omega))
  · obtain ⟨t1, t2, t3, t4, t5, t6⟩ := t
    exact ⟨by rw [gI_sa (by omega)]; exact t1, by rw [gI_sa (by omega)]; exact t2, by rw [gI_sa (by omega)]; exact t3, by rw [gI_sa (by omega)]; exact t4, by rw [gI_sa (by omega)]; exact t5, fun b hb => by rw [gI_sa (by omega)]; exact t6 b hb⟩
  · rw [gg _ _ (by omega), gg _ _ (by omega), gg _ _ (by omega), gg _ _ (by omega)]; exact u1 d hd
  · rw [gg _ _ (by omega)]; exact u2 d hd
  · rw [gg _ _ (by omega)]; exact u3 d hd
  · rw [gg _ _ (by omega), gg _ _ (by omega)]; exact u4 d hd
  · rw [gg _ _ (by omega), gg _ _ (by omega)]; exact u5 d hd
  · rw [gI_sa (by omega)]; exact w1
  · rw [← h.2.2.2.2.2.1]
    exact rA_mv fun j => gI_sa (by omega)
theorem msk_or {m i : Nat} (hm : m < 128) (hi : i < 7) (j : Nat) (hj : j < 7) : (if (m ||| 2 ^ i).testBit j = true then (1 : Int32) else 0) = if j = i then 1 else if m.testBit j = true then 1 else 0 := by
  rw [(mask_b m hm i hi).2 j hj]
  by_cases e : j = i
  · rw [if_pos e, decide_eq_true e, Bool.or_true, if_pos rfl]
  · rw [if_neg e, decide_eq_false e, Bool.or_false]
theorem pM.bit {c : Nat → Nat} {L : Nat} {M0 : Mem} {S : LNS} {q i : Nat} {M : Mem} (h : pM c L M0 S q M) (hm : S.2.2 < 128) (hi : i < 7) (h0 : i ≠ 0) (h4 : i ≠ 4) : pM c L M0 (S.1, S.2.1, S.2.2 ||| 2 ^ i) q M := by
  obtain ⟨a1, a2, a3, a4, a5, a6, ⟨a7, a8⟩, a9⟩ := h
  refine ⟨a1, a2, a3, a4, a5, a6, ⟨?_, ?_⟩, a9⟩
  · rw [a7]
    show _ = if (S.2.2 ||| 2 ^ i).testBit 0 = true then (1 : Int32) else 0
    rw [msk_or hm hi 0 (by decide), if_neg (show ¬ (0 : Nat) = i from fun e => h0 e.symm)]
  · rw [a8]
    show _ = if (S.2.2 ||| 2 ^ i).testBit 4 = true then (1 : Int32) else 0
    rw [msk_or hm hi 4 (by decide), if_neg (show ¬ (4 : Nat) = i from fun e => h4 e.symm)]
theorem cityM {c : Nat → Nat} {L : Nat} {M0 : Mem} {S : LNS} {q : Nat} {M : Mem} (hm : S.2.2 < 128) (h : pM c L M0 S q M) : ouM c L M0 (b1 (fX13_readsCity M) fun M => fX13_line_b263 M) (onceR c L 0 (cityR c L) S q) := by
  have g45 := h.2.2.2.2.2.2.1.1
  unfold fX13_readsCity onceR
  rw [pu_s, g45]
  by_cases z : S.2.2.testBit 0 = true
  · rw [if_pos z, if_pos z, if_neg (by decide)]
    obtain ⟨M1, s1, s2, -⟩ := h.wr (e := 5) (by decide) (by decide)
    refine ouF.cl ⟨M1, ?_, s2⟩
    unfold fX13_readsCity_b12
    rw [show fX13_wrong M 5 = some M1 from s1, b1_s, s2.g, b1_s, if_pos rfl]
  · rw [if_neg z, if_neg z, if_pos rfl]
    have h1 : pM c L M0 (S.1, S.2.1, S.2.2 ||| 2 ^ 0) q (sI M 103 45 1) := by
      refine putM h (fun a j z => by rw [gI_sI, if_neg (by omega)]) rfl (h.2.2.2.2.1.mv (Nat.le_refl _) fun a j z => by rw [gI_sI, if_neg (by omega)]) ((rA_mv fun j => gI_sa (by decide)).trans h.2.2.2.2.2.1) ⟨?_, ?_⟩ (frR.rf.st (by omega))
      · show _ = if (S.2.2 ||| 2 ^ 0).testBit 0 = true then (1 : Int32) else 0
        rw [gI_ss, msk_or hm (by decide) 0 (by decide), if_pos rfl]
      · show _ = if (S.2.2 ||| 2 ^ 0).testBit 4 = true then (1 : Int32) else 0
        rw [gI_sj (by decide), msk_or hm (by decide) 4 (by decide), if_neg (by decide)]
        exact h.2.2.2.2.2.2.1.2
    obtain ⟨M2, s1, s2, -⟩ := h1.go
    have e : cityR c L (S.1, S.2.1, S.2.2 ||| 2 ^ 0) (tN c L q) = eb (eb (numR c L 0 999 (tN c L q)) fun a => eb (numR c L 0 99 a.2) fun b => eb (numR c L 0 999 b.2) fun d => .ok ((S.1, upd (upd (upd S.2.1 0 (nI a.1)) 1 (nI b.1)) 2 (nI d.1), S.2.2 ||| 2 ^ 0), d.2)) fun v => closeR c L v.1 v.2 := by
      unfold cityR
      simp only [eb_eb, eb_s]
    rw [e]
    refine ouM.cl ?_
    unfold fX13_readsCity_b12
    rw [h.g, b1_s, if_neg (by decide), pu_s, s1, b1_s]
    refine numK (lo := 0) (hi := 999) s2 (by decide) (by decide) (fun w N e hN hf => ?_) fun a N1 _ n1 _ => ?_
    · exact ouF_st (i := 0) hN (by decide) (by decide) (by decide) fun N2 h2 => ouF_num h2 fun w2 => ouF_st (i := 1) h2 (by decide) (by decide) (by decide) fun N3 h3 => ouF_num h3 fun w3 => ouF_st (i := 2) h3 (by decide) (by decide) (by decide) fun N4 h4 => ⟨N4, rfl, h4⟩
    · rw [st129.1]
      refine numK (lo := 0) (hi := 99) (n1.row (by decide)) (by decide) (by decide) (fun w N e hN hf => ?_) fun b N2 _ n2 _ => ?_
      · exact ouF_st (i := 1) hN (by decide) (by decide) (by decide) fun N3 h3 => ouF_num h3 fun w3 => ouF_st (i := 2) h3 (by decide) (by decide) (by decide) fun N4 h4 => ⟨N4, rfl, h4⟩
      · rw [st129.2.1]
        refine numK (lo := 0) (hi := 999) (n2.row (by decide)) (by decide) (by decide) (fun w N e hN hf => ?_) fun d N3 _ n3 _ => ?_
        · exact ouF_st (i := 2) hN (by decide) (by decide) (by decide) fun N4 h4 => ⟨N4, rfl, h4⟩
        · rw [st129.2.2.1]
          exact ⟨_, rfl, n3.row (by decide)⟩
theorem termM {c : Nat → Nat} {L : Nat} {M0 : Mem} {S : LNS} {q : Nat} {M : Mem} (hm : S.2.2 < 128) (h : pM c L M0 S q M) : ouM c L M0 (pu (gI M 103 46) fun vq22 => if vq22 = 0 then fX13_line_b85 M else b1 (fX13_wrong M 5) fun Mq29 => fX13_line_b85 Mq29) (onceR c L 4 (termLR c L) S q) := by
  have g46 := h.2.2.2.2.2.2.1.2
  unfold onceR
  rw [pu_s, g46]
  by_cases z : S.2.2.testBit 4 = true
  · rw [if_pos z, if_pos z, if_neg (by decide)]
    obtain ⟨M1, s1, s2, -⟩ := h.wr (e := 5) (by decide) (by decide)
    refine ⟨M1, ?_, s2⟩
    unfold fX13_line_b85
    rw [show fX13_wrong M 5 = some M1 from s1, b1_s, s2.g, b1_s, if_pos rfl]
  · rw [if_neg z, if_neg z, if_pos rfl]
    have h1 : pM c L M0 (S.1, S.2.1, S.2.2 ||| 2 ^ 4) q (sI M 103 46 1) := by
      refine putM h (fun a j z => by rw [gI_sI, if_neg (by omega)]) rfl (h.2.2.2.2.1.mv (Nat.le_refl _) fun a j z => by rw [gI_sI, if_neg (by omega)]) ((rA_mv fun j => gI_sa (by decide)).trans h.2.2.2.2.2.1) ⟨?_, ?_⟩ (frR.rf.st (by omega))
      · show _ = if (S.2.2 ||| 2 ^ 4).testBit 0 = true then (1 : Int32) else 0
        rw [gI_sj (by decide), msk_or hm (by decide) 0 (by decide), if_neg (by decide)]
        exact h.2.2.2.2.2.2.1.1
      · show _ = if (S.2.2 ||| 2 ^ 4).testBit 4 = true then (1 : Int32) else 0
        rw [gI_ss, msk_or hm (by decide) 4 (by decide), if_pos rfl]
    obtain ⟨M2, s1, s2, -⟩ := h1.go
    unfold fX13_line_b85 termLR
    rw [h.g, b1_s, if_neg (by decide), pu_s, s1, b1_s]
    refine numK (lo := 1) (hi := 5) s2 (by decide) (by decide) (fun w N e hN hf => ?_) fun a N1 _ n1 _ => ?_
    · exact ouF_st (i := 12) hN (by decide) (by decide) (by decide) fun N2 h2 => h2.cl
    · rw [st129.2.2.2]
      exact closeM (n1.row (by decide))
theorem deedM {c : Nat → Nat} {L : Nat} {M0 : Mem} {S : LNS} {q : Nat} {M : Mem} (hn : aN S.1 0 ≤ 7) (h : pM c L M0 S q M) : ouM c L M0 (b1 (fX13_readsDeed M) fun M => fX13_line_b263 M) (belR c L 0 7 (deedR c L) S q) := by
  have g33 : gI M 103 33 = nI (aN S.1 0) := h.2.2.2.2.1.1.1
  unfold fX13_readsDeed belR
  rw [pu_s, g33]
  by_cases z : aN S.1 0 < 7
  · rw [if_pos z, if_neg (by rw [show (7 : Int32) = nI 7 from rfl, eq_nI (by omega) (by omega)]; omega)]
    obtain ⟨M2, s1, s2, -⟩ := h.go
    have e : deedR c L S (tN c L q) = eb (eb (numR c L 0 99 (tN c L q)) fun a => eb (sgnR c L 20 a.2) fun b => eb (sgnR c L 99 b.2) fun d => eb (sgnR c L 20 d.2) fun e => .ok ((deedA S.1 (nI a.1) b.1 d.1 e.1, S.2.1, S.2.2), e.2)) fun v => closeR c L v.1 v.2 := by
      unfold deedR
      simp only [eb_eb, eb_s]
    rw [e]
    refine ouM.cl ?_
    unfold fX13_readsDeed_b14
    have hz : ∀ {N1 N2 : Mem}, gI N1 103 33 = nI (aN S.1 0) → frNb N1 N2 → gI N2 103 33 = nI (aN S.1 0) := fun y f => (f 103 33 (fun _ => by decide)).trans y
    have gn : ∀ {q' : Nat} {N : Mem}, pM c L M0 S q' N → gI N 103 33 = nI (aN S.1 0) := fun h' => h'.2.2.2.2.1.1.1
    rw [h.g, b1_s, if_neg (by decide), s1, b1_s, pu_s, gn s2]
    refine numK (lo := 0) (hi := 99) s2 (by decide) (by decide) (fun w N e hN hf => ?_) fun a N1 _ n1 _ => ?_
    · have g := hz (gn s2) hf
      rw [stI_nI z (by decide), pu_s, gI_sa (by decide), g]
      have h0 := hN.st (a := 118) (i := aN S.1 0) (v := w) (Or.inr (by decide))
      obtain ⟨w1, hw1⟩ := h0.sgn (nI 20)
      rw [show fX13_signed _ 20 = some (w1, _) from hw1, b2_s]
      replace g : gI (sI _ 118 (aN S.1 0) w) 103 33 = nI (aN S.1 0) := (gI_sa (by decide)).trans g
      rw [stI_nI z (by decide), pu_s, gI_sa (by decide), g]
      have h1 := h0.st (a := 119) (i := aN S.1 0) (v := w1) (Or.inr (by decide))
      obtain ⟨w2, hw2⟩ := h1.sgn (nI 99)
      rw [show fX13_signed _ 99 = some (w2, _) from hw2, b2_s]
      replace g : gI (sI _ 119 (aN S.1 0) w1) 103 33 = nI (aN S.1 0) := (gI_sa (by decide)).trans g
      rw [stI_nI z (by decide), pu_s, gI_sa (by decide), g]
      have h2 := h1.st (a := 120) (i := aN S.1 0) (v := w2) (Or.inr (by decide))
      obtain ⟨w3, hw3⟩ := h2.sgn (nI 20)
      rw [show fX13_signed _ 20 = some (w3, _) from hw3, b2_s]
      replace g : gI (sI _ 120 (aN S.1 0) w2) 103 33 = nI (aN S.1 0) := (gI_sa (by decide)).trans g
      rw [stI_nI z (by decide)]
      have h3 := h2.st (a := 121) (i := aN S.1 0) (v := w3) (Or.inr (by decide))
      rw [h3.g, b1_s, if_pos rfl]
      exact ⟨_, rfl, h3⟩
    · rw [stI_nI z (by decide)]
      have n1' := n1.arr (a := 118) (i := aN S.1 0) (v := nI a.1) (by decide) (fun _ => Nat.le_refl _) (by omega) (by omega) (by omega) (by omega)
      rw [pu_s, gn n1']
      refine sgnK (m := 20) n1' (by decide) (fun w N e hN hf => ?_) fun b N2 _ n2 f2 => ?_
      · have g := hz (gn n1') hf
        rw [stI_nI z (by decide), pu_s, gI_sa (by decide), g]
        have h1 := hN.st (a := 119) (i := aN S.1 0) (v := w) (Or.inr (by decide))
        obtain ⟨w2, hw2⟩ := h1.sgn (nI 99)
        rw [show fX13_signed _ 99 = some (w2, _) from hw2, b2_s]
        replace g : gI (sI _ 119 (aN S.1 0) w) 103 33 = nI (aN S.1 0) := (gI_sa (by decide)).trans g
        rw [stI_nI z (by decide), pu_s, gI_sa (by decide), g]
        have h2 := h1.st (a := 120) (i := aN S.1 0) (v := w2) (Or.inr (by decide))
        obtain ⟨w3, hw3⟩ := h2.sgn (nI 20)
        rw [show fX13_signed _ 20 = some (w3, _) from hw3, b2_s]
        replace g : gI (sI _ 120 (aN S.1 0) w2) 103 33 = nI (aN S.1 0) := (gI_sa (by decide)).trans g
        rw [stI_nI z (by decide)]
        have h3 := h2.st (a := 121) (i := aN S.1 0) (v := w3) (Or.inr (by decide))
        rw [h3.g, b1_s, if_pos rfl]
        exact ⟨_, rfl, h3⟩
      · rw [stI_nI z (by decide)]
        have n2' := n2.arr (a := 119) (i := aN S.1 0) (v := b.1) (by decide) (fun _ => Nat.le_refl _) (by omega) (by omega) (by omega) (by omega)
        rw [pu_s, gn n2']
        refine sgnK (m := 99) n2' (by decide) (fun w N e hN hf => ?_) fun d N3 _ n3 f3 => ?_
        · have g := hz (gn n2') hf
          rw [stI_nI z (by decide), pu_s, gI_sa (by decide), g]
          have h2 := hN.st (a := 120) (i := aN S.1 0) (v := w) (Or.inr (by decide))
          obtain ⟨w3, hw3⟩ := h2.sgn (nI 20)
          rw [show fX13_signed _ 20 = some (w3, _) from hw3, b2_s]
          replace g : gI (sI _ 120 (aN S.1 0) w) 103 33 = nI (aN S.1 0) := (gI_sa (by decide)).trans g
          rw [stI_nI z (by decide)]
          have h3 := h2.st (a := 121) (i := aN S.1 0) (v := w3) (Or.inr (by decide))
          rw [h3.g, b1_s, if_pos rfl]
          exact ⟨_, rfl, h3⟩
        · rw [stI_nI z (by decide)]
          have n3' := n3.arr (a := 120) (i := aN S.1 0) (v := d.1) (by decide) (fun _ => Nat.le_refl _) (by omega) (by omega) (by omega) (by omega)
          rw [pu_s, gn n3']
          refine sgnK (m := 20) n3' (by decide) (fun w N e hN hf => ?_) fun e N4 _ n4 f4 => ?_
          · have g := hz (gn n3') hf
            rw [stI_nI z (by decide)]
            have h3 := hN.st (a := 121) (i := aN S.1 0) (v := w) (Or.inr (by decide))
            rw [h3.g, b1_s, if_pos rfl]
            exact ⟨_, rfl, h3⟩
          · rw [stI_nI z (by decide)]
            have n4' := n4.arr (a := 121) (i := aN S.1 0) (v := e.1) (by decide) (fun _ => Nat.le_refl _) (by omega) (by omega) (by omega) (by omega)
            rw [n4'.g, b1_s, if_neg (by decide), pu_s, gn n4', pu_s, nI_1]
            have v0 : gI N4 118 (aN S.1 0) = nI a.1 := by rw [f4.1 _ _ (fun y => absurd y (by decide)), gI_sa (by decide), f3.1 _ _ (fun y => absurd y (by decide)), gI_sa (by decide), f2.1 _ _ (fun y => absurd y (by decide)), gI_ss]
            have v1 : gI N4 119 (aN S.1 0) = b.1 := by rw [f4.1 _ _ (fun y => absurd y (by decide)), gI_sa (by decide), f3.1 _ _ (fun y => absurd y (by decide)), gI_ss]
            have v2 : gI N4 120 (aN S.1 0) = d.1 := by rw [f4.1 _ _ (fun y => absurd y (by decide)), gI_ss]
            obtain ⟨⟨t1, t2, t3, t4, t5, t6⟩, ⟨u1, u2, u3, u4, u5⟩, top, w1, w2, w3, w4⟩ := n4'.2.2.2.2.1
            refine ⟨_, rfl, putM n4' (S' := (deedA S.1 (nI a.1) b.1 d.1 e.1, S.2.1, S.2.2)) (fun a j z => by rw [gI_sI, if_neg (by omega)]) rfl ⟨⟨gI_ss, ?_, ?_, ?_, ?_, fun b hb => ?_⟩, ⟨fun i hi => ?_, fun i hi => ?_, fun i hi => ?_, fun i hi => ?_, fun i hi => ?_⟩, top, ?_, w2, w3.mv (Nat.le_refl _) (gI_sj (by decide)) (fun _ _ => gI_sa (by decide)), w4.mv (Nat.le_refl _) (gI_sj (by decide)) (fun _ _ => gI_sa (by decide))⟩ ((rA_mv fun j => gI_sa (by decide)).trans n4'.2.2.2.2.2.1) ⟨(gI_sj (by decide)).trans n4'.2.2.2.2.2.2.1.1, (gI_sj (by decide)).trans n4'.2.2.2.2.2.2.1.2⟩ (frR.rf.st (by omega))⟩
            · rw [gI_sj (by decide)]; exact t2
            · rw [gI_sj (by decide)]; exact t3
            · rw [gI_sj (by decide)]; exact t4
            · rw [gI_sj (by decide)]; exact t5
            · rw [gI_sa (by decide), t6 b hb]
              show nI (aN S.1 (5 + b)) = nI (if 5 + b = 0 then aN S.1 0 + 1 else aN S.1 (5 + b))
              rw [if_neg (by omega)]
            · have hi' : i < aN S.1 0 + 1 := hi
              unfold deedA
              simp only [aF_N, aF_F]
              by_cases ei : i = aN S.1 0
              · subst ei
                simp [gI_sI, v0, v1, v2]
              · obtain ⟨z1, z2, z3, z4⟩ := u1 i (by omega)
                simp [gI_sI, ei] at z1 z2 z3 z4
                simp [gI_sI, ei, z1, z2, z3, z4]
            · rw [gI_sa (by decide)]; exact u2 i hi
            · rw [gI_sa (by decide)]; exact u3 i hi
            · rw [gI_sa (by decide), gI_sa (by decide)]; exact u4 i hi
            · rw [gI_sa (by decide), gI_sa (by decide)]; exact u5 i hi
            · rw [gI_sj (by decide)]; exact w1
  · rw [if_neg z, if_pos (by rw [show aN S.1 0 = 7 by omega]; rfl)]
    obtain ⟨M1, s1, s2, -⟩ := h.wr (e := 2) (by decide) (by decide)
    refine ouF.cl ⟨M1, ?_, s2⟩
    unfold fX13_readsDeed_b14
    rw [show fX13_wrong M 2 = some M1 from s1, b1_s, s2.g, b1_s, if_pos rfl]
