/-! TEXTS: friends, fighters as the reference reads them -/
theorem friM {c : Nat → Nat} {L : Nat} {M0 : Mem} {S : LNS} {q : Nat} {M : Mem} (hn : aN S.1 2 ≤ 6) (h : pM c L M0 S q M) : ouM c L M0 (b1 (fX13_readsFriend M) fun M => fX13_line_b263 M) (belR c L 2 6 (friR c L) S q) := by
  have g35 : gI M 103 35 = nI (aN S.1 2) := h.2.2.2.2.1.1.2.2.1
  unfold fX13_readsFriend belR
  rw [pu_s, g35]
  by_cases z : aN S.1 2 < 6
  · rw [if_pos z, if_neg (by rw [show (6 : Int32) = nI 6 from rfl, eq_nI (by omega) (by omega)]; omega)]
    obtain ⟨M2, s1, s2, -⟩ := h.go
    have e : friR c L S (tN c L q) = eb (eb (sgnR c L 9 (tN c L q)) fun a => eb (numR c L 0 9 a.2) fun b => .ok ((setN (setF S.1 5 (aN S.1 2) (nI b.1)) 2 (aN S.1 2 + 1), upd S.2.1 (25 + aN S.1 2) a.1, S.2.2), b.2)) fun v => closeR c L v.1 v.2 := by
      unfold friR
      simp only [eb_eb, eb_s]
    rw [e]
    refine ouM.cl ?_
    unfold fX13_readsFriend_b14
    have hz : ∀ {N1 N2 : Mem}, gI N1 103 35 = nI (aN S.1 2) → frNb N1 N2 → gI N2 103 35 = nI (aN S.1 2) := fun y f => (f 103 35 (fun _ => by decide)).trans y
    have g2 : gI M2 103 35 = nI (aN S.1 2) := s2.2.2.2.2.1.1.2.2.1
    rw [h.g, b1_s, if_neg (by decide), s1, b1_s, pu_s, g2]
    refine sgnK (m := 9) s2 (by decide) (fun w N e hN hf => ?_) fun a N1 _ n1 _ => ?_
    · have g := hz g2 hf
      rw [show (25 : Int32) + nI (aN S.1 2) = nI (25 + aN S.1 2) from nI_add 25 _, stI_nI (by omega) (by decide), pu_s, gI_sa (by decide), g]
      have h0 := hN.st (a := 129) (i := 25 + aN S.1 2) (v := w) (Or.inr (by decide))
      rw [h0.num, b2_s, stI_nI z (by decide)]
      have h1 := h0.st (a := 124) (i := aN S.1 2) (v := 0) (Or.inr (by decide))
      rw [h1.g, b1_s, if_pos rfl]
      exact ⟨_, rfl, h1⟩
    · rw [show (25 : Int32) + nI (aN S.1 2) = nI (25 + aN S.1 2) from nI_add 25 _, stI_nI (by omega) (by decide)]
      have n1' := n1.row (i := 25 + aN S.1 2) (v := a.1) (by omega)
      have g3 : gI (sI N1 129 (25 + aN S.1 2) a.1) 103 35 = nI (aN S.1 2) := n1'.2.2.2.2.1.1.2.2.1
      rw [pu_s, g3]
      refine numK (lo := 0) (hi := 9) n1' (by decide) (by decide) (fun w N e hN hf => ?_) fun b N2 _ n2 _ => ?_
      · rw [stI_nI z (by decide)]
        have h1 := hN.st (a := 124) (i := aN S.1 2) (v := w) (Or.inr (by decide))
        rw [h1.g, b1_s, if_pos rfl]
        exact ⟨_, rfl, h1⟩
      · rw [stI_nI z (by decide)]
        have n2' := n2.arr (a := 124) (i := aN S.1 2) (v := nI b.1) (by decide) (by omega) (by omega) (fun _ => Nat.le_refl _) (by omega) (by omega)
        have g4 : gI (sI N2 124 (aN S.1 2) (nI b.1)) 103 35 = nI (aN S.1 2) := n2'.2.2.2.2.1.1.2.2.1
        rw [n2'.g, b1_s, if_neg (by decide), pu_s, g4, pu_s, nI_1]
        obtain ⟨⟨t1, t2, t3, t4, t5, t6⟩, ⟨u1, u2, u3, u4, u5⟩, top, w1, w2, w3, w4⟩ := n2'.2.2.2.2.1
        refine ⟨_, rfl, putM n2' (S' := (setN (setF S.1 5 (aN S.1 2) (nI b.1)) 2 (aN S.1 2 + 1), upd S.2.1 (25 + aN S.1 2) a.1, S.2.2)) (fun a j z => by rw [gI_sI, if_neg (by omega)]) rfl ⟨⟨?_, ?_, gI_ss, ?_, ?_, fun b hb => ?_⟩, ⟨fun i hi => ?_, fun i hi => ?_, fun i hi => ?_, fun i hi => ?_, fun i hi => ?_⟩, top, ?_, w2, w3.mv (Nat.le_refl _) (gI_sj (by decide)) (fun _ _ => gI_sa (by decide)), w4.mv (Nat.le_refl _) (gI_sj (by decide)) (fun _ _ => gI_sa (by decide))⟩ ((rA_mv fun j => gI_sa (by decide)).trans n2'.2.2.2.2.2.1) ⟨(gI_sj (by decide)).trans n2'.2.2.2.2.2.2.1.1, (gI_sj (by decide)).trans n2'.2.2.2.2.2.2.1.2⟩ (frR.rf.st (by omega))⟩
        · rw [gI_sj (by decide)]; exact t1
        · rw [gI_sj (by decide)]; exact t2
        · rw [gI_sj (by decide)]; exact t4
        · rw [gI_sj (by decide)]; exact t5
        · rw [gI_sa (by decide), t6 b hb]
          show nI (aN S.1 (5 + b)) = nI (if 5 + b = 2 then aN S.1 2 + 1 else aN S.1 (5 + b))
          rw [if_neg (by omega)]
        · rw [gI_sa (by decide), gI_sa (by decide), gI_sa (by decide), gI_sa (by decide)]; exact u1 i hi
        · rw [gI_sa (by decide)]; exact u2 i hi
        · have hi' : i < aN S.1 2 + 1 := hi
          rw [gI_sa (by decide), aF_N, aF_F]
          by_cases ei : i = aN S.1 2
          · subst ei
            rw [gI_ss, if_pos ⟨rfl, rfl⟩]
          · rw [if_neg (fun y => ei y.2)]
            exact u3 i (show i < aN S.1 2 by omega)
        · rw [gI_sa (by decide), gI_sa (by decide)]; exact u4 i hi
        · rw [gI_sa (by decide), gI_sa (by decide)]; exact u5 i hi
        · rw [gI_sj (by decide)]; exact w1
  · rw [if_neg z, if_pos (by rw [show aN S.1 2 = 6 by omega]; rfl)]
    obtain ⟨M1, s1, s2, -⟩ := h.wr (e := 2) (by decide) (by decide)
    refine ouF.cl ⟨M1, ?_, s2⟩
    unfold fX13_readsFriend_b14
    rw [show fX13_wrong M 2 = some M1 from s1, b1_s, s2.g, b1_s, if_pos rfl]
theorem figM0 {c : Nat → Nat} {L : Nat} {M0 : Mem} {S : LNS} {q : Nat} {M : Mem} (hn : aN S.1 3 ≤ 7) (h : pM c L M0 S q M) : ouM c L M0 (b1 (fX13_readsFighter M 0) fun M => fX13_line_b263 M) (belR c L 3 7 (figR c L 0) S q) := by
  have gf : gI M 103 36 = nI (aN S.1 3) := h.2.2.2.2.1.1.2.2.2.1
  unfold fX13_readsFighter fX13_readsFighter_b15 belR
  rw [if_pos rfl, pu_s, gf]
  by_cases z : aN S.1 3 < 7
  · rw [if_pos z, if_neg (by rw [show (7 : Int32) = nI 7 from rfl, eq_nI (by omega) (by omega)]; omega)]
    obtain ⟨M2, s1, s2, -⟩ := h.go
    have e : figR c L 0 S (tN c L q) = eb (eb (numR c L 0 20 (tN c L q)) fun a => eb (numR c L 0 3 a.2) fun b => .ok ((setN (setF (setF S.1 6 (aN S.1 3) (nI a.1)) 7 (aN S.1 3) (nI b.1)) 3 (aN S.1 3 + 1), S.2.1, S.2.2), b.2)) fun v => closeR c L v.1 v.2 := by
      unfold figR
      simp only [eb_eb, eb_s]
    rw [e]
    refine ouM.cl ?_
    unfold fX13_readsFighter_b25
    rw [h.g, b1_s, if_neg (show ¬ (1 : Int32) = 0 by decide), s1, b1_s]
    refine numK (lo := 0) (hi := 20) s2 (by decide) (by decide) (fun w N e hN hf => ?_) fun a N1 _ n1 _ => ?_
    · rw [hN.num, b2_s, hN.g, b1_s, if_pos rfl]
      exact ⟨_, rfl, hN⟩
    · refine numK (lo := 0) (hi := 3) n1 (by decide) (by decide) (fun w N e hN hf => ?_) fun b N2 _ n2 _ => ?_
      · rw [hN.g, b1_s, if_pos rfl]
        exact ⟨_, rfl, hN⟩
      · have g2 : gI N2 103 36 = nI (aN S.1 3) := n2.2.2.2.2.1.1.2.2.2.1
        rw [n2.g, b1_s, if_neg (show ¬ (1 : Int32) = 0 by decide), if_pos (show (0 : Int32) = 0 from rfl), pu_s, g2, stI_nI z (by decide), pu_s, gI_sa (by decide), g2, stI_nI z (by decide), pu_s, gI_sa (by decide), gI_sa (by decide), g2, pu_s, nI_1]
        have n2' := (n2.arr (a := 125) (i := aN S.1 3) (v := nI a.1) (by decide) (by omega) (by omega) (by omega) (by omega) (by omega)).arr (a := 126) (i := aN S.1 3) (v := nI b.1) (by decide) (by omega) (by omega) (by omega) (by omega) (by omega)
        obtain ⟨⟨t1, t2, t3, t4, t5, t6⟩, ⟨u1, u2, u3, u4, u5⟩, top, w1, w2, w3, w4⟩ := n2'.2.2.2.2.1
        refine ⟨_, rfl, putM n2' (S' := (setN (setF (setF S.1 6 (aN S.1 3) (nI a.1)) 7 (aN S.1 3) (nI b.1)) 3 (aN S.1 3 + 1), S.2.1, S.2.2)) (fun a j z => by rw [gI_sI, if_neg (by omega)]) rfl ⟨⟨?_, ?_, ?_, gI_ss, ?_, fun b hb => ?_⟩, ⟨fun i hi => ?_, fun i hi => ?_, fun i hi => ?_, fun i hi => ?_, fun i hi => ?_⟩, top, ?_, w2, w3.mv (Nat.le_refl _) (gI_sj (by decide)) (fun _ _ => gI_sa (by decide)), w4.mv (Nat.le_refl _) (gI_sj (by decide)) (fun _ _ => gI_sa (by decide))⟩ ((rA_mv fun j => gI_sa (by decide)).trans n2'.2.2.2.2.2.1) ⟨(gI_sj (by decide)).trans n2'.2.2.2.2.2.2.1.1, (gI_sj (by decide)).trans n2'.2.2.2.2.2.2.1.2⟩ (frR.rf.st (by omega))⟩
        · rw [gI_sj (by decide)]; exact t1
        · rw [gI_sj (by decide)]; exact t2
        · rw [gI_sj (by decide)]; exact t3
        · rw [gI_sj (by decide)]; exact t5
        · rw [gI_sa (by decide), t6 b hb]
          show nI (aN S.1 (5 + b)) = nI (if 5 + b = 3 then aN S.1 3 + 1 else aN S.1 (5 + b))
          rw [if_neg (by omega)]
        · repeat rw [gI_sa (show (118 : Nat) ≠ 103 by decide)]
          repeat rw [gI_sa (show (119 : Nat) ≠ 103 by decide)]
          repeat rw [gI_sa (show (120 : Nat) ≠ 103 by decide)]
          repeat rw [gI_sa (show (121 : Nat) ≠ 103 by decide)]
          exact u1 i hi
        · rw [gI_sa (show (123 : Nat) ≠ 103 by decide)]; exact u2 i hi
        · rw [gI_sa (show (124 : Nat) ≠ 103 by decide)]; exact u3 i hi
        · have hi' : i < aN S.1 3 + 1 := hi
          rw [gI_sa (show (125 : Nat) ≠ 103 by decide), gI_sa (show (126 : Nat) ≠ 103 by decide), aF_N, aF_F, aF_F, aF_N, aF_F, aF_F]
          by_cases ei : i = aN S.1 3
          · subst ei
            simp [gI_sI]
          · obtain ⟨z1, z2⟩ := u4 i (by omega)
            rw [z1, z2]
            simp [ei]
        · rw [gI_sa (show (127 : Nat) ≠ 103 by decide), gI_sa (show (128 : Nat) ≠ 103 by decide)]; exact u5 i hi
        · rw [gI_sj (by decide)]; exact w1
  · rw [if_neg z, if_pos (by rw [show aN S.1 3 = 7 by omega]; rfl)]
    obtain ⟨M1, s1, s2, -⟩ := h.wr (e := 2) (by decide) (by decide)
    refine ouF.cl ⟨M1, ?_, s2⟩
    unfold fX13_readsFighter_b25
    rw [show fX13_wrong M 2 = some M1 from s1, b1_s, s2.g, b1_s, if_pos rfl]
theorem figM1 {c : Nat → Nat} {L : Nat} {M0 : Mem} {S : LNS} {q : Nat} {M : Mem} (hn : aN S.1 4 ≤ 7) (h : pM c L M0 S q M) : ouM c L M0 (b1 (fX13_readsFighter M 1) fun M => fX13_line_b263 M) (belR c L 4 7 (figR c L 1) S q) := by
  have gf : gI M 103 37 = nI (aN S.1 4) := h.2.2.2.2.1.1.2.2.2.2.1
  unfold fX13_readsFighter fX13_readsFighter_b15 belR
  rw [if_neg (show ¬ (1 : Int32) = 0 by decide), pu_s, gf]
  by_cases z : aN S.1 4 < 7
  · rw [if_pos z, if_neg (by rw [show (7 : Int32) = nI 7 from rfl, eq_nI (by omega) (by omega)]; omega)]
    obtain ⟨M2, s1, s2, -⟩ := h.go
    have e : figR c L 1 S (tN c L q) = eb (eb (numR c L 0 20 (tN c L q)) fun a => eb (numR c L 0 3 a.2) fun b => .ok ((setN (setF (setF S.1 8 (aN S.1 4) (nI a.1)) 9 (aN S.1 4) (nI b.1)) 4 (aN S.1 4 + 1), S.2.1, S.2.2), b.2)) fun v => closeR c L v.1 v.2 := by
      unfold figR
      simp only [eb_eb, eb_s]
    rw [e]
    refine ouM.cl ?_
    unfold fX13_readsFighter_b25
    rw [h.g, b1_s, if_neg (show ¬ (1 : Int32) = 0 by decide), s1, b1_s]
    refine numK (lo := 0) (hi := 20) s2 (by decide) (by decide) (fun w N e hN hf => ?_) fun a N1 _ n1 _ => ?_
    · rw [hN.num, b2_s, hN.g, b1_s, if_pos rfl]
      exact ⟨_, rfl, hN⟩
    · refine numK (lo := 0) (hi := 3) n1 (by decide) (by decide) (fun w N e hN hf => ?_) fun b N2 _ n2 _ => ?_
      · rw [hN.g, b1_s, if_pos rfl]
        exact ⟨_, rfl, hN⟩
      · have g2 : gI N2 103 37 = nI (aN S.1 4) := n2.2.2.2.2.1.1.2.2.2.2.1
        rw [n2.g, b1_s, if_neg (show ¬ (1 : Int32) = 0 by decide), if_neg (show ¬ (1 : Int32) = 0 by decide), pu_s, g2, stI_nI z (by decide), pu_s, gI_sa (by decide), g2, stI_nI z (by decide), pu_s, gI_sa (by decide), gI_sa (by decide), g2, pu_s, nI_1]
        have n2' := (n2.arr (a := 127) (i := aN S.1 4) (v := nI a.1) (by decide) (by omega) (by omega) (by omega) (by omega) (by omega)).arr (a := 128) (i := aN S.1 4) (v := nI b.1) (by decide) (by omega) (by omega) (by omega) (by omega) (by omega)
        obtain ⟨⟨t1, t2, t3, t4, t5, t6⟩, ⟨u1, u2, u3, u4, u5⟩, top, w1, w2, w3, w4⟩ := n2'.2.2.2.2.1
        refine ⟨_, rfl, putM n2' (S' := (setN (setF (setF S.1 8 (aN S.1 4) (nI a.1)) 9 (aN S.1 4) (nI b.1)) 4 (aN S.1 4 + 1), S.2.1, S.2.2)) (fun a j z => by rw [gI_sI, if_neg (by omega)]) rfl ⟨⟨?_, ?_, ?_, ?_, gI_ss, fun b hb => ?_⟩, ⟨fun i hi => ?_, fun i hi => ?_, fun i hi => ?_, fun i hi => ?_, fun i hi => ?_⟩, top, ?_, w2, w3.mv (Nat.le_refl _) (gI_sj (by decide)) (fun _ _ => gI_sa (by decide)), w4.mv (Nat.le_refl _) (gI_sj (by decide)) (fun _ _ => gI_sa (by decide))⟩ ((rA_mv fun j => gI_sa (by decide)).trans n2'.2.2.2.2.2.1) ⟨(gI_sj (by decide)).trans n2'.2.2.2.2.2.2.1.1, (gI_sj (by decide)).trans n2'.2.2.2.2.2.2.1.2⟩ (frR.rf.st (by omega))⟩
        · rw [gI_sj (by decide)]; exact t1
        · rw [gI_sj (by decide)]; exact t2
        · rw [gI_sj (by decide)]; exact t3
        · rw [gI_sj (by decide)]; exact t4
        · rw [gI_sa (by decide), t6 b hb]
          show nI (aN S.1 (5 + b)) = nI (if 5 + b = 4 then aN S.1 4 + 1 else aN S.1 (5 + b))
          rw [if_neg (by omega)]
        · repeat rw [gI_sa (show (118 : Nat) ≠ 103 by decide)]
          repeat rw [gI_sa (show (119 : Nat) ≠ 103 by decide)]
          repeat rw [gI_sa (show (120 : Nat) ≠ 103 by decide)]
          repeat rw [gI_sa (show (121 : Nat) ≠ 103 by decide)]
          exact u1 i hi
        · rw [gI_sa (show (123 : Nat) ≠ 103 by decide)]; exact u2 i hi
        · rw [gI_sa (show (124 : Nat) ≠ 103 by decide)]; exact u3 i hi
        · rw [gI_sa (show (125 : Nat) ≠ 103 by decide), gI_sa (show (126 : Nat) ≠ 103 by decide)]; exact u4 i hi
        · have hi' : i < aN S.1 4 + 1 := hi
          rw [gI_sa (show (127 : Nat) ≠ 103 by decide), gI_sa (show (128 : Nat) ≠ 103 by decide), aF_N, aF_F, aF_F, aF_N, aF_F, aF_F]
          by_cases ei : i = aN S.1 4
          · subst ei
            simp [gI_sI]
          · obtain ⟨z1, z2⟩ := u5 i (by omega)
            rw [z1, z2]
            simp [ei]
        · rw [gI_sj (by decide)]; exact w1
  · rw [if_neg z, if_pos (by rw [show aN S.1 4 = 7 by omega]; rfl)]
    obtain ⟨M1, s1, s2, -⟩ := h.wr (e := 2) (by decide) (by decide)
    refine ouF.cl ⟨M1, ?_, s2⟩
    unfold fX13_readsFighter_b25
    rw [show fX13_wrong M 2 = some M1 from s1, b1_s, s2.g, b1_s, if_pos rfl]
