/-! QUESTIONS: brother, friend -/
def fB (y : Nat → Bool) : Nat → Int32
  | 0 => 0
  | n + 1 => if y n = true then fB y n ||| shl1 n else fB y n
theorem fB_congr {y y' : Nat → Bool} : ∀ (n : Nat), (∀ i, i < n → y i = y' i) → fB y n = fB y' n := by
  intro n
  induction n with
  | zero => intro _; rfl
  | succ n ih =>
    intro h
    rw [fB, fB, h n (by omega), ih (fun i hi => h i (by omega))]
theorem fB_bit6 : ∀ b0 b1 b2 b3 b4 b5 : Bool, ∀ n, n < 7 → ∀ f, f < n → ((fB (fun i => [b0, b1, b2, b3, b4, b5].getD i false) n) >>> ((nI f) &&& 31 : Int32)) &&& 1 = if [b0, b1, b2, b3, b4, b5].getD f false = true then 1 else 0 := by decide +kernel
theorem fB_bit {y : Nat → Bool} {n f : Nat} (hn : n ≤ 6) (hf : f < n) : ((fB y n) >>> ((nI f) &&& 31 : Int32)) &&& 1 = if y f = true then 1 else 0 := by
  have e : ∀ i, i < 6 → y i = [y 0, y 1, y 2, y 3, y 4, y 5].getD i false := fun i hi => by
    rcases (show i = 0 ∨ i = 1 ∨ i = 2 ∨ i = 3 ∨ i = 4 ∨ i = 5 by omega) with h | h | h | h | h | h <;> subst h <;> rfl
  rw [fB_congr n (fun i hi => e i (by omega)), e f (by omega)]
  exact fB_bit6 _ _ _ _ _ _ n (by omega) f hf
theorem folN_fB {A : LA} {r : Nat → Int32} : ∀ n, folN A r 1 n = fB (fun i => youR A r i 0 0) n := by
  intro n
  induction n with
  | zero => rfl
  | succ n ih =>
    rw [folN, fB, ih]
    rfl
theorem liking0_ok {A : LA} {M : Mem} {k f who : Nat} (hL : LandC A M) (hc : aC A 1 = []) (hk : kd k = 2) (hf : f < 6) (hw : who < 2) :
    ∃ M', fX7_liking M k (nI f) (nI who) = some (0, M') ∧ frL M M' := by
  have hkk := city_cases hk
  obtain ⟨hL4, hl⟩ := hL
  have hLc := land_cases hL4
  generalize hLL : gR M 28 0 = L at hL4 hl hLc
  obtain ⟨s, q1, q2, q3, q4⟩ := hl.2.2.2.2.2.2.2.2.2.2.2.2.2.1
  have g28 : ∀ {M1 : Mem} {a j : Nat} {v : Int32}, gR (sI M1 a j v) 28 0 = gR M1 28 0 := gR_sI
  rw [hc] at q2 q3
  have fin : ∀ (u v w9 : Int32), ∃ M', fX7_liking_b56 (sI (sI M 47 0 u) 47 1 v) k w9 2 = some (0, M') ∧ frL M M' := by
    intro u v w9
    have hfr : frL M (sI (sI (sI (sI (sI M 47 0 u) 47 1 v) 47 2 w9) 47 3 (gI M k 0)) 47 4 (gI M k 2)) := ((((frL.rf.st (by omega)).st (by omega)).st (by omega)).st (by omega)).st (by omega)
    refine ⟨_, ?_, hfr⟩
    unfold fX7_liking_b56
    rw [ck_t hk, show (2 : Int32) = nI 2 from rfl, show (3 : Int32) = nI 3 from rfl, show (4 : Int32) = nI 4 from rfl]
    simp (disch := omega) only [stI_nI, pu_s, gI_sa, g28, hLL, ck_t hL4]
    unfold fX8_evaluate
    rw [ck_t (rcT_land hL4).2.2.2, ck_t (show kd 47 = 20 by decide), ck_t (show kd 48 = 20 by decide), pu_s, show FU = 99999 + 1 from rfl, fX8_evaluate_l8, ck_t (rcT_land hL4).2.2.2, ck_t (show kd 47 = 20 by decide), ck_t (show kd 48 = 20 by decide), pu_s]
    rw [hfr.1 _ 1 (by omega) (by omega), hfr.1 _ 2 (by omega) (by omega), q1, q2, if_neg (by rw [lt_nI (by omega) (by omega)]; simp), if_neg (by decide), b2_s]
  have mid : ∀ u v : Int32, ∃ M', fX7_liking_b30 (sI M 47 0 u) k (nI f) (nI who) v 1 = some (0, M') ∧ frL M M' := by
    intro u v
    unfold fX7_liking_b30
    rw [ck_t hk, show (1 : Int32) = nI 1 from rfl, stI_nI (by decide) (by decide), ldI_nI (by omega) (by decide), ldI_nI (by omega) (by decide)]
    by_cases h0 : who = 0
    · rw [if_pos (by rw [h0]; exact nI_0)]
      exact fin u v _
    · rw [if_neg (nI_ne0 (by omega) (by omega))]
      exact fin u v _
  unfold fX7_liking
  rw [ck_t hk, ldI_nI hw (by decide), show (0 : Int32) = nI 0 from rfl, stI_nI (by decide) (by decide), pu_s]
  split
  · exact mid _ 1
  · exact mid _ 0
theorem brother_q {A : LA} {M : Mem} (h : Rel A M) (x y : Int32) : qC (fX12_brother M x y) (fun M1 => fX13_brother M1 x y) M := by
  by_cases hx : x = 0 ∨ x = 1
  · obtain ⟨b, hb, e⟩ := bro_of hx
    have hc : fX12_needBrother M x = some (.ok ()) := by rw [needBrother_eq, if_pos hx]
    by_cases hy : y < 0 ∨ (5 : Int32) < y
    · have hne := out_ne (n := 5) hy (by decide)
      refine ⟨.error 1, ?_, fun M1 f => ?_⟩
      · show fX12_brother M x y = _
        unfold fX12_brother
        rw [hc, bE_ok, if_neg (show ¬ y = 0 from hne 0 (by decide)), if_neg (show ¬ y = 1 from hne 1 (by decide)), if_neg (show ¬ y = 2 from hne 2 (by decide)), if_neg (show ¬ y = 3 from hne 3 (by decide)), if_neg (show ¬ y = 4 from hne 4 (by decide)), if_neg (show ¬ y = 5 from hne 5 (by decide))]
      · show simM (fX13_brother M1 _ _) M1 _
        unfold fX13_brother
        rw [pu_s, isBrother_eq m00, if_pos hx, b2_s, if_neg (by decide), isWhat_eq m00, if_pos hy, b2_s, if_pos rfl]
        exact sM_er M0_ro
    · obtain ⟨k, hk, ek⟩ := lt_of (n := 5) hy (by decide)
      have hm : ∀ M1, fX13_brother M1 x y = if y = 0 then ldI (sI M1 103 0 0) 133 186 (6 + x) fun v => some (v, sI M1 103 0 0) else if y = 1 then ldI (sI M1 103 0 0) 133 186 (10 + x) fun v => some (v, sI M1 103 0 0) else if y = 2 then ldI (sI M1 103 0 0) 108 2 x fun v => some (v, sI M1 103 0 0) else if y = 3 then b2 (fX13_followers (sI M1 103 0 0) 0 x) fun v N => some (v, N) else if y = 4 then b2 (fX13_followers (sI M1 103 0 0) 0 x) fun v N => b1 (fX13_menOf N v) fun w => some (w, N) else b1 (fX13_wayOf (sI M1 103 0 0) 0 x) fun v => some (v, sI M1 103 0 0) := fun M1 => by
        unfold fX13_brother
        rw [pu_s, isBrother_eq m00, if_pos hx, b2_s, if_neg (by decide), isWhat_eq m00, if_neg hy, b2_s, if_neg (by decide)]
      have hcl : fX12_brother M x y = if y = 0 then ldI M 83 2 x fun v => some (.ok (v, M)) else if y = 1 then ldI M 82 2 x fun v => some (.ok (v, M)) else if y = 2 then pu (gR M 28 0) fun o => ck (kd o = 4) <| ldI M (o + 5) 2 x fun v => some (.ok (v, M)) else if y = 3 then b2 (fX7_followers M 81 x) fun v N => some (.ok (v, N)) else if y = 4 then b2 (fX7_followers M 81 x) fun v N => b1 (fX7_menOf N v) fun w => some (.ok (w, N)) else if y = 5 then b1 (fX7_wayDeed M 81 x) fun v => some (.ok (v, M)) else some (.error 1) := by
        unfold fX12_brother
        rw [hc, bE_ok]
      obtain ⟨yy, hyy, y3, hR⟩ := h.2.2.2.2.1
      have hRC : okR A yy (20 * yy) (rC M 81) := by rw [rC81 h]; exact hR
      have k81 : kd 81 = 2 := by decide
      obtain ⟨N, n1, n2⟩ := fol_ok h.2.1 h.1 k81 hRC hb
      have nL : LandC A N := h.2.1.k n2.K
      have hMf : ∀ M1, RO M M1 → ∃ N', fX13_followers (sI M1 103 0 0) 0 (nI b) = some (folN A (rB M 0) b (aN A 2), N') ∧ RO M1 N' ∧ gI N' 103 0 = 0 ∧ LandM A N' := fun M1 f => by
        obtain ⟨N', p1, p2⟩ := followers_ok (b := 0) (m0L (h.ro f).2.2.1) h.1 (by decide) hb
        refine ⟨N', ?_, M0_ro.tr p2.RO, ?_, (m0L (h.ro f).2.2.1).frT p2⟩
        · rw [show (0 : Int32) = nI 0 from rfl] at p1 ⊢
          rw [p1, show rB (sI M1 103 0 (nI 0)) 0 = rB M1 0 from M0_ro.rB, f.rB]
        · rw [p2.1 103 0 (by decide) (by decide)]; exact m00
      rw [rC81 h] at n1
      subst e
      subst ek
      rcases (show k = 0 ∨ k = 1 ∨ k = 2 ∨ k = 3 ∨ k = 4 ∨ k = 5 by omega) with q | q | q | q | q | q <;> subst q
      · refine ⟨.ok (rB M 0 (6 + b)), ⟨M, ?_, RO.rf⟩, fun M1 f => ?_⟩
        · rw [hcl, if_pos (show nI 0 = 0 by decide), ldI_nI hb (by decide), show (83 : Nat) = 81 + 2 from rfl, gC_a2 hb, rC81 h]
        · show simM (fX13_brother M1 _ _) M1 _
          rw [hm, if_pos (show nI 0 = 0 by decide), show (6 : Int32) = nI 6 from rfl, nI_add, ldI_nI (by omega) (by decide), gI_sa (by decide), gB0 (by omega), f.rB]
          exact sM_ok M0_ro m00
      · refine ⟨.ok (rB M 0 (10 + b)), ⟨M, ?_, RO.rf⟩, fun M1 f => ?_⟩
        · rw [hcl, if_neg (show ¬ nI 1 = 0 by decide), if_pos (show nI 1 = 1 by decide), ldI_nI hb (by decide), show (82 : Nat) = 81 + 1 from rfl, gC_a1 hb, rC81 h]
        · show simM (fX13_brother M1 _ _) M1 _
          rw [hm, if_neg (show ¬ nI 1 = 0 by decide), if_pos (show nI 1 = 1 by decide), show (10 : Int32) = nI 10 from rfl, nI_add, ldI_nI (by omega) (by decide), gI_sa (by decide), gB0 (by omega), f.rB]
          exact sM_ok M0_ro m00
      · refine ⟨.ok (nI (aN A (5 + b))), ⟨M, ?_, RO.rf⟩, fun M1 f => ?_⟩
        · rw [hcl, if_neg (show ¬ nI 2 = 0 by decide), if_neg (show ¬ nI 2 = 1 by decide), if_pos (show nI 2 = 2 by decide), pu_s, ck_t h.2.1.1, ldI_nI hb (by decide), wayLen h.2.1 hb]
        · show simM (fX13_brother M1 _ _) M1 _
          rw [hm, if_neg (show ¬ nI 2 = 0 by decide), if_neg (show ¬ nI 2 = 1 by decide), if_pos (show nI 2 = 2 by decide), ldI_nI hb (by decide), wayLenM (m0L (h.ro f).2.2.1) hb]
          exact sM_ok M0_ro m00
      · refine ⟨.ok (folN A (rB M 0) b (aN A 2)), ⟨N, ?_, n2.K.RO⟩, fun M1 f => ?_⟩
        · rw [hcl, if_neg (show ¬ nI 3 = 0 by decide), if_neg (show ¬ nI 3 = 1 by decide), if_neg (show ¬ nI 3 = 2 by decide), if_pos (show nI 3 = 3 by decide), n1, b2_s]
        · show simM (fX13_brother M1 _ _) M1 _
          obtain ⟨N', p1, p2, p3, p4⟩ := hMf M1 f
          rw [hm, if_neg (show ¬ nI 3 = 0 by decide), if_neg (show ¬ nI 3 = 1 by decide), if_neg (show ¬ nI 3 = 2 by decide), if_pos (show nI 3 = 3 by decide), p1, b2_s]
          exact sM_ok p2 p3
      · refine ⟨.ok (menN A (folN A (rB M 0) b (aN A 2)) (aN A 2)), ⟨N, ?_, n2.K.RO⟩, fun M1 f => ?_⟩
        · rw [hcl, if_neg (show ¬ nI 4 = 0 by decide), if_neg (show ¬ nI 4 = 1 by decide), if_neg (show ¬ nI 4 = 2 by decide), if_neg (show ¬ nI 4 = 3 by decide), if_pos (show nI 4 = 4 by decide), n1, b2_s, menC_ok h.1 nL, b1_s]
        · show simM (fX13_brother M1 _ _) M1 _
          obtain ⟨N', p1, p2, p3, p4⟩ := hMf M1 f
          rw [hm, if_neg (show ¬ nI 4 = 0 by decide), if_neg (show ¬ nI 4 = 1 by decide), if_neg (show ¬ nI 4 = 2 by decide), if_neg (show ¬ nI 4 = 3 by decide), if_pos (show nI 4 = 4 by decide), p1, b2_s, men_ok h.1 p4, b1_s]
          exact sM_ok p2 p3
      · obtain ⟨m, hm1, hm2⟩ : ∃ m : Nat, rB M 0 (10 + b) = nI m ∧ m < 2 ^ 31 := by
          rcases (show b = 0 ∨ b = 1 by omega) with q | q <;> subst q
          · obtain ⟨m, q1, q2⟩ := hR.2.2.2.2.2.2.2.2.1
            exact ⟨m, q2, by omega⟩
          · obtain ⟨m, q1, q2⟩ := hR.2.2.2.2.2.2.2.2.2.1
            exact ⟨m, q2, by omega⟩
        refine ⟨.ok (wayR A (rB M 0) b), ⟨M, ?_, RO.rf⟩, fun M1 f => ?_⟩
        · rw [hcl, if_neg (show ¬ nI 5 = 0 by decide), if_neg (show ¬ nI 5 = 1 by decide), if_neg (show ¬ nI 5 = 2 by decide), if_neg (show ¬ nI 5 = 3 by decide), if_neg (show ¬ nI 5 = 4 by decide), if_pos (show nI 5 = 5 by decide), wayC_ok h.2.1 h.1 k81 hb hRC (by omega), b1_s, rC81 h]
        · show simM (fX13_brother M1 _ _) M1 _
          have e0 : rB (sI M1 103 0 0) 0 = rB M 0 := by rw [show rB (sI M1 103 0 0) 0 = rB M1 0 from M0_ro.rB, f.rB]
          rw [hm, if_neg (show ¬ nI 5 = 0 by decide), if_neg (show ¬ nI 5 = 1 by decide), if_neg (show ¬ nI 5 = 2 by decide), if_neg (show ¬ nI 5 = 3 by decide), if_neg (show ¬ nI 5 = 4 by decide), show fX13_wayOf (sI M1 103 0 0) 0 (nI b) = _ from way_ok (b := 0) (m0L (h.ro f).2.2.1) h.1 (by decide) hb (by rw [e0]; exact hm1) hm2, b1_s, e0]
          exact sM_ok M0_ro m00
  · refine ⟨.error 1, ?_, fun M1 f => ?_⟩
    · show fX12_brother M x y = _
      unfold fX12_brother
      rw [needBrother_eq, if_neg hx, bE_er]
    · show simM (fX13_brother M1 _ _) M1 _
      unfold fX13_brother
      rw [pu_s, isBrother_eq m00, if_neg hx, b2_s, if_pos rfl]
      exact sM_er M0_ro
theorem friend_q {A : LA} {M : Mem} (h : Rel A M) (x y : Int32) : qC (fX12_friend M x y) (fun M1 => fX13_friend M1 x y) M := by
  have h6 : aN A 2 ≤ 6 := h.1.2.2.1
  by_cases hx : x < 0 ∨ ¬ x < nI (aN A 2)
  · refine ⟨.error 1, ?_, fun M1 f => ?_⟩
    · show fX12_friend M x y = _
      unfold fX12_friend
      rw [needFriend_eq h.2.1, if_pos hx, bE_er]
    · show simM (fX13_friend M1 _ _) M1 _
      unfold fX13_friend
      rw [pu_s, isFriend_eq (m0L (h.ro f).2.2.1) m00, if_pos hx, b2_s, if_pos rfl]
      exact sM_er M0_ro
  · obtain ⟨d, hd, e⟩ := in_of hx (by omega)
    have hc : fX12_needFriend M x = some (.ok ()) := by rw [needFriend_eq h.2.1, if_neg hx]
    by_cases hy : y < 0 ∨ (4 : Int32) < y
    · have hne := out_ne (n := 4) hy (by decide)
      refine ⟨.error 1, ?_, fun M1 f => ?_⟩
      · show fX12_friend M x y = _
        unfold fX12_friend
        rw [hc, bE_ok, if_neg (show ¬ y = 0 from hne 0 (by decide)), if_neg (show ¬ y = 1 from hne 1 (by decide)), if_neg (show ¬ y = 2 from hne 2 (by decide)), if_neg (show ¬ y = 3 from hne 3 (by decide)), if_neg (show ¬ y = 4 from hne 4 (by decide))]
      · show simM (fX13_friend M1 _ _) M1 _
        unfold fX13_friend
        rw [pu_s, isFriend_eq (m0L (h.ro f).2.2.1) m00, if_neg hx, b2_s, if_neg (by decide), isWhat_eq m00, if_pos hy, b2_s, if_pos rfl]
        exact sM_er M0_ro
    · obtain ⟨k, hk, ek⟩ := lt_of (n := 4) hy (by decide)
      have hm : ∀ M1, RO M M1 → fX13_friend M1 x y = if y < 3 then (if y = 0 then ldI (sI M1 103 0 0) 133 186 (25 + x) fun v => some (v, sI M1 103 0 0) else if y = 1 then ldI (sI M1 103 0 0) 110 6 x fun v => some (v, sI M1 103 0 0) else b2 (fX13_follows (sI M1 103 0 0) 0 x 0 0) fun v N => some (v, N)) else pu (gI (sI M1 103 0 0) 103 7) fun v6 => if v6 = (-1) then some (0, sI M1 103 0 0) else b2 (fX13_likeOf (sI M1 103 0 0) 0 x (y - 3) 0) fun v N => some (v, N) := fun M1 f => by
        unfold fX13_friend
        rw [pu_s, isFriend_eq (m0L (h.ro f).2.2.1) m00, if_neg hx, b2_s, if_neg (by decide), isWhat_eq m00, if_neg hy, b2_s, if_neg (by decide)]
      have hcl : fX12_friend M x y = if y = 0 then ldI M 85 6 x fun v => some (.ok (v, M)) else if y = 1 then pu (gR M 28 0) fun o => ck (kd o = 4) <| ldI M (o + 7) 6 x fun v => some (.ok (v, M)) else if y = 2 then b2 (fX7_followers M 81 1) fun v N => some (.ok (((v : Int32) >>> (x &&& 31 : Int32)) &&& 1, N)) else if y = 3 then b2 (fX7_liking M 81 x 0) fun v N => some (.ok (v, N)) else if y = 4 then b2 (fX7_liking M 81 x 1) fun v N => some (.ok (v, N)) else some (.error 1) := by
        unfold fX12_friend
        rw [hc, bE_ok]
      obtain ⟨yy, hyy, y3, hR⟩ := h.2.2.2.2.1
      have hRC : okR A yy (20 * yy) (rC M 81) := by rw [rC81 h]; exact hR
      have k81 : kd 81 = 2 := by decide
      subst e
      subst ek
      -- the liking of either
      have like : ∀ who, who < 2 → ∃ v, (∃ N, fX7_liking M 81 (nI d) (nI who) = some (v, N) ∧ RO M N) ∧ ∀ M1, RO M M1 → ∃ N, (pu (gI (sI M1 103 0 0) 103 7) fun v6 => if v6 = (-1) then some (0, sI M1 103 0 0) else b2 (fX13_likeOf (sI M1 103 0 0) 0 (nI d) (nI who) 0) fun v N => some (v, N)) = some (v, N) ∧ RO M1 N ∧ gI N 103 0 = 0 := fun who hw => by
        by_cases hcA : aC A 1 = []
        · obtain ⟨N, p1, p2⟩ := liking0_ok (f := d) h.2.1 hcA k81 (by omega) hw
          refine ⟨0, ⟨N, p1, p2.K.RO⟩, fun M1 f => ⟨_, ?_, M0_ro, m00⟩⟩
          have hl7 := (m0L (h.ro f).2.2.1).2.2.2.2.2.2.2.2.2.2.2.2.2.1
          unfold ruleM at hl7
          rw [if_pos hcA] at hl7
          rw [pu_s, hl7, if_pos rfl]
        · obtain ⟨N, p1, p2⟩ := liking_ok (f := d) h.2.1 h.1 hcA k81 hRC (by omega) hw
          rw [rC81 h] at p1
          refine ⟨_, ⟨N, p1, p2.K.RO⟩, fun M1 f => ?_⟩
          have e0 : rB (sI M1 103 0 0) 0 = rB M 0 := by rw [show rB (sI M1 103 0 0) 0 = rB M1 0 from M0_ro.rB, f.rB]
          obtain ⟨N', r1, r2⟩ := like_ok (b := 0) (f := d) (more := 0) (m0L (h.ro f).2.2.1) h.1 hcA (by decide) (by omega) hw
          rw [e0] at r1
          refine ⟨N', ?_, M0_ro.tr r2.RO, by rw [r2.1 103 0 (by decide) (by decide)]; exact m00⟩
          have hl7 := (m0L (h.ro f).2.2.1).2.2.2.2.2.2.2.2.2.2.2.2.2.1
          unfold ruleM at hl7
          rw [if_neg hcA] at hl7
          obtain ⟨p, hp, hat, -⟩ := hl7
          rw [pu_s, hat, if_neg (nI_neg1 (by omega)), show fX13_likeOf (sI M1 103 0 0) 0 (nI d) (nI who) 0 = _ from r1, b2_s]
      rcases (show k = 0 ∨ k = 1 ∨ k = 2 ∨ k = 3 ∨ k = 4 by omega) with q | q | q | q | q <;> subst q
      · refine ⟨.ok (rB M 0 (25 + d)), ⟨M, ?_, RO.rf⟩, fun M1 f => ?_⟩
        · rw [hcl, if_pos (show nI 0 = 0 by decide), ldI_nI (by omega) (by decide), show (85 : Nat) = 81 + 4 from rfl, gC_a4 (by omega), rC81 h]
        · show simM (fX13_friend M1 _ _) M1 _
          rw [hm M1 f, if_pos (show nI 0 < 3 by decide), if_pos (show nI 0 = 0 by decide), show (25 : Int32) = nI 25 from rfl, nI_add, ldI_nI (by omega) (by decide), gI_sa (by decide), gB0 (by omega), f.rB]
          exact sM_ok M0_ro m00
      · refine ⟨.ok (aF A 5 d), ⟨M, ?_, RO.rf⟩, fun M1 f => ?_⟩
        · rw [hcl, if_neg (show ¬ nI 1 = 0 by decide), if_pos (show nI 1 = 1 by decide), pu_s, ck_t h.2.1.1, ldI_nI (by omega) (by decide), h.2.1.2.2.2.2.2.2.2.2.2.2.1 d hd]
        · show simM (fX13_friend M1 _ _) M1 _
          rw [hm M1 f, if_pos (show nI 1 < 3 by decide), if_neg (show ¬ nI 1 = 0 by decide), if_pos (show nI 1 = 1 by decide), ldI_nI (by omega) (by decide), (m0L (h.ro f).2.2.1).2.2.2.2.2.2.2.2.2.1 d hd]
          exact sM_ok M0_ro m00
      · obtain ⟨N, n1, n2⟩ := fol_ok (who := 1) h.2.1 h.1 k81 hRC (by decide)
        rw [rC81 h] at n1
        refine ⟨.ok (if youR A (rB M 0) d 0 0 = true then 1 else 0), ⟨N, ?_, n2.K.RO⟩, fun M1 f => ?_⟩
        · rw [hcl, if_neg (show ¬ nI 2 = 0 by decide), if_neg (show ¬ nI 2 = 1 by decide), if_pos (show nI 2 = 2 by decide), show fX7_followers M 81 1 = _ from n1, b2_s, folN_fB, fB_bit h6 hd]
        · show simM (fX13_friend M1 _ _) M1 _
          have e0 : rB (sI M1 103 0 0) 0 = rB M 0 := by rw [show rB (sI M1 103 0 0) 0 = rB M1 0 from M0_ro.rB, f.rB]
          obtain ⟨N', r1, r2⟩ := follows_ok (b := 0) (f := d) (who := 0) (more := 0) (m0L (h.ro f).2.2.1) h.1 (by decide) (by omega) (by decide)
          rw [e0, if_pos rfl] at r1
          rw [hm M1 f, if_pos (show nI 2 < 3 by decide), if_neg (show ¬ nI 2 = 0 by decide), if_neg (show ¬ nI 2 = 1 by decide), show fX13_follows (sI M1 103 0 0) 0 (nI d) 0 0 = _ from r1, b2_s]
          exact sM_ok (M0_ro.tr r2.RO) (by rw [r2.1 103 0 (by decide) (by decide)]; exact m00)
      · obtain ⟨v, ⟨N, p1, p2⟩, p3⟩ := like 0 (by decide)
        refine ⟨.ok v, ⟨N, ?_, p2⟩, fun M1 f => ?_⟩
        · rw [hcl, if_neg (show ¬ nI 3 = 0 by decide), if_neg (show ¬ nI 3 = 1 by decide), if_neg (show ¬ nI 3 = 2 by decide), if_pos (show nI 3 = 3 by decide), show fX7_liking M 81 (nI d) 0 = _ from p1, b2_s]
        · show simM (fX13_friend M1 _ _) M1 _
          obtain ⟨N', r1, r2, r3⟩ := p3 M1 f
          rw [hm M1 f, if_neg (show ¬ nI 3 < 3 by decide), show nI 3 - 3 = nI 0 by decide, r1]
          exact sM_ok r2 r3
      · obtain ⟨v, ⟨N, p1, p2⟩, p3⟩ := like 1 (by decide)
        refine ⟨.ok v, ⟨N, ?_, p2⟩, fun M1 f => ?_⟩
        · rw [hcl, if_neg (show ¬ nI 4 = 0 by decide), if_neg (show ¬ nI 4 = 1 by decide), if_neg (show ¬ nI 4 = 2 by decide), if_neg (show ¬ nI 4 = 3 by decide), if_pos (show nI 4 = 4 by decide), show fX7_liking M 81 (nI d) 1 = _ from p1, b2_s]
        · show simM (fX13_friend M1 _ _) M1 _
          obtain ⟨N', r1, r2, r3⟩ := p3 M1 f
          rw [hm M1 f, if_neg (show ¬ nI 4 < 3 by decide), show nI 4 - 3 = nI 1 by decide, r1]
          exact sM_ok r2 r3
