/-! QUESTIONS: cities -/
theorem hi_c (y : Int32) : ∃ c : Nat, c < 32768 ∧ (y >>> (16 &&& 31 : Int32)) &&& (32767 : Int32) = nI c ∧ (y.toUInt32 >>> (Int32.toUInt32 16 &&& Int32.toUInt32 31)).toInt32 &&& (32767 : Int32) = nI c := by
  have e1 : (y.toUInt32 >>> (Int32.toUInt32 16 &&& Int32.toUInt32 31)).toInt32 &&& (32767 : Int32) = nI ((y.toBitVec.toNat >>> 16) % 32768) := by
    rw [← Int32.toBitVec_inj, Int32.toBitVec_and]
    apply BitVec.eq_of_toNat_eq
    rw [BitVec.toNat_and, show ((32767 : Int32).toBitVec).toNat = 2 ^ 15 - 1 from rfl, Nat.and_two_pow_sub_one_eq_mod]
    show _ = (BitVec.ofNat 32 ((y.toBitVec.toNat >>> 16) % 32768)).toNat
    rw [BitVec.toNat_ofNat]
    have : ((y.toUInt32 >>> (Int32.toUInt32 16 &&& Int32.toUInt32 31)).toInt32).toBitVec = y.toBitVec >>> 16 := rfl
    rw [this, BitVec.toNat_ushiftRight]
    omega
  have e2 : (y >>> (16 &&& 31 : Int32)) &&& (32767 : Int32) = (y.toUInt32 >>> (Int32.toUInt32 16 &&& Int32.toUInt32 31)).toInt32 &&& (32767 : Int32) := by
    rw [← Int32.toBitVec_inj, Int32.toBitVec_and, Int32.toBitVec_and]
    have a1 : ((y.toUInt32 >>> (Int32.toUInt32 16 &&& Int32.toUInt32 31)).toInt32).toBitVec = y.toBitVec >>> 16 := rfl
    have a2 : (y >>> (16 &&& 31 : Int32)).toBitVec = y.toBitVec.sshiftRight 16 := rfl
    rw [a1, a2]
    apply BitVec.eq_of_getLsbD_eq
    intro i hi
    rw [BitVec.getLsbD_and, BitVec.getLsbD_and, BitVec.getLsbD_ushiftRight, BitVec.getLsbD_sshiftRight]
    by_cases h : i < 15
    · rw [if_pos (show 16 + i < 32 by omega), decide_eq_false (show ¬ 32 ≤ i by omega)]
      rfl
    · have : ((32767 : Int32).toBitVec).getLsbD i = false := by
        rcases (show i = 15 ∨ i = 16 ∨ i = 17 ∨ i = 18 ∨ i = 19 ∨ i = 20 ∨ i = 21 ∨ i = 22 ∨ i = 23 ∨ i = 24 ∨ i = 25 ∨ i = 26 ∨ i = 27 ∨ i = 28 ∨ i = 29 ∨ i = 30 ∨ i = 31 by omega) with q | q | q | q | q | q | q | q | q | q | q | q | q | q | q | q | q <;> subst q <;> rfl
      rw [this, Bool.and_false, Bool.and_false]
  exact ⟨(y.toBitVec.toNat >>> 16) % 32768, Nat.mod_lt _ (by decide), e2.trans e1, e1⟩
def hiN (x : Int32) : Nat := ((x >>> (16 &&& 31 : Int32)) &&& 32767).toNatClampNeg
theorem hi_m (x : Int32) : (x >>> (16 &&& 31 : Int32)) &&& (32767 : Int32) = nI (hiN x) := by
  obtain ⟨c, h1, h2, h3⟩ := hi_c x
  unfold hiN
  rw [h2, nI_clamp (by omega)]
theorem hi_l (x : Int32) : (x.toUInt32 >>> (Int32.toUInt32 16 &&& Int32.toUInt32 31)).toInt32 &&& (32767 : Int32) = nI (hiN x) := by
  obtain ⟨c, h1, h2, h3⟩ := hi_c x
  unfold hiN
  rw [h3, h2, nI_clamp (by omega)]
theorem hi_lt (x : Int32) : hiN x < 32768 := by
  obtain ⟨c, h1, h2, h3⟩ := hi_c x
  unfold hiN
  rw [h2, nI_clamp (by omega)]
  exact h1
def citR (nx : Int32 → Int32) (r : Nat → Int32) (x : Int32) : Nat → Int32 := if hiN (nx (nx x)) % 9 = 0 then overR r else r
def citS (nx : Int32 → Int32) (A : LA) (r : Nat → Int32) (x : Int32) : Nat → Int32 := liveR A (citR nx r x) (nI (hiN (nx x) % 60)) (wayR A (citR nx r x) (ruler (citR nx r x)))
def citV (nx : Int32 → Int32) (A : LA) (w : Int32) : Nat → (Nat → Int32) → Int32 → Int32
  | 0, r, _ => if w = 0 then r 0 else if w = 1 then r 2 else r 6 - r 7
  | d + 1, r, x => citV nx A w d (citS nx A r x) (nx (nx x))
theorem citR_ok {nx : Int32 → Int32} {A : LA} {Y Z : Nat} {r : Nat → Int32} {x : Int32} (h : okR A Y Z r) : okR A Y Z (citR nx r x) := by
  unfold citR
  split
  · exact okR_over h
  · exact h
theorem citS_ok {nx : Int32 → Int32} {A : LA} {Y Z : Nat} {r : Nat → Int32} {x : Int32} (h : okR A Y Z r) (hA : okA A) (hZ : Z < 10 ^ 9) : okR A (Y + 1) (Z + 20) (citS nx A r x) := okR_live (citR_ok h) hA (way_dOk (citR_ok h) (ruler_lt (citR_ok h)).1) hZ
theorem draw_b (x : Int32) (m : Nat) (hm : 0 < m) (hm2 : m < 2 ^ 31) : nI (hiN x) - nI (hiN x) / nI m * nI m = nI (hiN x % m) := pk_rem (Nat.lt_trans (hi_lt x) (by decide)) hm hm2
theorem m60 (x : Int32) : inB (nI (hiN x % 60)) 99 := ⟨hiN x % 60, by have := Nat.mod_lt (hiN x) (show 0 < 60 by decide); omega, rfl⟩
theorem m9 (x : Int32) : (nI (hiN x % 9) = 0) = (hiN x % 9 = 0) := by
  rw [show (0 : Int32) = nI 0 from rfl, eq_nI (by have := Nat.mod_lt (hiN x) (show 0 < 9 by decide); omega) (by decide)]
theorem citC_l {nx : Int32 → Int32} (hs : ∀ x, fX12_followingSeed x = some (nx x)) {A : LA} {M : Mem} {w : Int32} {N : Nat} (hA : okA A) (hN : N ≤ 60) : ∀ (d i fuel : Nat) (M1 : Mem) (r : Nat → Int32) (x : Int32), cW A M r M1 → okR A (999 + i) (19980 + 20 * i) r → i + d = N → d < fuel → ∃ M2, fX12_cities_l31 fuel M1 (nI N) w x (nI i) = some (.ok (citV nx A w d r x, M2)) ∧ RO M M2 := by
  intro d
  induction d with
  | zero =>
    intro i fuel M1 r x h hR hi hf
    obtain ⟨m, rfl⟩ : ∃ m, fuel = m + 1 := ⟨fuel - 1, by omega⟩
    obtain ⟨g1, g2, g3, g4⟩ := h
    refine ⟨M1, ?_, g1⟩
    rw [fX12_cities_l31, if_neg (by rw [lt_nI (by omega) (by omega)]; omega), citV]
    by_cases h0 : w = 0
    · rw [if_pos h0, if_pos h0, pu_s, gC_f (by decide), g3]
    · rw [if_neg h0, if_neg h0]
      by_cases h1 : w = 1
      · rw [if_pos h1, if_pos h1, pu_s, gC_f (by decide), g3]
      · rw [if_neg h1, if_neg h1, show (0 : Int32) = nI 0 from rfl, show (1 : Int32) = nI 1 from rfl, ldI_nI (by decide) (by decide), ldI_nI (by decide) (by decide), show (88 : Nat) = 86 + 2 from rfl, gC_a2 (by decide), gC_a2 (by decide), g3]
  | succ d ih =>
    intro i fuel M1 r x h hR hi hf
    obtain ⟨m, rfl⟩ : ∃ m, fuel = m + 1 := ⟨fuel - 1, by omega⟩
    have k86 : kd 86 = 2 := by decide
    have go : ∀ N1, cW A M (citR nx r x) N1 → ∃ M2, fX12_cities_b87 (fX12_cities_l31 m) N1 (nI N) w (nx (nx x)) (nI i) (nI (hiN (nx x) % 60)) = some (.ok (citV nx A w (d + 1) r x, M2)) ∧ RO M M2 := fun N1 q => by
      obtain ⟨g1, g2, g3, g4⟩ := q
      have hR1 : okR A (999 + i) (19980 + 20 * i) (rC N1 86) := by rw [g3]; exact citR_ok hR
      obtain ⟨hr1, hr2⟩ := ruler_lt hR1
      obtain ⟨N2, p1, p2, p3⟩ := live_ok (h := nI (hiN (nx x) % 60)) (d := wayR A (rC N1 86) (ruler (rC N1 86))) g2 hA k86 hR1 (by omega) (m60 _) (way_dOk hR1 hr1)
      unfold fX12_cities_b87
      rw [pu_s, gC_f (by decide), hr2, wayC_ok g2 hA k86 hr1 hR1 (by omega), b1_s, p1, b2_s, pu_s, nI_1]
      refine ih (i + 1) m N2 _ _ ⟨g1.tr (p3.RO (Or.inr rfl)), g2.fr k86 p3, ?_, by rw [rC_fr p3 (by decide) (by decide), g4]⟩ ?_ (by omega) (by omega)
      · rw [p2, g3]; rfl
      · have q := citS_ok (nx := nx) (x := x) hR hA (show 19980 + 20 * i < 10 ^ 9 by omega)
        rw [show 19980 + 20 * (i + 1) = 19980 + 20 * i + 20 by omega]
        exact q
    rw [fX12_cities_l31, if_pos (by rw [lt_nI (by omega) (by omega)]; omega), hs, b1_s, hi_l, show (60 : Int32) = nI 60 from rfl, draw_b _ 60 (by decide) (by decide), pu_s, hs, b1_s, hi_l, show (9 : Int32) = nI 9 from rfl, draw_b _ 9 (by decide) (by decide)]
    by_cases h9 : hiN (nx (nx x)) % 9 = 0
    · obtain ⟨g1, g2, g3, g4⟩ := h
      obtain ⟨N1, p1, p2, p3⟩ := over_ok (M := M1) k86
      rw [if_pos (by rw [m9]; exact h9), p1, b1_s]
      exact go N1 ⟨g1.tr (p3.RO (Or.inr rfl)), g2.fr k86 p3, by rw [p2, g3]; unfold citR; rw [if_pos h9], by rw [rC_fr p3 (by decide) (by decide), g4]⟩
    · rw [if_neg (by rw [m9]; exact h9)]
      exact go M1 (by unfold citR; rw [if_neg h9]; exact h)
theorem draw_ok {nx : Int32 → Int32} (hd : ∀ x : Int32, x * 1103515245 + 12345 = nx x) {M : Mem} {m : Nat} {x : Int32} (hx : gI M 103 73 = x) (hm : 0 < m) (hm2 : m < 2 ^ 31) : fX13_draw M (nI m) = some (nI (hiN (nx x) % m), sI M 103 73 (nx x)) := by
  unfold fX13_draw
  rw [pu_s, hx, hd, pu_s, gI_ss, pu_s, nz_t (nI_ne0 (by omega) (by omega)), hi_m, draw_b _ m hm hm2]
theorem mW.sd {A : LA} {M M1 : Mem} {r : Nat → Int32} {x : Int32} (h : mW A M r M1) : mW A M r (sI M1 103 73 x) := by
  obtain ⟨f, hL, e, e0, ht⟩ := h
  refine ⟨f.st (by unfold scr; omega), hL.mv (fun a j q1 q2 => gI_sI.trans (if_neg (fun z => by have := q1 z.1; omega))), by rw [rB_n (by decide), e], by rw [rB_n (by decide), e0], by rw [gI_sj (by decide)]; exact ht⟩
theorem citM_b {A : LA} {M M1 : Mem} {r : Nat → Int32} {Y Z : Nat} {h9 : Int32} (hA : okA A) (h : mW A M r M1) (hR : okR A Y Z r) (hY : Y < 10 ^ 6) (hZ : Z < 10 ^ 6) : ∃ M2, (b1 (fX13_gathers M1 31 h9) fun Mq15 => ldI Mq15 133 186 35 fun vq16 => b1 (fX13_wayOf Mq15 31 vq16) fun vq17 => b2 (fX13_does Mq15 31 vq17) fun _ Mq19 => fX13_ends Mq19 31 1) = some M2 ∧ mW A M (liveR A r h9 (wayR A r (ruler r))) M2 ∧ gI M2 103 73 = gI M1 103 73 := by
  obtain ⟨f, hL, e, e0, ht⟩ := h
  have hRM : okR A Y Z (rB M1 31) := by rw [e]; exact hR
  obtain ⟨hr1, hr2⟩ := ruler_lt hRM
  obtain ⟨M2, h2, hB2, f2⟩ := gathers_ok (M := M1) (b := 31) (h := h9) (by decide)
  have hL2 := hL.fr f2
  have hR2 : okR A Y Z (rB M2 31) := by rw [hB2]; exact okR_gath hRM _
  obtain ⟨hs1, hs2⟩ := ruler_lt hR2
  have hm : ∃ m : Nat, m < 2 ^ 31 ∧ rB M2 31 (10 + ruler (rB M2 31)) = nI m := by
    have hu : ruler (rB M2 31) = 0 ∨ ruler (rB M2 31) = 1 := by omega
    rcases hu with q | q <;> rw [q]
    · obtain ⟨m, q1, q2⟩ := hR2.2.2.2.2.2.2.2.2.1
      exact ⟨m, by omega, q2⟩
    · obtain ⟨m, q1, q2⟩ := hR2.2.2.2.2.2.2.2.2.2.1
      exact ⟨m, by omega, q2⟩
  obtain ⟨m, hm1, hm2⟩ := hm
  have hd := way_dOk hRM hr1
  obtain ⟨M3, h3, hB3, f3⟩ := doX_ok (d := wayR A (rB M1 31) (ruler (rB M1 31))) hL2 hA (by decide) hd hR2
  have hR3 : okR A Y (Z + 20) (rB M3 31) := by rw [hB3]; exact okR_doX hR2 hA hd (by omega)
  obtain ⟨M4, h4, hB4, f4⟩ := ends_ok (asks := 1) (hL2.fr f3) hA (by decide) hR3
  have f9 := (f2.tr f3).tr f4
  refine ⟨M4, ?_, ⟨f.tr (f9.RO (by decide)), hL.fr f9, ?_, ?_, ?_⟩, ?_⟩
  · rw [show (31 : Int32) = nI 31 from rfl, h2, b1_s, show (35 : Int32) = nI (31 + 4) from by decide, ldI_nI (by decide) (by decide), rB_g (by decide), hs2, way_ok hL2 hA (by decide) hs1 hm2 hm1, b1_s, hB2, wayR_gath, ruler_gath, h3, b2_s, h4]
  · rw [hB4, if_neg (by decide), hB3, hB2, e]; rfl
  · rw [rB_fr f9 (by decide), e0]
  · rw [f9.1 103 0 (fun q => absurd q (by decide)) (by decide) (by decide)]; exact ht
  · exact f9.1 103 73 (fun q => absurd q (by decide)) (by decide) (by decide)
theorem citM_l {nx : Int32 → Int32} (hd : ∀ x : Int32, x * 1103515245 + 12345 = nx x) {A : LA} {M : Mem} {w : Int32} {N : Nat} (hA : okA A) (hN : N ≤ 60) : ∀ (d i fuel : Nat) (M1 : Mem) (r : Nat → Int32) (x : Int32), mW A M r M1 → gI M1 103 73 = x → okR A (999 + i) (19980 + 20 * i) r → i + d = N → d < fuel → ∃ M2, fX13_cities_l46 fuel M1 (nI N) w (nI i) = some (citV nx A w d r x, M2) ∧ RO M M2 ∧ gI M2 103 0 = 0 := by
  intro d
  induction d with
  | zero =>
    intro i fuel M1 r x h hx hR hi hf
    obtain ⟨m, rfl⟩ : ∃ m, fuel = m + 1 := ⟨fuel - 1, by omega⟩
    refine ⟨M1, ?_, h.1, h.2.2.2.2⟩
    rw [fX13_cities_l46, if_neg (by rw [lt_nI (by omega) (by omega)]; omega), citV]
    by_cases h0 : w = 0
    · rw [if_pos h0, if_pos h0, show (31 : Int32) = nI 31 from rfl, ldI_nI (by decide) (by decide), show gI M1 133 31 = r 0 from h.g (i := 0) (by decide)]
    · rw [if_neg h0, if_neg h0]
      by_cases h1 : w = 1
      · rw [if_pos h1, if_pos h1, show (33 : Int32) = nI 33 from rfl, ldI_nI (by decide) (by decide), show gI M1 133 33 = r 2 from h.g (i := 2) (by decide)]
      · rw [if_neg h1, if_neg h1, show (37 : Int32) = nI 37 from rfl, show (38 : Int32) = nI 38 from rfl, ldI_nI (by decide) (by decide), ldI_nI (by decide) (by decide), show gI M1 133 37 = r 6 from h.g (i := 6) (by decide), show gI M1 133 38 = r 7 from h.g (i := 7) (by decide)]
  | succ d ih =>
    intro i fuel M1 r x h hx hR hi hf
    obtain ⟨m, rfl⟩ : ∃ m, fuel = m + 1 := ⟨fuel - 1, by omega⟩
    have go : ∀ N1, mW A M (citR nx r x) N1 → gI N1 103 73 = nx (nx x) → ∃ M2, fX13_cities_b93 (fX13_cities_l46 m) N1 (nI N) w (nI i) (nI (hiN (nx x) % 60)) = some (citV nx A w (d + 1) r x, M2) ∧ RO M M2 ∧ gI M2 103 0 = 0 := fun N1 q1 q2 => by
      obtain ⟨N2, p1, p2, p3⟩ := citM_b (h9 := nI (hiN (nx x) % 60)) hA q1 (citR_ok hR) (by omega) (by omega)
      obtain ⟨N3, t1, t2⟩ := ih (i + 1) m N2 _ (nx (nx x)) p2 (p3.trans q2) (by
        have q := citS_ok (nx := nx) (x := x) hR hA (show 19980 + 20 * i < 10 ^ 9 by omega)
        rw [show 19980 + 20 * (i + 1) = 19980 + 20 * i + 20 by omega]
        exact q) (by omega) (by omega)
      refine ⟨N3, ?_, t2⟩
      have e := congrArg (fun o => b1 o fun Mq => pu (nI i + 1) fun v => fX13_cities_l46 m Mq (nI N) w v) p1
      simp only [ld_as, b1_as, b2_as, b1_s] at e
      unfold fX13_cities_b93
      rw [e, pu_s, nI_1, citV]
      exact t1
    have d1 := draw_ok hd (M := M1) (m := 60) hx (by decide) (by decide)
    have d2 := draw_ok hd (M := sI M1 103 73 (nx x)) (m := 9) (x := nx x) gI_ss (by decide) (by decide)
    have h2 : mW A M r (sI (sI M1 103 73 (nx x)) 103 73 (nx (nx x))) := h.sd.sd
    rw [fX13_cities_l46, if_pos (by rw [lt_nI (by omega) (by omega)]; omega), show fX13_draw M1 60 = _ from d1, b2_s, show fX13_draw (sI M1 103 73 (nx x)) 9 = _ from d2, b2_s]
    by_cases h9 : hiN (nx (nx x)) % 9 = 0
    · rw [if_pos (by rw [m9]; exact h9), show (35 : Int32) = nI 35 from rfl, show (36 : Int32) = nI 36 from rfl, ldI_nI (by decide) (by decide), stI_nI (by decide) (by decide), stI_nI (by decide) (by decide), show gI (sI (sI M1 103 73 (nx x)) 103 73 (nx (nx x))) 133 35 = r 4 from h2.g (i := 4) (by decide)]
      refine go _ ?_ (by rw [gI_sa (by decide), gI_sa (by decide), gI_ss])
      obtain ⟨f, hL, e, e0, ht⟩ := h2
      refine ⟨(f.st (by unfold scr; omega)).st (by unfold scr; omega), hL.mv (fun a j q1 q2 => ?_), ?_, ?_, ?_⟩
      · rw [gI_sa (by omega), gI_sa (by omega)]
      · rw [show (36 : Nat) = 31 + 5 from rfl, show (35 : Nat) = 31 + 4 from rfl, rB_s (by decide), rB_s (by decide), e]
        unfold citR
        rw [if_pos h9]
        rfl
      · rw [rB_o (by omega), rB_o (by omega), e0]
      · rw [gI_sa (by decide), gI_sa (by decide)]; exact ht
    · rw [if_neg (by rw [m9]; exact h9)]
      refine go _ ?_ gI_ss
      unfold citR
      rw [if_neg h9]
      exact h2
theorem cities_q {A : LA} {M : Mem} (h : Rel A M) (x y z : Int32) : qC (fX12_cities M x y z) (fun M1 => fX13_cities M1 x y z) M := by
  obtain ⟨nx, hs, hd⟩ : ∃ nx : Int32 → Int32, (∀ x, fX12_followingSeed x = some (nx x)) ∧ (∀ x : Int32, x * 1103515245 + 12345 = nx x) := ⟨fun x => x * 1103515245 + 12345, fun _ => rfl, fun _ => rfl⟩
  by_cases hz : z < 0 ∨ (2 : Int32) < z
  · refine ⟨.error 1, ?_, fun M1 f => ?_⟩
    · show fX12_cities M x y z = _
      unfold fX12_cities
      rw [needWhat_eq, if_pos hz, bE_er]
    · show simM (fX13_cities M1 _ _ _) M1 _
      unfold fX13_cities
      rw [pu_s, gW_eq m00, if_pos hz]
      exact sM_er M0_ro
  · by_cases hy : y < 0 ∨ (60 : Int32) < y
    · refine ⟨.error 2, ?_, fun M1 f => ?_⟩
      · show fX12_cities M x y z = _
        unfold fX12_cities
        rw [needWhat_eq, if_neg hz, bE_ok, needWithin_eq, if_pos hy, bE_er]
      · show simM (fX13_cities M1 _ _ _) M1 _
        unfold fX13_cities
        rw [pu_s, gW_eq m00, if_neg hz, gT_eq m00 (by decide), if_pos hy]
        exact sM_er M0_ro
    · obtain ⟨N, hN, eN⟩ := lt_of (n := 60) hy (by decide)
      refine ⟨.ok (citV nx A z N (rB M 0) x), ?_, fun M1 f => ?_⟩
      · obtain ⟨C1, c1, w1⟩ := c_start h RO.rf
        obtain ⟨C2, c2, f2⟩ := citC_l hs h.1 hN N 0 FU C1 (rB M 0) x w1 h.okR (by omega) (by show _ < 100000; omega)
        refine ⟨C2, ?_, f2⟩
        unfold fX12_cities
        rw [needWhat_eq, if_neg hz, bE_ok, needWithin_eq, if_neg hy, bE_ok, c1, b1_s, eN]
        exact c2
      · show simM (fX13_cities M1 _ _ _) M1 _
        have h1 := h.ro f
        obtain ⟨D1, d1, v1⟩ := m_start h1 M0_ro m00
        obtain ⟨D2, d2, f2, t2⟩ := citM_l hd (w := z) h.1 hN N 0 FU (sI D1 103 73 x) (rB M1 0) x v1.sd gI_ss h1.okR (by omega) (by show _ < 100000; omega)
        unfold fX13_cities
        rw [pu_s, gW_eq m00, if_neg hz, gT_eq m00 (by decide), if_neg hy, d1, b1_s, pu_s, eN, show fX13_cities_l46 FU (sI D1 103 73 x) (nI N) z 0 = _ from d2, f.rB]
        exact sM_ok f2 t2
