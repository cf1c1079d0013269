/-! QUESTIONS: what was seen, by another deed -/
/-- the row behind so many years, with a deed D in the y-th -/
def oneR (A : LA) (r : Nat → Int32) (y : Nat) (D : Int32) : Nat → (Nat → Int32)
  | 0 => r
  | i + 1 => liveR A (oneR A r y D i) (harvR A (oneR A r y D i)) (if i + 1 = y then D else wayR A (oneR A r y D i) (ruler (oneR A r y D i)))
theorem oneR_s {A : LA} {r : Nat → Int32} {y : Nat} {D : Int32} (i : Nat) : oneR A r y D (i + 1) = liveR A (oneR A r y D i) (harvR A (oneR A r y D i)) (if i + 1 = y then D else wayR A (oneR A r y D i) (ruler (oneR A r y D i))) := rfl
theorem okR_one {A : LA} {r : Nat → Int32} {Y Z y : Nat} {D : Int32} (hR : okR A Y Z r) (hA : okA A) (hD : dOk A D) (hZ : Z < 10 ^ 8) : ∀ i, i < 1000 → okR A (Y + i) (Z + 20 * i) (oneR A r y D i) := by
  intro i
  induction i with
  | zero => intro _; exact hR
  | succ i ih =>
    intro hi
    have h := ih (by omega)
    rw [oneR_s]
    refine okR_mono (okR_live h hA ?_ (by omega)) (by omega) (by omega)
    split
    · exact hD
    · exact way_dOk h (ruler_lt h).1
/-- what is seen: how many, the years, the stores -/
def seC (n : Nat) (sy : Nat → Nat) (ss : Nat → Int32) (M : Mem) : Prop := gI M 93 0 = nI n ∧ ∀ i, i < n → gI M 94 i = nI (sy i) ∧ gI M 95 i = ss i
def seM (n : Nat) (sy : Nat → Nat) (ss : Nat → Int32) (M : Mem) : Prop := gI M 103 69 = nI n ∧ ∀ i, i < n → gI M 138 (2 * i) = nI (sy i) ∧ gI M 138 (2 * i + 1) = ss i
theorem Rel.se {A : LA} {M : Mem} (h : Rel A M) : ∃ n sy ss, n ≤ 8 ∧ (∀ i, i < n → 1 ≤ sy i ∧ sy i ≤ 30) ∧ seC n sy ss M ∧ seM n sy ss M := by
  obtain ⟨n, h1, h2, h3, h4⟩ := h.2.2.2.2.2.2.1
  refine ⟨n, fun i => (gI M 94 i).toNatClampNeg, fun i => gI M 95 i, h1, fun i hi => ?_, ⟨h2, fun i hi => ?_⟩, ⟨h3, fun i hi => ?_⟩⟩
  · obtain ⟨y, s, p1, p2, p3, p4, p5, p6, p7⟩ := h4 i hi
    dsimp only
    rw [show gI M 94 i = nI y from p4, nI_clamp (by omega)]
    exact ⟨p1, p2⟩
  · obtain ⟨y, s, p1, p2, p3, p4, p5, p6, p7⟩ := h4 i hi
    refine ⟨?_, rfl⟩
    dsimp only
    rw [show gI M 94 i = nI y from p4, nI_clamp (by omega)]
  · obtain ⟨y, s, p1, p2, p3, p4, p5, p6, p7⟩ := h4 i hi
    dsimp only
    rw [show gI M 94 i = nI y from p4, nI_clamp (by omega), show gI M 95 i = nI s from p5]
    exact ⟨p6, p7⟩
theorem seC.ro {n : Nat} {sy : Nat → Nat} {ss : Nat → Int32} {M M1 : Mem} (h : seC n sy ss M) (f : RO M M1) : seC n sy ss M1 := ⟨by rw [f.1 93 0 (by unfold scr; omega)]; exact h.1, fun i hi => by
  rw [f.1 94 i (by unfold scr; omega), f.1 95 i (by unfold scr; omega)]
  exact h.2 i hi⟩
theorem seM.ro {n : Nat} {sy : Nat → Nat} {ss : Nat → Int32} {M M1 : Mem} (h : seM n sy ss M) (f : RO M M1) : seM n sy ss M1 := ⟨by rw [f.1 103 69 (by unfold scr; omega)]; exact h.1, fun i hi => by
  rw [f.1 138 _ (by unfold scr; omega), f.1 138 _ (by unfold scr; omega)]
  exact h.2 i hi⟩
def fitB (A : LA) (r : Nat → Int32) (n : Nat) (sy : Nat → Nat) (ss : Nat → Int32) (y : Nat) (D : Int32) : Bool := decide (∀ j, j < n → oneR A r y D (sy j) 0 = ss j)
/-- a truth value told -/
def bI (b : Int32) (P : Prop) : Prop := (b = 0 ∧ ¬ P) ∨ (b = 1 ∧ P)
theorem allows_l {n : Nat} {sy : Nat → Nat} {ss : Nat → Int32} {M : Mem} (h : seC n sy ss M) (hn : n ≤ 8) (hs : ∀ i, i < n → sy i ≤ 30) {i : Nat} (hi : i ≤ 30) {v : Int32} : ∀ (d k fuel : Nat), k + d = n → d < fuel → ∃ b, fX9_allows_l2 fuel M 93 (nI i) v (nI k) = some b ∧ bI b (∀ j, k ≤ j → j < n → sy j = i → v = ss j) := by
  intro d
  induction d with
  | zero =>
    intro k fuel hk hf
    obtain ⟨m, rfl⟩ : ∃ m, fuel = m + 1 := ⟨fuel - 1, by omega⟩
    rw [fX9_allows_l2, ck_t (by decide), pu_s, h.1, if_neg (by rw [lt_nI (by omega) (by omega)]; omega)]
    exact ⟨1, rfl, Or.inr ⟨rfl, fun j h1 h2 => absurd h1 (by omega)⟩⟩
  | succ d ih =>
    intro k fuel hk hf
    obtain ⟨m, rfl⟩ : ∃ m, fuel = m + 1 := ⟨fuel - 1, by omega⟩
    have hk8 : k < n := by omega
    obtain ⟨e1, e2⟩ := h.2 k hk8
    have hsk := hs k hk8
    obtain ⟨b, p1, p2⟩ := ih (k + 1) m (by omega) (by omega)
    have b32 : fX9_allows_b32 (fX9_allows_l2 m) M 93 (nI i) v (nI k) = some b := by
      unfold fX9_allows_b32
      rw [ck_t (by decide), pu_s, nI_1]
      exact p1
    rw [fX9_allows_l2, ck_t (by decide), pu_s, h.1, if_pos (by rw [lt_nI (by omega) (by omega)]; omega), ldI_nI (by omega) (by decide), e1]
    have nxt : (sy k = i → v = ss k) → bI b (∀ j, k ≤ j → j < n → sy j = i → v = ss j) := fun hq => by
      rcases p2 with ⟨q1, q2⟩ | ⟨q1, q2⟩
      · exact Or.inl ⟨q1, fun z => q2 fun j h1 h2 => z j (by omega) h2⟩
      · refine Or.inr ⟨q1, fun j h1 h2 h3 => ?_⟩
        by_cases hj : j = k
        · subst hj; exact hq h3
        · exact q2 j (by omega) h2 h3
    by_cases h1 : sy k = i
    · rw [if_pos (by rw [h1]), ldI_nI (by omega) (by decide), e2]
      by_cases h2 : ss k = v
      · rw [if_pos h2, b32]
        exact ⟨b, rfl, nxt fun _ => h2.symm⟩
      · rw [if_neg h2]
        exact ⟨0, rfl, Or.inl ⟨rfl, fun z => h2 (z k (Nat.le_refl _) hk8 h1).symm⟩⟩
    · rw [if_neg (by rw [eq_nI (by omega) (by omega)]; exact h1), b32]
      exact ⟨b, rfl, nxt fun q => absurd q h1⟩
theorem allows_ok {n : Nat} {sy : Nat → Nat} {ss : Nat → Int32} {M : Mem} (h : seC n sy ss M) (hn : n ≤ 8) (hs : ∀ i, i < n → sy i ≤ 30) {i : Nat} (hi : i ≤ 30) {v : Int32} : ∃ b, fX9_allows M 93 (nI i) v = some b ∧ bI b (∀ j, j < n → sy j = i → v = ss j) := by
  obtain ⟨b, p1, p2⟩ := allows_l h hn hs hi (v := v) n 0 FU (by omega) (by show _ < 100000; omega)
  refine ⟨b, ?_, ?_⟩
  · unfold fX9_allows
    rw [ck_t (by decide)]
    exact p1
  · rcases p2 with ⟨q1, q2⟩ | ⟨q1, q2⟩
    · exact Or.inl ⟨q1, fun z => q2 fun j _ h2 => z j h2⟩
    · exact Or.inr ⟨q1, fun j h2 => q2 j (Nat.zero_le _) h2⟩
theorem last_l {n : Nat} {sy : Nat → Nat} {ss : Nat → Int32} {M : Mem} (h : seC n sy ss M) (hn : n ≤ 8) (hs : ∀ i, i < n → sy i ≤ 30) : ∀ (d k fuel x : Nat), x ≤ 30 → (∀ j, j < k → sy j ≤ x) → k + d = n → d < fuel → ∃ sp : Nat, sp ≤ 30 ∧ fX9_last_l4 fuel M 93 (nI x) (nI k) = some (nI sp) ∧ ∀ j, j < n → sy j ≤ sp := by
  intro d
  induction d with
  | zero =>
    intro k fuel x hx hj hk hf
    obtain ⟨m, rfl⟩ : ∃ m, fuel = m + 1 := ⟨fuel - 1, by omega⟩
    rw [fX9_last_l4, ck_t (by decide), pu_s, h.1, if_neg (by rw [lt_nI (by omega) (by omega)]; omega)]
    exact ⟨x, hx, rfl, fun j q => hj j (by omega)⟩
  | succ d ih =>
    intro k fuel x hx hj hk hf
    obtain ⟨m, rfl⟩ : ∃ m, fuel = m + 1 := ⟨fuel - 1, by omega⟩
    have hk8 : k < n := by omega
    have hsk := hs k hk8
    rw [fX9_last_l4, ck_t (by decide), pu_s, h.1, if_pos (by rw [lt_nI (by omega) (by omega)]; omega), ldI_nI (by omega) (by decide), (h.2 k hk8).1, pu_s, pu_s, nI_1]
    by_cases q : x < sy k
    · rw [if_pos (by rw [lt_nI (by omega) (by omega)]; exact q)]
      refine ih (k + 1) m (sy k) hsk (fun j hj2 => ?_) (by omega) (by omega)
      by_cases e : j = k
      · rw [e]; exact Nat.le_refl _
      · have := hj j (by omega)
        omega
    · rw [if_neg (by rw [lt_nI (by omega) (by omega)]; exact q)]
      refine ih (k + 1) m x hx (fun j hj2 => ?_) (by omega) (by omega)
      by_cases e : j = k
      · rw [e]; omega
      · exact hj j (by omega)
theorem last_ok {n : Nat} {sy : Nat → Nat} {ss : Nat → Int32} {M : Mem} (h : seC n sy ss M) (hn : n ≤ 8) (hs : ∀ i, i < n → sy i ≤ 30) : ∃ sp : Nat, sp ≤ 30 ∧ fX9_last M 93 = some (nI sp) ∧ ∀ j, j < n → sy j ≤ sp := by
  obtain ⟨sp, p1, p2, p3⟩ := last_l h hn hs n 0 FU 0 (by decide) (fun j q => absurd q (by omega)) (by omega) (by show _ < 100000; omega)
  refine ⟨sp, p1, ?_, p3⟩
  unfold fX9_last
  rw [ck_t (by decide)]
  exact p2
theorem cV.sx {A : LA} {M M1 : Mem} {r : Nat → Int32} {a i : Nat} {v : Int32} (ha : 55 ≤ a ∧ a ≤ 60) (h : cV A M 50 r M1) : cV A M 50 r (sI M1 a i v) := ⟨h.1.st (by unfold scr; omega), h.2.1.mv gR_sI (fun c j x => gI_sa (by omega)), by rw [rC_n (by omega)]; exact h.2.2.1, by rw [rC_n (by omega)]; exact h.2.2.2⟩
/-- what fits leaves as it was besides -/
def frF (M M' : Mem) : Prop := (∀ j, gI M' 58 j = gI M 58 j) ∧ M'.2 = M.2
theorem fits_l {A : LA} {M : Mem} {n : Nat} {sy : Nat → Nat} {ss : Nat → Int32} {y sp : Nat} {D : Int32} (h : Rel A M) (hC : seC n sy ss M) (hn : n ≤ 8) (hs : ∀ i, i < n → 1 ≤ sy i ∧ sy i ≤ 30) (hD : dOk A D) (hy : y ≤ 30) (hsp : sp ≤ 30) (hsl : ∀ j, j < n → sy j ≤ sp) : ∀ (d i fuel : Nat) (M1 : Mem), cV A M 50 (oneR A (rB M 0) y D i) M1 → (∀ j, j < n → sy j ≤ i → oneR A (rB M 0) y D (sy j) 0 = ss j) → (∀ k, k < i → gI M1 56 k = oneR A (rB M 0) y D (k + 1) 0) → i + d = sp → d < fuel → ∃ M2, fX2_fits_l11 fuel M1 93 (nI y) D (nI sp) (nI (i + 1)) = some (if fitB A (rB M 0) n sy ss y D = true then 1 else 0, M2) ∧ RO M M2 ∧ (fitB A (rB M 0) n sy ss y D = true → ∀ k, k < sp → gI M2 56 k = oneR A (rB M 0) y D (k + 1) 0) ∧ frF M1 M2 := by
  have k50 : kd 50 = 2 := by decide
  have hA := h.1
  intro d
  induction d with
  | zero =>
    intro i fuel M1 w hj hst hi hf
    obtain ⟨m, rfl⟩ : ∃ m, fuel = m + 1 := ⟨fuel - 1, by omega⟩
    have hfit : fitB A (rB M 0) n sy ss y D = true := decide_eq_true fun j q => hj j q (by have := hsl j q; omega)
    rw [fX2_fits_l11, ck_t (by decide), if_pos (by rw [lt_nI (by omega) (by omega)]; omega), hfit, if_pos rfl]
    exact ⟨M1, rfl, w.1, fun _ k hk => hst k (by omega), fun _ => rfl, rfl⟩
  | succ d ih =>
    intro i fuel M1 w hj hst hi hf
    obtain ⟨m, rfl⟩ : ∃ m, fuel = m + 1 := ⟨fuel - 1, by omega⟩
    have hR := okR_one (y := y) h.okR hA hD (by decide) i (by omega)
    obtain ⟨hr1, hr2⟩ := ruler_lt hR
    have hRC : okR A (999 + i) (19980 + 20 * i) (rC M1 50) := by rw [w.2.2.1]; exact hR
    have hx : dOk A (if i + 1 = y then D else wayR A (oneR A (rB M 0) y D i) (ruler (oneR A (rB M 0) y D i))) := by
      split
      · exact hD
      · exact way_dOk hR hr1
    obtain ⟨q0, M2, c2, w2, g2⟩ := v_live k50 (by decide) hA w hR (by omega) (by omega) hx
    rw [← oneR_s] at w2
    obtain ⟨b, a1, a2⟩ := allows_ok (hC.ro w2.1) hn (fun j q => (hs j q).2) (i := i + 1) (by omega) (v := oneR A (rB M 0) y D (i + 1) 0)
    have w3 : cV A M 50 (oneR A (rB M 0) y D (i + 1)) (sI M2 56 i (oneR A (rB M 0) y D (i + 1) 0)) := w2.sx (by decide)
    have g56 : ∀ j, gI M2 56 j = gI M1 56 j := fun j => g2.1 _ _ (by omega) (by omega) (by omega) (by omega)
    have b54 : ∃ M9, fX2_fits_b54 (fX2_fits_l11 m) M1 93 (nI y) D (nI sp) (nI (i + 1)) (if i + 1 = y then D else wayR A (oneR A (rB M 0) y D i) (ruler (oneR A (rB M 0) y D i))) = some (if fitB A (rB M 0) n sy ss y D = true then 1 else 0, M9) ∧ RO M M9 ∧ (fitB A (rB M 0) n sy ss y D = true → ∀ k, k < sp → gI M9 56 k = oneR A (rB M 0) y D (k + 1) 0) ∧ frF M1 M9 := by
      unfold fX2_fits_b54
      rw [ck_t (by decide), pu_s, q0, b1_s, c2, b2_s, pu_s, show gI M2 50 0 = oneR A (rB M 0) y D (i + 1) 0 from by rw [gC_f (by decide), w2.2.2.1], a1, b1_s]
      rcases a2 with ⟨z1, z2⟩ | ⟨z1, z2⟩
      · have hfit : fitB A (rB M 0) n sy ss y D = false := decide_eq_false fun q => z2 fun j hj2 hj3 => by rw [← hj3]; exact q j hj2
        rw [if_pos z1, hfit, if_neg (by decide)]
        exact ⟨M2, rfl, w2.1, fun q => absurd q (by decide), fun j => g2.1 _ _ (by omega) (by omega) (by omega) (by omega), g2.2⟩
      · rw [if_neg (by rw [z1]; decide), pu_s, show nI (i + 1) - 1 = nI i from by rw [nI_m1 (by omega), Nat.add_sub_cancel], stI_nI (by omega) (by decide), pu_s, nI_1]
        have u1 : ∀ j, j < n → sy j ≤ i + 1 → oneR A (rB M 0) y D (sy j) 0 = ss j := fun j hj2 hj3 => by
          by_cases e : sy j = i + 1
          · rw [e]; exact z2 j hj2 e
          · exact hj j hj2 (by omega)
        have u2 : ∀ k, k < i + 1 → gI (sI M2 56 i (oneR A (rB M 0) y D (i + 1) 0)) 56 k = oneR A (rB M 0) y D (k + 1) 0 := fun k hk => by
          by_cases e : k = i
          · rw [e, gI_ss]
          · rw [gI_sj e, g56]; exact hst k (by omega)
        obtain ⟨M9, p1, p2, p3, p4⟩ := ih (i + 1) m _ w3 u1 u2 (by omega) (by omega)
        exact ⟨M9, p1, p2, p3, fun j => (p4.1 j).trans (by rw [gI_sa (by decide)]; exact g2.1 _ _ (by omega) (by omega) (by omega) (by omega)), p4.2.trans g2.2⟩
    rw [fX2_fits_l11, ck_t (by decide), if_neg (by rw [lt_nI (by omega) (by omega)]; omega), show (30 : Int32) = nI 30 from rfl, if_neg (by rw [lt_nI (by omega) (by omega)]; omega)]
    by_cases e : i + 1 = y
    · rw [if_pos e] at b54
      rw [if_pos (by rw [e])]
      exact b54
    · rw [if_neg e] at b54
      rw [if_neg (by rw [eq_nI (by omega) (by omega)]; exact e), pu_s, gC_f (by decide), w.2.2.1, hr2, wayC_ok w.2.1 hA k50 hr1 hRC (by omega), b1_s, w.2.2.1]
      exact b54
theorem fits_ok {A : LA} {M M1 : Mem} {n : Nat} {sy : Nat → Nat} {ss : Nat → Int32} {y sp : Nat} {D : Int32} (h : Rel A M) (f : RO M M1) (hC : seC n sy ss M) (hn : n ≤ 8) (hs : ∀ i, i < n → 1 ≤ sy i ∧ sy i ≤ 30) (hD : dOk A D) (hy : y ≤ 30) (hsp : sp ≤ 30) (hsl : ∀ j, j < n → sy j ≤ sp) : ∃ M2, fX2_fits M1 81 93 (nI y) D (nI sp) = some (if fitB A (rB M 0) n sy ss y D = true then 1 else 0, M2) ∧ RO M M2 ∧ (fitB A (rB M 0) n sy ss y D = true → ∀ k, k < sp → gI M2 56 k = oneR A (rB M 0) y D (k + 1) 0) ∧ frF M1 M2 := by
  obtain ⟨C1, c1, w1, g1⟩ := v_start (k := 50) (by decide) (by decide) h f
  obtain ⟨C2, p1, p2, p3, p4⟩ := fits_l h hC hn hs hD hy hsp hsl sp 0 FU C1 w1 (fun j h1 h2 => absurd (hs j h1).1 (by omega)) (fun k q => absurd q (by omega)) (by omega) (by show _ < 100000; omega)
  refine ⟨C2, ?_, p2, p3, fun j => (p4.1 j).trans (g1.1 _ _ (by omega) (by omega) (by omega) (by omega)), p4.2.trans g1.2⟩
  unfold fX2_fits
  rw [ck_t (by decide), ck_t (by decide), c1, b1_s]
  exact p1
-- the reference
theorem m_goesD {A : LA} {M M1 : Mem} {r : Nat → Int32} {Y Z : Nat} {d : Int32} (hA : okA A) (h : mW A M r M1) (hR : okR A Y Z r) (hd : d = -2 ∨ dOk A d) (hY : Y < 10 ^ 6) (hZ : Z < 10 ^ 6) : ∃ M2, fX13_goesBy M1 31 d = some M2 ∧ mW A M (liveR A r (harvR A r) (if d = -2 then wayR A r (ruler r) else d)) M2 ∧ frM 31 M1 M2 := by
  obtain ⟨f, hL, e, e0, ht⟩ := h
  obtain ⟨M2, h1, h2, h3⟩ := goesBy_ok (b := 31) (d := d) hL hA (by decide) hd (by rw [e]; exact hR) (by omega) (by omega)
  exact ⟨M2, h1, ⟨f.tr (h3.RO (by decide)), hL.fr h3, by rw [h2, e], by rw [rB_fr h3 (by decide), e0], by rw [h3.1 103 0 (fun q => absurd q (by decide)) (by decide) (by decide)]; exact ht⟩, h3⟩
theorem mW.sx {A : LA} {M M1 : Mem} {r : Nat → Int32} {a i : Nat} {v : Int32} (ha : a = 139 ∨ a = 140) (h : mW A M r M1) : mW A M r (sI M1 a i v) := by
  obtain ⟨f, hL, e, e0, ht⟩ := h
  exact ⟨f.st (by unfold scr; omega), hL.mv (fun a j q1 q2 => gI_sa (by omega)), by rw [rB_n (by omega), e], by rw [rB_n (by omega), e0], by rw [gI_sa (by omega)]; exact ht⟩
theorem seenM_l {n : Nat} {sy : Nat → Nat} {ss : Nat → Int32} {M1 : Mem} {S : Nat → Int32} (hM : seM n sy ss M1) (hn : n ≤ 8) (hs : ∀ i, i < n → 1 ≤ sy i ∧ sy i ≤ 30) (hS : ∀ k, k < 30 → gI M1 139 k = S (k + 1)) : ∀ (d k fuel : Nat), k + d = n → d < fuel → ∃ b, fX13_isSeen_l55 fuel M1 (nI k) = some (b, M1) ∧ bI b (∀ j, k ≤ j → j < n → S (sy j) = ss j) := by
  intro d
  induction d with
  | zero =>
    intro k fuel hk hf
    obtain ⟨m, rfl⟩ : ∃ m, fuel = m + 1 := ⟨fuel - 1, by omega⟩
    rw [fX13_isSeen_l55, pu_s, hM.1, if_neg (by rw [lt_nI (by omega) (by omega)]; omega)]
    exact ⟨1, rfl, Or.inr ⟨rfl, fun j h1 h2 => absurd h1 (by omega)⟩⟩
  | succ d ih =>
    intro k fuel hk hf
    obtain ⟨m, rfl⟩ : ∃ m, fuel = m + 1 := ⟨fuel - 1, by omega⟩
    have hk8 : k < n := by omega
    obtain ⟨e1, e2⟩ := hM.2 k hk8
    obtain ⟨s1, s2⟩ := hs k hk8
    rw [fX13_isSeen_l55, pu_s, hM.1, if_pos (by rw [lt_nI (by omega) (by omega)]; omega), show (2 : Int32) * nI k = nI (2 * k) from pk_mul 2 k, ldI_nI (by omega) (by decide), e1, nI_m1 s1, ldI_nI (by omega) (by decide), nI_1, ldI_nI (by omega) (by decide), e2, hS _ (by omega), show sy k - 1 + 1 = sy k by omega]
    by_cases q : S (sy k) = ss k
    · obtain ⟨b, p1, p2⟩ := ih (k + 1) m (by omega) (by omega)
      rw [if_pos q, pu_s, nI_1]
      refine ⟨b, p1, ?_⟩
      rcases p2 with ⟨q1, q2⟩ | ⟨q1, q2⟩
      · exact Or.inl ⟨q1, fun z => q2 fun j h1 h2 => z j (by omega) h2⟩
      · refine Or.inr ⟨q1, fun j h1 h2 => ?_⟩
        by_cases hj : j = k
        · subst hj; exact q
        · exact q2 j (by omega) h2
    · rw [if_neg q]
      exact ⟨0, rfl, Or.inl ⟨rfl, fun z => q (z k (Nat.le_refl _) hk8)⟩⟩
theorem isSeen_l {A : LA} {M : Mem} {n : Nat} {sy : Nat → Nat} {ss : Nat → Int32} {y : Nat} {D : Int32} (h : Rel A M) (hM : seM n sy ss M) (hn : n ≤ 8) (hs : ∀ i, i < n → 1 ≤ sy i ∧ sy i ≤ 30) (hD : dOk A D) (hy : y ≤ 30) : ∀ (d i fuel : Nat) (M1 : Mem), mW A M (oneR A (rB M 0) y D i) M1 → (∀ k, k < i → gI M1 139 k = oneR A (rB M 0) y D (k + 1) 0) → i + d = 30 → d < fuel → ∃ M2, fX13_isSeen_l9 fuel M1 (nI y) D (nI (i + 1)) = some (if fitB A (rB M 0) n sy ss y D = true then 1 else 0, M2) ∧ RO M M2 ∧ gI M2 103 0 = 0 ∧ (∀ k, k < 30 → gI M2 139 k = oneR A (rB M 0) y D (k + 1) 0) ∧ (∀ j, gI M2 140 j = gI M1 140 j) := by
  have hA := h.1
  have h7 := hA.1
  intro d
  induction d with
  | zero =>
    intro i fuel M1 w hst hi hf
    obtain ⟨m, rfl⟩ : ∃ m, fuel = m + 1 := ⟨fuel - 1, by omega⟩
    have h30 : i = 30 := by omega
    subst h30
    obtain ⟨b, p1, p2⟩ := seenM_l (S := fun k => oneR A (rB M 0) y D k 0) (hM.ro w.1) hn hs hst n 0 FU (by omega) (by show _ < 100000; omega)
    refine ⟨M1, ?_, w.1, w.2.2.2.2, hst, fun _ => rfl⟩
    rw [fX13_isSeen_l9, if_pos (by decide), show fX13_isSeen_l55 FU M1 0 = _ from p1]
    rcases p2 with ⟨q1, q2⟩ | ⟨q1, q2⟩
    · have hfit : fitB A (rB M 0) n sy ss y D = false := decide_eq_false fun q => q2 fun j _ h2 => q j h2
      rw [hfit, if_neg (by decide), q1]
    · have hfit : fitB A (rB M 0) n sy ss y D = true := decide_eq_true fun j h2 => q2 j (Nat.zero_le _) h2
      rw [hfit, if_pos rfl, q1]
  | succ d ih =>
    intro i fuel M1 w hst hi hf
    obtain ⟨m, rfl⟩ : ∃ m, fuel = m + 1 := ⟨fuel - 1, by omega⟩
    have hR := okR_one (y := y) h.okR hA hD (by decide) i (by omega)
    have hD2 : ¬ D = -2 := by
      rcases hD with e | ⟨j, hj, e⟩
      · rw [e]; decide
      · rw [e]; exact nI_neg2 (by omega)
    have b29 : ∀ d9, (d9 = -2 ∨ dOk A d9) → (if d9 = -2 then wayR A (oneR A (rB M 0) y D i) (ruler (oneR A (rB M 0) y D i)) else d9) = (if i + 1 = y then D else wayR A (oneR A (rB M 0) y D i) (ruler (oneR A (rB M 0) y D i))) → ∃ M2, fX13_isSeen_b29 (fX13_isSeen_l9 m) M1 (nI y) D (nI (i + 1)) d9 31 = some (if fitB A (rB M 0) n sy ss y D = true then 1 else 0, M2) ∧ RO M M2 ∧ gI M2 103 0 = 0 ∧ (∀ k, k < 30 → gI M2 139 k = oneR A (rB M 0) y D (k + 1) 0) ∧ (∀ j, gI M2 140 j = gI M1 140 j) := by
      intro d9 hd9 he
      obtain ⟨N1, p1, p2, p3⟩ := m_goesD hA w hR hd9 (by omega) (by omega)
      rw [he, ← oneR_s] at p2
      have w3 : mW A M (oneR A (rB M 0) y D (i + 1)) (sI N1 139 i (oneR A (rB M 0) y D (i + 1) 0)) := p2.sx (Or.inl rfl)
      unfold fX13_isSeen_b29
      rw [p1, b1_s, show (31 : Int32) = nI 31 from rfl, ldI_nI (by decide) (by decide), show gI N1 133 31 = oneR A (rB M 0) y D (i + 1) 0 from p2.g (i := 0) (by decide), show nI (i + 1) - 1 = nI i from by rw [nI_m1 (by omega), Nat.add_sub_cancel], stI_nI (by omega) (by decide), pu_s, nI_1]
      have u0 : ∀ k, k < i + 1 → gI (sI N1 139 i (oneR A (rB M 0) y D (i + 1) 0)) 139 k = oneR A (rB M 0) y D (k + 1) 0 := fun k hk => by
        by_cases e : k = i
        · rw [e, gI_ss]
        · rw [gI_sj e, p3.1 139 _ (fun q => absurd q (by decide)) (by decide) (by decide)]
          exact hst k (by omega)
      obtain ⟨M9, u1, u2, u3, u4, u5⟩ := ih (i + 1) m _ w3 u0 (by omega) (by omega)
      exact ⟨M9, u1, u2, u3, u4, fun j => (u5 j).trans (by rw [gI_sa (by decide)]; exact p3.1 _ _ (fun q => absurd q (by decide)) (by decide) (by decide))⟩
    rw [fX13_isSeen_l9, show (30 : Int32) = nI 30 from rfl, if_neg (by rw [lt_nI (by omega) (by omega)]; omega)]
    by_cases e : i + 1 = y
    · rw [if_pos (by rw [e])]
      exact b29 D (Or.inr hD) (by rw [if_neg hD2, if_pos e])
    · rw [if_neg (by rw [eq_nI (by omega) (by omega)]; exact e)]
      exact b29 (-2) (Or.inl rfl) (by rw [if_pos rfl, if_neg e])
theorem isSeen_ok {A : LA} {M M1 : Mem} {n : Nat} {sy : Nat → Nat} {ss : Nat → Int32} {y : Nat} {D : Int32} (h : Rel A M) (f : RO M M1) (h0 : gI M1 103 0 = 0) (hM : seM n sy ss M) (hn : n ≤ 8) (hs : ∀ i, i < n → 1 ≤ sy i ∧ sy i ≤ 30) (hD : dOk A D) (hy : y ≤ 30) : ∃ M2, fX13_isSeen M1 (nI y) D = some (if fitB A (rB M 0) n sy ss y D = true then 1 else 0, M2) ∧ RO M M2 ∧ gI M2 103 0 = 0 ∧ (∀ k, k < 30 → gI M2 139 k = oneR A (rB M 0) y D (k + 1) 0) ∧ (∀ j, gI M2 140 j = gI M1 140 j) := by
  obtain ⟨D1, d1, v1⟩ := m_start h f h0
  obtain ⟨M0, z1, z2, z3⟩ := lays0_ok (b := 0) (c := 31) (M := M1) (by decide) (by decide) (by decide)
  have e0 : M0 = D1 := Option.some.inj ((show fX13_lays0 M1 0 31 = some M0 from z1).symm.trans d1)
  subst e0
  obtain ⟨D2, p1, p2, p3, p4, p5⟩ := isSeen_l h hM hn hs hD hy 30 0 FU M0 v1 (fun k q => absurd q (by omega)) (by omega) (by show _ < 100000; omega)
  refine ⟨D2, ?_, p2, p3, p4, fun j => (p5 j).trans (z3.1 _ _ (fun q => absurd q (by decide)) (by decide) (by decide))⟩
  unfold fX13_isSeen
  rw [d1, b1_s]
  exact p1
