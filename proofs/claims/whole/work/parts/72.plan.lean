/-! QUESTIONS: plans. What both reckon; the class -/
def childR (A : LA) (r : Nat → Int32) (d : Int32) : Nat → Int32 := liveR A r (harvR A r) d
def glo (A : LA) (d : Int32) : Int32 := if d = -1 then 0 else aF A 3 d.toNatClampNeg
def blk (A : LA) (r : Nat → Int32) (d : Int32) : Bool := if d = -1 then false else decide (gathR r (harvR A r) 0 < aF A 0 d.toNatClampNeg)
def optD (A : LA) (k : Nat) : Int32 := if k < aN A 0 then nI k else -1
def plF (B : Int32 → Bool) (G : Int32 → Int32) (D : Nat → Int32) : Nat → Nat → Int32 → Int32 → Bool → Int32 × Int32 × Bool
  | 0, _, b, w, f => (b, w, f)
  | c + 1, k, b, w, f => if B (D k) = true then plF B G D c (k + 1) b w f else if f = false ∨ b < G (D k) then plF B G D c (k + 1) (G (D k)) (D k) true else plF B G D c (k + 1) b w f
def gaiN (A : LA) : Nat → (Nat → Int32) → Int32
  | 0, _ => 0
  | n + 1, r => (plF (blk A r) (fun d => glo A d + (if childR A r d 4 = r 4 then gaiN A n (childR A r d) else -(gaiN A n (childR A r d)))) (optD A) (aN A 0 + 1) 0 0 (-1) false).1
def gaG (A : LA) (n : Nat) (r : Nat → Int32) (d : Int32) : Int32 := glo A d + (if childR A r d 4 = r 4 then gaiN A n (childR A r d) else -(gaiN A n (childR A r d)))
def pl3 (A : LA) (n : Nat) (r : Nat → Int32) : Int32 × Int32 × Bool := plF (blk A r) (gaG A n r) (optD A) (aN A 0 + 1) 0 0 (-1) false
theorem gaiN_s (A : LA) (n : Nat) (r : Nat → Int32) : gaiN A (n + 1) r = (pl3 A n r).1 := rfl
theorem optD_ok {A : LA} (k : Nat) : dOk A (optD A k) := by
  unfold optD
  by_cases h : k < aN A 0
  · rw [if_pos h]; exact Or.inr ⟨k, h, rfl⟩
  · rw [if_neg h]; exact Or.inl rfl
theorem inZ_0 (n : Nat) : inZ 0 n := by
  unfold inZ
  rw [show ((0 : Int32)).toInt = 0 from by decide]
  omega
theorem plF_f {B : Int32 → Bool} {G : Int32 → Int32} {D : Nat → Int32} : ∀ (c k : Nat) (b w : Int32) (f : Bool), B (D (k + c)) = false → (plF B G D (c + 1) k b w f).2.2 = true := by
  intro c
  induction c with
  | zero =>
    intro k b w f h
    rw [Nat.add_zero] at h
    unfold plF
    rw [h, if_neg (by decide)]
    by_cases q : f = false ∨ b < G (D k)
    · rw [if_pos q]; rfl
    · rw [if_neg q]
      cases f with
      | false => exact absurd (Or.inl rfl) q
      | true => rfl
  | succ c ih =>
    intro k b w f h
    have h2 : B (D (k + 1 + c)) = false := by rw [show k + 1 + c = k + (c + 1) by omega]; exact h
    unfold plF
    by_cases q0 : B (D k) = true
    · rw [if_pos q0]; exact ih _ _ _ _ h2
    · rw [if_neg q0]
      by_cases q : f = false ∨ b < G (D k)
      · rw [if_pos q]; exact ih _ _ _ _ h2
      · rw [if_neg q]; exact ih _ _ _ _ h2
theorem plF_B {B : Int32 → Bool} {G : Int32 → Int32} {D : Nat → Int32} {n : Nat} (hG : ∀ j, inZ (G (D j)) n) : ∀ (c k : Nat) (b w : Int32) (f : Bool), inZ b n → inZ (plF B G D c k b w f).1 n := by
  intro c
  induction c with
  | zero => intro k b w f h; exact h
  | succ c ih =>
    intro k b w f h
    unfold plF
    by_cases q0 : B (D k) = true
    · rw [if_pos q0]; exact ih _ _ _ _ h
    · rw [if_neg q0]
      by_cases q : f = false ∨ b < G (D k)
      · rw [if_pos q]; exact ih _ _ _ _ (hG k)
      · rw [if_neg q]; exact ih _ _ _ _ h
theorem glo_B {A : LA} (hA : okA A) {d : Int32} (hd : dOk A d) : inZ (glo A d) 20 := by
  have h7 := hA.1
  unfold glo
  rcases hd with e | ⟨n, hn, e⟩
  · rw [if_pos e]; exact inZ_0 20
  · rw [e, if_neg (nI_neg1 (by omega)), nI_clamp (by omega)]
    exact (hA.2.2.2.2.2.2.2.1 n hn).2.2.2
theorem gaG_B' {A : LA} (hA : okA A) {n : Nat} (hn : n < 1000) (h : ∀ r, inZ (gaiN A n r) (20 * n)) (r : Nat → Int32) {d : Int32} (hd : dOk A d) : inZ (gaG A n r d) (20 * (n + 1)) := by
  have e : ∀ x, inZ x (20 * n) → inZ (glo A d + x) (20 * (n + 1)) := fun x hx => by
    have := inZ_add (glo_B hA hd) hx (by omega)
    rw [show 20 + 20 * n = 20 * (n + 1) by omega] at this
    exact this
  unfold gaG
  split
  · exact e _ (h _)
  · exact e _ (inZ_neg (h _) (by omega)).1
theorem gaiN_B {A : LA} (hA : okA A) : ∀ n : Nat, n < 1000 → ∀ r, inZ (gaiN A n r) (20 * n) := by
  intro n
  induction n with
  | zero => intro _ r; exact inZ_0 _
  | succ n ih =>
    intro hn r
    rw [gaiN_s]
    exact plF_B (fun j => gaG_B' hA (by omega) (ih (by omega)) r (optD_ok j)) _ _ _ _ _ (inZ_0 _)
theorem gaG_B {A : LA} (hA : okA A) {n : Nat} (hn : n < 1000) (r : Nat → Int32) {d : Int32} (hd : dOk A d) : inZ (gaG A n r d) (20 * (n + 1)) := gaG_B' hA hn (gaiN_B hA n hn) r hd
theorem okR_child {A : LA} {Y Z : Nat} {d : Int32} {r : Nat → Int32} (h : okR A Y Z r) (hA : okA A) (hd : dOk A d) (hZ : Z < 10 ^ 9) : okR A (Y + 1) (Z + 20) (childR A r d) := okR_live h hA hd hZ
-- the class: nodes
theorem ldN_nI {β : Type} {i : Nat} {k : Nat → Option β} (h : i < 4) : ldN (nI i) k = k (61 + 5 * i) := by
  unfold ldN
  rw [nI_clamp (by omega), if_neg]
  rintro (q | q)
  · exact nI_pos (by omega) q
  · omega
theorem nd_ok {k : Nat} (h : k < 4) : kd (61 + 5 * k) = 2 := (by decide : ∀ k, k < 4 → kd (61 + 5 * k) = 2) k h
def cN (A : LA) (M : Mem) (k : Nat) (Q : Nat → Nat → Int32) (M1 : Mem) : Prop := RO M M1 ∧ LandC A M1 ∧ ∀ j, j < k → rC M1 (61 + 5 * j) = Q j
theorem cN.fr {A : LA} {M M1 M2 : Mem} {k k2 : Nat} {Q : Nat → Nat → Int32} (h : cN A M k Q M1) (f : frC (61 + 5 * k2) M1 M2) (h1 : k ≤ k2) (h2 : k2 < 4) : cN A M k Q M2 :=
  ⟨h.1.tr (f.RO (Or.inl ⟨by omega, by omega⟩)), h.2.1.fr (nd_ok h2) f, fun j hj => by rw [rC_fr f (nd_ok (by omega)) (by omega)]; exact h.2.2 j hj⟩
theorem cN.s49 {A : LA} {M M1 : Mem} {k : Nat} {Q : Nat → Nat → Int32} {v : Int32} (h : cN A M k Q M1) : cN A M k Q (sI M1 49 3 v) :=
  ⟨h.1.st (by unfold scr; omega), h.2.1.mv gR_sI (fun c j x => gI_sa (by omega)), fun j hj => by rw [rC_n (by omega)]; exact h.2.2 j hj⟩
theorem cN.dn {A : LA} {M M1 : Mem} {k : Nat} {Q : Nat → Nat → Int32} {r1 : Nat → Int32} (h : cN A M (k + 1) (fun j => if j = k then r1 else Q j) M1) : cN A M k Q M1 :=
  ⟨h.1, h.2.1, fun j hj => (h.2.2 j (by omega)).trans (if_neg (by omega))⟩
theorem cN.L0 {A : LA} {M M1 : Mem} {k : Nat} {Q : Nat → Nat → Int32} (h : cN A M k Q M1) : gI M1 (gR M 28 0) 0 = nI (aN A 0) := by
  have := h.2.1.2.1
  rw [h.1.gR] at this
  exact this
theorem cN.L14 {A : LA} {M M1 : Mem} {k : Nat} {Q : Nat → Nat → Int32} (h : cN A M k Q M1) {j : Nat} (hj : j < aN A 0) : gI M1 (gR M 28 0 + 1) j = aF A 0 j ∧ gI M1 (gR M 28 0 + 4) j = aF A 3 j := by
  have := h.2.1.2.2.2.2.2.2.2.2.1 j hj
  rw [h.1.gR] at this
  exact ⟨this.1, this.2.2.2⟩
theorem behind_ok {A : LA} {M : Mem} {k n Y Z : Nat} {r r1 : Nat → Int32} {Q : Nat → Nat → Int32} {rr : Mem → Int32 → Int32 → Option (Int32 × Mem)} {d : Int32} (hA : okA A) (hk : k + 1 < 4) (hR : okR A Y Z r) (hZ : Z < 10 ^ 6) (hr1 : r1 = gathR r (harvR A r)) (hQ : Q k = r1) (hd : dOk A d)
    (H : ∀ M1, cN A M (k + 1) Q M1 → rC M1 (61 + 5 * (k + 1)) = childR A r d → ∃ M2, rr M1 (nI (k + 1)) (nI n) = some (gaiN A n (childR A r d), M2) ∧ cN A M (k + 1) Q M2) {M1 : Mem} (h : cN A M (k + 1) Q M1) :
    ∃ M2, fX2_gainBehind rr M1 (nI k) d (nI (n + 1)) = some (if childR A r d 4 = r 4 then gaiN A n (childR A r d) else -(gaiN A n (childR A r d)), M2) ∧ cN A M (k + 1) Q M2 := by
  have kk : kd (61 + 5 * k) = 2 := nd_ok (by omega)
  have kk1 : kd (61 + 5 * (k + 1)) = 2 := nd_ok hk
  have ek : rC M1 (61 + 5 * k) = r1 := (h.2.2 k (by omega)).trans hQ
  have hR1 : okR A Y Z r1 := by rw [hr1]; exact okR_gath hR _
  obtain ⟨C2, b1', b2', b3'⟩ := become_ok (M := M1) kk1 kk (by omega)
  have h2 : cN A M (k + 1) Q C2 := h.fr b3' (Nat.le_refl _) hk
  have e2 : rC C2 (61 + 5 * (k + 1)) = r1 := b2'.trans ek
  obtain ⟨C3, c1, c2, c3⟩ := perform_ok (M := C2) (d := d) h2.2.1 hA kk1 hd (by rw [e2]; exact hR1)
  have h3 : cN A M (k + 1) Q C3 := h2.fr c3 (Nat.le_refl _) hk
  have hR3 : okR A Y (Z + 20) (rC C3 (61 + 5 * (k + 1))) := by rw [c2, e2]; exact okR_doX hR1 hA hd (by omega)
  obtain ⟨C4, d1, d2, d3⟩ := age_ok kk1 hR3
  have h4 : cN A M (k + 1) Q C4 := h3.fr d3 (Nat.le_refl _) hk
  have hR4 : okR A (Y + 1) (Z + 20) (rC C4 (61 + 5 * (k + 1))) := by rw [d2]; exact okR_age hR3
  obtain ⟨C5, e1, e2', e3⟩ := turn_ok h4.2.1 hA kk1 hR4
  have h5 : cN A M (k + 1) Q C5 := h4.fr e3 (Nat.le_refl _) hk
  have ec : rC C5 (61 + 5 * (k + 1)) = childR A r d := by rw [e2', d2, c2, e2, hr1]; rfl
  obtain ⟨C6, f1, f2⟩ := H C5 h5 ec
  refine ⟨C6, ?_, f2⟩
  unfold fX2_gainBehind
  rw [nI_1, show (4 : Int32) = nI 4 from rfl, if_pos (by rw [lt_nI (by omega) (by omega)]; omega), ldN_nI hk, ck_t kk1, ldN_nI (by omega), ck_t kk, pu_s, ldN_nI (by omega), ck_t kk, b1', b1_s, c1, b2_s, d1, b1_s, e1, b1_s, pu_s]
  rw [show gI C5 (61 + 5 * (k + 1)) 4 = childR A r d 4 from by rw [gC_f (by decide), ec], show gI M1 (61 + 5 * k) 4 = r 4 from by rw [gC_f (by decide), ek, hr1, gathR_n (by decide) (by decide)]]
  have fb : ∀ s, fX2_gainBehind_b89 rr C5 (nI k) (nI (n + 1)) s = if s = 0 then some (-(gaiN A n (childR A r d)), C6) else some (gaiN A n (childR A r d), C6) := by
    intro s
    unfold fX2_gainBehind_b89
    rw [nI_1, nI_m1 (by omega), show n + 1 - 1 = n from rfl, f1, b2_s]
  by_cases q : childR A r d 4 = r 4
  · rw [if_pos q, if_pos q, fb, if_neg (by decide)]
  · rw [if_neg q, if_neg q, fb, if_pos rfl]
theorem plC_l {A : LA} {M : Mem} {k n : Nat} {r r1 : Nat → Int32} {Q : Nat → Nat → Int32} {rr : Mem → Int32 → Int32 → Option (Int32 × Mem)} (hA : okA A) (hM : kd (gR M 28 0) = 4) (hk : k < 4) (hn : n ≤ 3) (hr1 : r1 = gathR r (harvR A r)) (hQ : Q k = r1)
    (H : 1 ≤ n → ∀ d, dOk A d → ∀ M1, cN A M (k + 1) Q M1 → ∃ M2, fX2_gainBehind rr M1 (nI k) d (nI (n + 1)) = some (if childR A r d 4 = r 4 then gaiN A n (childR A r d) else -(gaiN A n (childR A r d)), M2) ∧ cN A M (k + 1) Q M2) :
    ∀ (c i fuel : Nat) (M1 : Mem) (b w : Int32) (f : Bool), cN A M (k + 1) Q M1 → i + c = aN A 0 + 1 → c < fuel → ∃ M2, fX2_bestGain_l58 rr fuel M1 (nI k) (nI (n + 1)) (61 + 5 * k) (gR M 28 0) b w (if f = true then 1 else 0) (nI i) = some ((plF (blk A r) (gaG A n r) (optD A) c i b w f).1, M2) ∧ cN A M (k + 1) Q M2 ∧ (k = 0 → gI M2 49 3 = (plF (blk A r) (gaG A n r) (optD A) c i b w f).2.1) := by
  have h7 := hA.1
  have kk : kd (61 + 5 * k) = 2 := nd_ok hk
  intro c
  induction c with
  | zero =>
    intro i fuel M1 b w f h hi hf
    obtain ⟨m, rfl⟩ : ∃ m, fuel = m + 1 := ⟨fuel - 1, by omega⟩
    rw [fX2_bestGain_l58, ck_t kk, ck_t hM, pu_s, h.L0, if_pos (by rw [lt_nI (by omega) (by omega)]; omega)]
    by_cases hk0 : k = 0
    · rw [if_pos (show nI k = 0 by rw [hk0]; rfl), pu_s]
      exact ⟨_, rfl, h.s49, fun _ => gI_ss⟩
    · rw [if_neg (nI_ne0 (by omega) (by omega))]
      exact ⟨_, rfl, h, fun q => absurd q hk0⟩
  | succ c ih =>
    intro i fuel M1 b w f h hi hf
    obtain ⟨m, rfl⟩ : ∃ m, fuel = m + 1 := ⟨fuel - 1, by omega⟩
    have b171 : ∀ (N : Mem) (b w : Int32) (f : Bool), cN A M (k + 1) Q N → ∃ M2, fX2_bestGain_b171 rr (fX2_bestGain_l58 rr m) N (nI k) (nI (n + 1)) (61 + 5 * k) (gR M 28 0) b w (if f = true then 1 else 0) (nI i) = some ((plF (blk A r) (gaG A n r) (optD A) c (i + 1) b w f).1, M2) ∧ cN A M (k + 1) Q M2 ∧ (k = 0 → gI M2 49 3 = (plF (blk A r) (gaG A n r) (optD A) c (i + 1) b w f).2.1) := by
      intro N b w f hN
      unfold fX2_bestGain_b171
      rw [ck_t kk, ck_t hM, pu_s, nI_1]
      exact ih (i + 1) m N b w f hN (by omega) (by omega)
    have hd := optD_ok (A := A) i
    have b148 : ∀ (N : Mem), cN A M (k + 1) Q N → blk A r (optD A i) = false → ∃ M2, fX2_bestGain_b148 rr (fX2_bestGain_l58 rr m) N (nI k) (nI (n + 1)) (61 + 5 * k) (gR M 28 0) b w (if f = true then 1 else 0) (nI i) (optD A i) (gaG A n r (optD A i)) = some ((plF (blk A r) (gaG A n r) (optD A) (c + 1) i b w f).1, M2) ∧ cN A M (k + 1) Q M2 ∧ (k = 0 → gI M2 49 3 = (plF (blk A r) (gaG A n r) (optD A) (c + 1) i b w f).2.1) := by
      intro N hN hB
      unfold fX2_bestGain_b148
      rw [ck_t kk, ck_t hM, plF, hB, if_neg (show ¬ false = true by decide)]
      have b160 : ∀ x, fX2_bestGain_b160 rr (fX2_bestGain_l58 rr m) N (nI k) (nI (n + 1)) (61 + 5 * k) (gR M 28 0) (nI i) (optD A i) x = fX2_bestGain_b171 rr (fX2_bestGain_l58 rr m) N (nI k) (nI (n + 1)) (61 + 5 * k) (gR M 28 0) x (optD A i) (if true = true then 1 else 0) (nI i) := by
        intro x
        unfold fX2_bestGain_b160
        rw [ck_t kk, ck_t hM, if_pos rfl]
      cases f with
      | false =>
        rw [if_neg (show ¬ false = true by decide), if_pos rfl, if_pos (Or.inl rfl), b160]
        exact b171 N _ _ true hN
      | true =>
        rw [if_pos (show true = true from rfl), if_neg (show ¬ (1 : Int32) = 0 by decide)]
        by_cases q : b < gaG A n r (optD A i)
        · rw [if_pos q, if_pos (Or.inr q), b160]
          exact b171 N _ _ true hN
        · rw [if_neg q, if_neg (by rintro (z | z); exact absurd z (by decide); exact q z)]
          exact b171 N _ _ true hN
    have b110 : blk A r (optD A i) = false → ∃ M2, fX2_bestGain_b110 rr (fX2_bestGain_l58 rr m) M1 (nI k) (nI (n + 1)) (61 + 5 * k) (gR M 28 0) b w (if f = true then 1 else 0) (nI i) (optD A i) = some ((plF (blk A r) (gaG A n r) (optD A) (c + 1) i b w f).1, M2) ∧ cN A M (k + 1) Q M2 ∧ (k = 0 → gI M2 49 3 = (plF (blk A r) (gaG A n r) (optD A) (c + 1) i b w f).2.1) := by
      intro hB
      have b128 : ∃ M2, fX2_bestGain_b128 rr (fX2_bestGain_l58 rr m) M1 (nI k) (nI (n + 1)) (61 + 5 * k) (gR M 28 0) b w (if f = true then 1 else 0) (nI i) (optD A i) (glo A (optD A i)) = some ((plF (blk A r) (gaG A n r) (optD A) (c + 1) i b w f).1, M2) ∧ cN A M (k + 1) Q M2 ∧ (k = 0 → gI M2 49 3 = (plF (blk A r) (gaG A n r) (optD A) (c + 1) i b w f).2.1) := by
        unfold fX2_bestGain_b128
        have h1 : ((1 : Int32) < nI (n + 1)) = (1 < n + 1) := lt_nI (a := 1) (by omega) (by omega)
        rw [ck_t kk, ck_t hM]
        by_cases hn0 : n = 0
        · rw [if_neg (by rw [h1]; omega)]
          have : glo A (optD A i) = gaG A n r (optD A i) := by
            unfold gaG
            rw [hn0]
            unfold gaiN
            rw [show -(0 : Int32) = 0 by decide, ite_self, Int32.add_zero]
          rw [this]
          exact b148 M1 h hB
        · obtain ⟨C2, p1, p2⟩ := H (by omega) (optD A i) hd M1 h
          rw [if_pos (by rw [h1]; omega), p1, b2_s, pu_s]
          exact b148 C2 p2 hB
      unfold fX2_bestGain_b110
      rw [ck_t kk, ck_t hM]
      rcases hd with e | ⟨j, hj, e⟩
      · rw [if_pos e]
        have : glo A (optD A i) = 0 := by unfold glo; rw [if_pos e]
        rw [this] at b128
        exact b128
      · have e1 : ¬ optD A i = -1 := by rw [e]; exact nI_neg1 (by omega)
        have : glo A (optD A i) = aF A 3 j := by unfold glo; rw [if_neg e1, e, nI_clamp (by omega)]
        rw [if_neg e1]
        rw [this] at b128
        have q : ∀ (D : Int32) (K : Int32 → Option (Int32 × Mem)), D = nI j → ldI M1 (gR M 28 0 + 4) 7 D K = K (aF A 3 j) := fun D K hD => by rw [hD, ldI_nI (by omega) (by decide), (h.L14 hj).2]
        rw [q _ _ e]
        exact b128
    have b84 : ∃ M2, fX2_bestGain_b84 rr (fX2_bestGain_l58 rr m) M1 (nI k) (nI (n + 1)) (61 + 5 * k) (gR M 28 0) b w (if f = true then 1 else 0) (nI i) (optD A i) = some ((plF (blk A r) (gaG A n r) (optD A) (c + 1) i b w f).1, M2) ∧ cN A M (k + 1) Q M2 ∧ (k = 0 → gI M2 49 3 = (plF (blk A r) (gaG A n r) (optD A) (c + 1) i b w f).2.1) := by
      unfold fX2_bestGain_b84
      rw [ck_t kk, ck_t hM]
      rcases hd with e | ⟨j, hj, e⟩
      · rw [if_pos e]
        exact b110 (by unfold blk; rw [if_pos e])
      · have e1 : ¬ optD A i = -1 := by rw [e]; exact nI_neg1 (by omega)
        have q : ∀ (D : Int32) (K : Int32 → Option (Int32 × Mem)), D = nI j → ldI M1 (gR M 28 0 + 1) 7 D K = K (aF A 0 j) := fun D K hD => by rw [hD, ldI_nI (by omega) (by decide), (h.L14 hj).1]
        have hb : blk A r (optD A i) = decide (r1 0 < aF A 0 j) := by unfold blk; rw [if_neg e1, e, nI_clamp (by omega), hr1]
        rw [if_neg e1, q _ _ e, pu_s, gC_f (by decide), h.2.2 k (by omega), hQ]
        by_cases hc : r1 0 < aF A 0 j
        · rw [if_pos hc]
          have hB : blk A r (optD A i) = true := by rw [hb]; exact decide_eq_true hc
          rw [plF, if_pos hB]
          exact b171 M1 b w f h
        · rw [if_neg hc]
          exact b110 (by rw [hb]; exact decide_eq_false hc)
    rw [fX2_bestGain_l58, ck_t kk, ck_t hM, pu_s, h.L0, if_neg (by rw [lt_nI (by omega) (by omega)]; omega), pu_s]
    by_cases hi2 : i < aN A 0
    · have : optD A i = nI i := by unfold optD; rw [if_pos hi2]
      rw [this] at b84
      rw [if_pos (by rw [lt_nI (by omega) (by omega)]; exact hi2)]
      exact b84
    · have : optD A i = -1 := by unfold optD; rw [if_neg hi2]
      rw [this] at b84
      rw [if_neg (by rw [lt_nI (by omega) (by omega)]; exact hi2)]
      exact b84
theorem bestC {A : LA} {M : Mem} (hA : okA A) (hM : kd (gR M 28 0) = 4) : ∀ (n k fuel : Nat) (M1 : Mem) (r : Nat → Int32) (Y Z : Nat) (Q : Nat → Nat → Int32), k + (n + 1) ≤ 4 → n + 1 ≤ fuel → cN A M k Q M1 → rC M1 (61 + 5 * k) = r → okR A Y Z r → Y + n < 10 ^ 5 → Z + 20 * n < 10 ^ 5 → ∃ M2, fX2_bestGain fuel M1 (nI k) (nI (n + 1)) = some (gaiN A (n + 1) r, M2) ∧ cN A M k Q M2 ∧ (k = 0 → gI M2 49 3 = (pl3 A n r).2.1) := by
  have h7 := hA.1
  intro n
  induction n with
  | zero =>
    intro k fuel M1 r Y Z Q hk hf h er hR hY hZ
    obtain ⟨m, rfl⟩ : ∃ m, fuel = m + 1 := ⟨fuel - 1, by omega⟩
    have kk : kd (61 + 5 * k) = 2 := nd_ok (by omega)
    have hRC : okR A Y Z (rC M1 (61 + 5 * k)) := by rw [er]; exact hR
    obtain ⟨y, hy, ey⟩ := hRC.2.2.2.1
    have hh : harvR A r = if aN A 1 = 0 then 20 else aF A 4 (y % aN A 1) := by
      unfold harvR
      rw [← er, ey, nI_clamp (by omega)]
    obtain ⟨C2, c1, c2, c3⟩ := reap_ok (h := harvR A r) kk hRC (harvR_B hA)
    have h2 : cN A M (k + 1) (fun j => if j = k then gathR r (harvR A r) else Q j) C2 := by
      have := h.fr c3 (Nat.le_refl _) (by omega)
      refine ⟨this.1, this.2.1, fun j hj => ?_⟩
      by_cases q : j = k
      · subst q; exact (c2.trans (by rw [er])).trans (if_pos rfl).symm
      · exact (this.2.2 j (by omega)).trans (if_neg q).symm
    obtain ⟨C3, p1, p2, p3⟩ := plC_l (n := 0) (rr := fX2_bestGain m) (r := r) hA hM (by omega) (by omega) rfl (if_pos rfl) (fun q => absurd q (by omega)) (aN A 0 + 1) 0 FU C2 0 (-1) false h2 (by omega) (by show _ < 100000; omega)
    refine ⟨C3, ?_, p2.dn, p3⟩
    rw [fX2_bestGain]
    unfold fX2_bestGain_s
    rw [show (4 : Int32) = nI 4 from rfl, if_pos (by rw [lt_nI (by omega) (by omega)]; omega), ldN_nI (by omega), ck_t kk, pu_s, h.1.gR, ck_t hM, pu_s, gC_f (by decide), ey, harvC_ok h.2.1 hA (by omega), b1_s, ← hh, c1, b1_s]
    exact p1
  | succ n ih =>
    intro k fuel M1 r Y Z Q hk hf h er hR hY hZ
    obtain ⟨m, rfl⟩ : ∃ m, fuel = m + 1 := ⟨fuel - 1, by omega⟩
    have kk : kd (61 + 5 * k) = 2 := nd_ok (by omega)
    have hRC : okR A Y Z (rC M1 (61 + 5 * k)) := by rw [er]; exact hR
    obtain ⟨y, hy, ey⟩ := hRC.2.2.2.1
    have hh : harvR A r = if aN A 1 = 0 then 20 else aF A 4 (y % aN A 1) := by
      unfold harvR
      rw [← er, ey, nI_clamp (by omega)]
    obtain ⟨C2, c1, c2, c3⟩ := reap_ok (h := harvR A r) kk hRC (harvR_B hA)
    have h2 : cN A M (k + 1) (fun j => if j = k then gathR r (harvR A r) else Q j) C2 := by
      have := h.fr c3 (Nat.le_refl _) (by omega)
      refine ⟨this.1, this.2.1, fun j hj => ?_⟩
      by_cases q : j = k
      · subst q; exact (c2.trans (by rw [er])).trans (if_pos rfl).symm
      · exact (this.2.2 j (by omega)).trans (if_neg q).symm
    have H : 1 ≤ n + 1 → ∀ d, dOk A d → ∀ M1, cN A M (k + 1) (fun j => if j = k then gathR r (harvR A r) else Q j) M1 → ∃ M2, fX2_gainBehind (fX2_bestGain m) M1 (nI k) d (nI (n + 1 + 1)) = some (if childR A r d 4 = r 4 then gaiN A (n + 1) (childR A r d) else -(gaiN A (n + 1) (childR A r d)), M2) ∧ cN A M (k + 1) (fun j => if j = k then gathR r (harvR A r) else Q j) M2 := by
      intro _ d hd N hN
      refine behind_ok (n := n + 1) (r1 := gathR r (harvR A r)) hA (by omega) hR (by omega) rfl (if_pos rfl) hd (fun N1 g1 g2 => ?_) hN
      obtain ⟨N2, q1, q2, -⟩ := ih (k + 1) m N1 (childR A r d) (Y + 1) (Z + 20) _ (by omega) (by omega) g1 g2 (okR_child hR hA hd (by omega)) (by omega) (by omega)
      exact ⟨N2, q1, q2⟩
    obtain ⟨C3, p1, p2, p3⟩ := plC_l (n := n + 1) (rr := fX2_bestGain m) (r := r) hA hM (by omega) (by omega) rfl (if_pos rfl) H (aN A 0 + 1) 0 FU C2 0 (-1) false h2 (by omega) (by show _ < 100000; omega)
    refine ⟨C3, ?_, p2.dn, p3⟩
    rw [fX2_bestGain]
    unfold fX2_bestGain_s
    rw [show (4 : Int32) = nI 4 from rfl, if_pos (by rw [lt_nI (by omega) (by omega)]; omega), ldN_nI (by omega), ck_t kk, pu_s, h.1.gR, ck_t hM, pu_s, gC_f (by decide), ey, harvC_ok h.2.1 hA (by omega), b1_s, ← hh, c1, b1_s]
    exact p1
theorem planned_ok {A : LA} {M M0 : Mem} {n : Nat} (h : Rel A M) (f : RO M M0) (hn : n < 4) : ∃ M2, fX2_planned M0 81 (nI (n + 1)) = some (gaiN A (n + 1) (rB M 0), M2) ∧ RO M M2 ∧ gI M2 49 3 = (pl3 A n (rB M 0)).2.1 := by
  obtain ⟨C1, c1, w1, g1⟩ := v_start (k := 61) (by decide) (by decide) h f
  obtain ⟨C2, p1, p2, p3⟩ := bestC h.1 h.2.1.1 n 0 5 C1 (rB M 0) 999 19980 (fun _ => rB M 0) (by omega) (by omega) ⟨w1.1, w1.2.1, fun j hj => absurd hj (by omega)⟩ w1.2.2.1 h.okR (by omega) (by omega)
  refine ⟨C2, ?_, p2.1, p3 rfl⟩
  unfold fX2_planned
  rw [ck_t (show kd 81 = 2 by decide), show (0 : Int32) = nI 0 from rfl, ldN_nI (by decide), ck_t (show kd (61 + 5 * 0) = 2 by decide), show fX3_become M0 (61 + 5 * 0) 81 = _ from c1, b1_s, p1, b2_s]
