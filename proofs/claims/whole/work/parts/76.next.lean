/-! QUESTIONS: the next year that tells -/
abbrev SX : Type := Nat × (Nat → Nat → Int32)
/-- one row more behind those that fit -/
def sxA (s : SX) (v : Nat → Int32) : SX := (s.1 + 1, fun a k => if a = s.1 then v k else s.2 a k)
def nxI (R : Nat → Nat → Bool) (V : Nat → Nat → Nat → Int32) (y : Nat) : Nat → Nat → SX → SX
  | 0, _, s => s
  | d + 1, k, s => nxI R V y d (k + 1) (if R y k = true then sxA s (V y k) else s)
def nxO (R : Nat → Nat → Bool) (V : Nat → Nat → Nat → Int32) (N : Nat) : Nat → Nat → SX → SX
  | 0, _, s => s
  | c + 1, y, s => nxO R V N c (y + 1) (nxI R V y N 0 s)
/-- how many unlike ones there are in a column -/
def cnS (S : Nat → Nat → Int32) (k : Nat) : Nat → Nat
  | 0 => 0
  | m + 1 => cnS S k m + (if ∀ c, c < m → ¬ S c k = S m k then 1 else 0)
theorem cnS_c {S T : Nat → Nat → Int32} {k : Nat} : ∀ m : Nat, (∀ a, a < m → S a k = T a k) → cnS S k m = cnS T k m := by
  intro m
  induction m with
  | zero => intro _; rfl
  | succ m ih =>
    intro h
    have e : (∀ c, c < m → ¬ S c k = S m k) ↔ ∀ c, c < m → ¬ T c k = T m k := by
      constructor
      · intro q c hc z; exact q c hc (by rw [h c (by omega), h m (by omega)]; exact z)
      · intro q c hc z; exact q c hc (by rw [← h c (by omega), ← h m (by omega)]; exact z)
    unfold cnS
    rw [ih fun a ha => h a (by omega)]
    by_cases q : ∀ c, c < m → ¬ T c k = T m k
    · rw [if_pos q, if_pos (e.mpr q)]
    · rw [if_neg q, if_neg fun z => q (e.mp z)]
theorem cnS_A {s : SX} {v : Nat → Int32} {k : Nat} : cnS (sxA s v).2 k (sxA s v).1 = cnS s.2 k s.1 + (if ∀ c, c < s.1 → ¬ s.2 c k = v k then 1 else 0) := by
  have e0 : ∀ c, c < s.1 → (sxA s v).2 c k = s.2 c k := fun c hc => if_neg (by omega)
  have e1 : (sxA s v).2 s.1 k = v k := if_pos rfl
  have e : (∀ c, c < s.1 → ¬ (sxA s v).2 c k = (sxA s v).2 s.1 k) ↔ ∀ c, c < s.1 → ¬ s.2 c k = v k := by
    rw [e1]
    constructor
    · intro q c hc z; exact q c hc (by rw [e0 c hc]; exact z)
    · intro q c hc z; exact q c hc (by rw [← e0 c hc]; exact z)
  show cnS (sxA s v).2 k (s.1 + 1) = _
  rw [cnS, cnS_c (T := s.2) s.1 e0]
  by_cases q : ∀ c, c < s.1 → ¬ s.2 c k = v k
  · rw [if_pos q, if_pos (e.mpr q)]
  · rw [if_neg q, if_neg fun z => q (e.mp z)]
def bsF (s : SX) (w : Int32) : Nat → Nat → Int32 → Int32 → Int32
  | 0, _, b, t => if w = 0 then b else t
  | d + 1, k, b, t => if t < nI (cnS s.2 k s.1) then bsF s w d (k + 1) (nI (k + 1)) (nI (cnS s.2 k s.1)) else bsF s w d (k + 1) b t
-- longs
theorem gL_sL {M : Mem} {a j b k : Nat} {v : Int64} : gL (sL M a j v) b k = if b = a ∧ k = j then v else gL M b k := by
  show va_up M.2.1 a (vp_updL (M.2.1 a) j v) b k = _
  unfold va_up
  by_cases hb : b = a
  · subst hb
    rw [if_pos rfl]
    unfold vp_updL
    by_cases hk : k = j
    · rw [if_pos hk, if_pos ⟨rfl, hk⟩]
    · rw [if_neg hk, if_neg (fun q => hk q.2)]; rfl
  · rw [if_neg hb, if_neg (fun q => hb q.1)]; rfl
theorem gI_sL {M : Mem} {a j b k : Nat} {v : Int64} : gI (sL M a j v) b k = gI M b k := Eq.trans rfl rfl
theorem ldL_nI {β : Type} {M : Mem} {a n i : Nat} {k : Int64 → Option β} (h : i < n) (hn : n < 2 ^ 31) : ldL M a n (nI i) k = k (gL M a i) := by
  unfold ldL
  rw [nI_clamp (Nat.lt_trans h hn), if_neg]
  rintro (q | q)
  · exact nI_pos (Nat.lt_trans h hn) q
  · omega
theorem stL_nI {β : Type} {M : Mem} {a n i : Nat} {v : Int64} {k : Mem → Option β} (h : i < n) (hn : n < 2 ^ 31) : stL M a n (nI i) v k = k (sL M a i v) := by
  unfold stL
  rw [nI_clamp (Nat.lt_trans h hn), if_neg]
  rintro (q | q)
  · exact nI_pos (Nat.lt_trans h hn) q
  · omega
def bit6 (i : Nat) : Int64 := (1 : Int64) <<< (Int32.toInt64 (nI i) &&& 63 : Int64)
theorem bit6_bv : ∀ i, i < 64 → (bit6 i).toBitVec = BitVec.twoPow 64 i := by decide +kernel
def on6 (w : Int64) (i : Nat) : Bool := w.toBitVec.getLsbD i
theorem lcmp_0 (x : Int64) : lg_cmp x 0 = 0 ↔ x = 0 := by
  unfold lg_cmp
  constructor
  · intro h
    by_cases h1 : x > 0
    · rw [if_pos h1] at h; exact absurd h (by decide)
    · rw [if_neg h1] at h
      by_cases h2 : x = 0
      · exact h2
      · rw [if_neg h2] at h; exact absurd h (by decide)
  · intro h
    rw [h]
    decide
theorem test6 {w : Int64} {i : Nat} (hi : i < 64) : lg_cmp (w &&& bit6 i) 0 = 0 ↔ on6 w i = false := by
  rw [lcmp_0, ← Int64.toBitVec_inj, Int64.toBitVec_and, bit6_bv i hi, BitVec.and_twoPow]
  unfold on6
  cases e : w.toBitVec.getLsbD i
  · rw [if_neg (by decide)]
    exact ⟨fun _ => rfl, fun _ => rfl⟩
  · rw [if_pos rfl]
    constructor
    · intro h
      have := congrArg (fun b => b.getLsbD i) h
      simp only [BitVec.getLsbD_twoPow] at this
      rw [show ((0 : Int64)).toBitVec = 0#64 from rfl, BitVec.getLsbD_zero] at this
      simp [hi] at this
    · intro h; exact absurd h (by decide)
theorem set6 {w : Int64} {i j : Nat} (hi : i < 64) : on6 (w ||| bit6 i) j = (on6 w j || decide (i = j)) := by
  unfold on6
  rw [Int64.toBitVec_or, bit6_bv i hi, BitVec.getLsbD_or, BitVec.getLsbD_twoPow, decide_eq_true hi, Bool.true_and]
theorem zero6 {j : Nat} : on6 0 j = false := by
  unfold on6
  rw [show ((0 : Int64)).toBitVec = 0#64 from rfl, BitVec.getLsbD_zero]
-- the class: a column
def colC (s : SX) (k : Nat) (M : Mem) : Prop := gI M 58 k = nI (cnS s.2 k s.1) ∧ ∀ v, v < 1024 → (on6 (gL M 57 (16 * k + v / 64)) (v % 64) = true ↔ ∃ c, c < s.1 ∧ s.2 c k = nI v)
theorem colC.mv {s : SX} {k : Nat} {M M1 : Mem} (h : colC s k M) (h1 : gI M1 58 k = gI M 58 k) (h2 : ∀ j, 16 * k ≤ j → j < 16 * k + 16 → gL M1 57 j = gL M 57 j) : colC s k M1 := ⟨h1.trans h.1, fun v hv => by
  rw [h2 _ (by omega) (by omega)]
  exact h.2 v hv⟩
theorem ex_A {s : SX} {u : Nat → Int32} {k v vk : Nat} (hu : u k = nI vk) (hv : v < 2 ^ 31) (hvk : vk < 2 ^ 31) : (∃ c, c < (sxA s u).1 ∧ (sxA s u).2 c k = nI v) ↔ ((∃ c, c < s.1 ∧ s.2 c k = nI v) ∨ vk = v) := by
  have e0 : ∀ c, c < s.1 → (sxA s u).2 c k = s.2 c k := fun c hc => if_neg (by omega)
  have e1 : (sxA s u).2 s.1 k = u k := if_pos rfl
  constructor
  · rintro ⟨c, h1, h2⟩
    by_cases q : c < s.1
    · rw [e0 c q] at h2; exact Or.inl ⟨c, q, h2⟩
    · have : c = s.1 := by have : c < s.1 + 1 := h1; omega
      rw [this, e1, hu, eq_nI hvk hv] at h2
      exact Or.inr h2
  · rintro (⟨c, h1, h2⟩ | h)
    · exact ⟨c, Nat.lt_succ_of_lt h1, (e0 c h1).trans h2⟩
    · exact ⟨s.1, Nat.lt_succ_self _, by rw [e1, hu, h]⟩
theorem mark_l {M : Mem} {s : SX} {u : Nat → Int32} {vs : Nat → Nat} (hu : ∀ k, k < 30 → u k = nI (vs k) ∧ vs k ≤ 999) : ∀ (d i fuel : Nat) (M1 : Mem), RO M M1 → (∀ k, k < 30 → gI M1 56 k = u k) → (∀ k, k < i → colC (sxA s u) k M1) → (∀ k, i ≤ k → k < 30 → colC s k M1) → i + d = 30 → d < fuel → ∃ M2, fX2_markStores_l2 fuel M1 (nI i) = some M2 ∧ RO M M2 ∧ ∀ k, k < 30 → colC (sxA s u) k M2 := by
  intro d
  induction d with
  | zero =>
    intro i fuel M1 f h56 hn ho hi hf
    obtain ⟨m, rfl⟩ : ∃ m, fuel = m + 1 := ⟨fuel - 1, by omega⟩
    rw [fX2_markStores_l2, show (30 : Int32) = nI 30 from rfl, if_neg (by rw [lt_nI (by omega) (by omega)]; omega)]
    exact ⟨M1, rfl, f, fun k hk => hn k (by omega)⟩
  | succ d ih =>
    intro i fuel M1 f h56 hn ho hi hf
    obtain ⟨m, rfl⟩ : ∃ m, fuel = m + 1 := ⟨fuel - 1, by omega⟩
    have hi30 : i < 30 := by omega
    obtain ⟨e1, e2⟩ := hu i hi30
    have hm := Nat.mod_lt (vs i) (show 0 < 64 by decide)
    obtain ⟨c1, c2⟩ := ho i (Nat.le_refl _) hi30
    have b81 : ∀ N, RO M N → (∀ k, k < 30 → gI N 56 k = u k) → (∀ k, k < i → colC (sxA s u) k N) → colC (sxA s u) i N → (∀ k, i < k → k < 30 → colC s k N) → ∃ M2, fX2_markStores_b81 (fX2_markStores_l2 m) N (nI i) = some M2 ∧ RO M M2 ∧ ∀ k, k < 30 → colC (sxA s u) k M2 := by
      intro N fN h56N q1 q2 q3
      unfold fX2_markStores_b81
      rw [pu_s, nI_1]
      refine ih (i + 1) m N fN h56N (fun k hk => ?_) (fun k hk hk2 => q3 k (by omega) hk2) (by omega) (by omega)
      by_cases q : k = i
      · rw [q]; exact q2
      · exact q1 k (by omega)
    have hw : i * 16 + vs i / 64 = 16 * i + vs i / 64 := by omega
    have hcv := c2 (vs i) (by omega)
    rw [fX2_markStores_l2, show (30 : Int32) = nI 30 from rfl, if_pos (by rw [lt_nI (by omega) (by omega)]; omega), ldI_nI hi30 (by decide), h56 i hi30, e1, pu_s, pu_s, if_neg (nI_pos (by omega)), show (16 : Int32) = nI 16 from rfl, show (64 : Int32) = nI 64 from rfl, pk_mul, pk_rem (by omega) (by decide) (by decide), pk_div (by omega) (by decide) (by decide), nI_add, show (480 : Int32) = nI 480 from rfl, if_pos (by rw [lt_nI (by omega) (by omega)]; omega), ldL_nI (by omega) (by decide), ldL_nI (by omega) (by decide), stL_nI (by omega) (by decide), ldI_nI hi30 (by decide), stI_nI hi30 (by decide), hw]
    show ∃ M2, (if lg_cmp (gL M1 57 (16 * i + vs i / 64) &&& bit6 (vs i % 64)) 0 = 0 then fX2_markStores_b81 (fX2_markStores_l2 m) (sI (sL M1 57 (16 * i + vs i / 64) (gL M1 57 (16 * i + vs i / 64) ||| bit6 (vs i % 64))) 58 i (gI M1 58 i + 1)) (nI i) else fX2_markStores_b81 (fX2_markStores_l2 m) M1 (nI i)) = some M2 ∧ RO M M2 ∧ ∀ k, k < 30 → colC (sxA s u) k M2
    by_cases q : on6 (gL M1 57 (16 * i + vs i / 64)) (vs i % 64) = false
    · rw [if_pos ((test6 hm).mpr q)]
      have hno : ¬ ∃ c, c < s.1 ∧ s.2 c i = nI (vs i) := fun z => by
        rw [hcv.mpr z] at q
        exact absurd q (by decide)
      refine b81 _ ((RO.sL f).st (by unfold scr; omega)) (fun k hk => by rw [gI_sa (by decide), gI_sL]; exact h56 k hk) (fun k hk => (hn k hk).mv (by rw [gI_sj (by omega), gI_sL]) (fun j h1 h2 => by rw [gL_sI, gL_sL, if_neg (by omega)])) ⟨?_, fun v hv => ?_⟩ (fun k hk hk2 => (ho k (by omega) hk2).mv (by rw [gI_sj (by omega), gI_sL]) (fun j h1 h2 => by rw [gL_sI, gL_sL, if_neg (by omega)]))
      · rw [gI_ss, c1, cnS_A, nI_1, if_pos]
        intro c hc z
        exact hno ⟨c, hc, by rw [z, e1]⟩
      · rw [ex_A e1 (by omega) (by omega), gL_sI, gL_sL, ← c2 v hv]
        by_cases hd : v / 64 = vs i / 64
        · rw [if_pos ⟨rfl, by omega⟩, set6 hm, hd, Bool.or_eq_true, decide_eq_true_eq]
          constructor
          · rintro (z | z)
            · exact Or.inl z
            · exact Or.inr (by omega)
          · rintro (z | z)
            · exact Or.inl z
            · exact Or.inr (by rw [z])
        · rw [if_neg (by omega)]
          constructor
          · exact Or.inl
          · rintro (z | z)
            · exact z
            · exact absurd (by rw [z]) hd
    · have q2 : on6 (gL M1 57 (16 * i + vs i / 64)) (vs i % 64) = true := by cases z : on6 (gL M1 57 (16 * i + vs i / 64)) (vs i % 64) with
        | true => rfl
        | false => exact absurd z q
      obtain ⟨c, hc1, hc2⟩ := hcv.mp q2
      rw [if_neg fun z => q ((test6 hm).mp z)]
      refine b81 M1 f h56 hn ⟨?_, fun v hv => ?_⟩ (fun k hk hk2 => ho k (by omega) hk2)
      · rw [c1, cnS_A, if_neg (fun z => z c hc1 (by rw [hc2, e1])), Nat.add_zero]
      · rw [ex_A e1 (by omega) (by omega), c2 v hv]
        constructor
        · exact Or.inl
        · rintro (z | z)
          · exact z
          · exact ⟨c, hc1, by rw [hc2, z]⟩
theorem mark_ok {M M1 : Mem} {s : SX} {u : Nat → Int32} {vs : Nat → Nat} (hu : ∀ k, k < 30 → u k = nI (vs k) ∧ vs k ≤ 999) (f : RO M M1) (h56 : ∀ k, k < 30 → gI M1 56 k = u k) (ho : ∀ k, k < 30 → colC s k M1) : ∃ M2, fX2_markStores M1 = some M2 ∧ RO M M2 ∧ ∀ k, k < 30 → colC (sxA s u) k M2 :=
  mark_l hu 30 0 FU M1 f h56 (fun k q => absurd q (by omega)) (fun k _ hk => ho k hk) (by omega) (by show _ < 100000; omega)
theorem mark_c {s : SX} {u v : Nat → Int32} (h : ∀ k, k < 30 → u k = v k) {k : Nat} (hk : k < 30) {M : Mem} (hc : colC (sxA s u) k M) : colC (sxA s v) k M := by
  have e : ∀ a, (sxA s u).2 a k = (sxA s v).2 a k := fun a => by
    show (if a = s.1 then u k else s.2 a k) = (if a = s.1 then v k else s.2 a k)
    rw [h k hk]
  refine ⟨hc.1.trans (by rw [cnS_c (T := (sxA s v).2) (sxA s u).1 fun a _ => e a]; rfl), fun x hx => (hc.2 x hx).trans ?_⟩
  constructor
  · rintro ⟨c, h1, h2⟩; exact ⟨c, h1, (e c).symm.trans h2⟩
  · rintro ⟨c, h1, h2⟩; exact ⟨c, h1, (e c).trans h2⟩
def vOf (A : LA) (r : Nat → Int32) (y k i : Nat) : Int32 := oneR A r y (nI k) (i + 1) 0
theorem vOf_B {A : LA} {M : Mem} (h : Rel A M) {y k : Nat} (hk : k < aN A 0) : ∃ vs : Nat → Nat, ∀ i, i < 30 → vOf A (rB M 0) y k i = nI (vs i) ∧ vs i ≤ 999 := by
  refine ⟨fun i => (vOf A (rB M 0) y k i).toNatClampNeg, fun i hi => ?_⟩
  have := (okR_one (y := y) h.okR h.1 (Or.inr ⟨k, hk, rfl⟩) (by decide) (i + 1) (by omega)).1
  exact inB_0 this (by decide)
theorem surI {A : LA} {M : Mem} {n : Nat} {sy : Nat → Nat} {ss : Nat → Int32} {y : Nat} (h : Rel A M) (hC : seC n sy ss M) (hn : n ≤ 8) (hs : ∀ i, i < n → 1 ≤ sy i ∧ sy i ≤ 30) (hy : y ≤ 12) (a : Mem → Nat → Nat → Int32 → Option Mem) : ∀ (d k fuel : Nat) (M1 : Mem) (s : SX), RO M M1 → (∀ j, j < 30 → colC s j M1) → k + d = aN A 0 → d < fuel → ∃ M2, fX2_survey_l59 a fuel M1 81 93 (nI y) (nI k) = a M2 81 93 (nI (y + 1)) ∧ RO M M2 ∧ ∀ j, j < 30 → colC (nxI (fun y k => fitB A (rB M 0) n sy ss y (nI k)) (vOf A (rB M 0)) y d k s) j M2 := by
  have h7 := h.1.1
  have k81 : kd 81 = 2 := by decide
  have k93 : kd 93 = 8 := by decide
  intro d
  induction d with
  | zero =>
    intro k fuel M1 s f hc hk hf
    obtain ⟨m, rfl⟩ : ∃ m, fuel = m + 1 := ⟨fuel - 1, by omega⟩
    have hL := (h.ro f).2.1
    rw [fX2_survey_l59, ck_t k81, ck_t k93, pu_s, ck_t hL.1, pu_s, hL.2.1, if_neg (by rw [lt_nI (by omega) (by omega)]; omega), pu_s, nI_1]
    exact ⟨M1, rfl, f, hc⟩
  | succ d ih =>
    intro k fuel M1 s f hc hk hf
    obtain ⟨m, rfl⟩ : ∃ m, fuel = m + 1 := ⟨fuel - 1, by omega⟩
    have hL := (h.ro f).2.1
    have hk7 : k < aN A 0 := by omega
    obtain ⟨M2, p1, p2, p3, p4⟩ := fits_ok (y := y) (sp := 30) (D := nI k) h f hC hn hs (Or.inr ⟨k, hk7, rfl⟩) (by omega) (Nat.le_refl _) (fun j hj => (hs j hj).2)
    have b92 : ∀ (N : Mem) (s' : SX), RO M N → (∀ j, j < 30 → colC s' j N) → ∃ M9, fX2_survey_b92 a (fX2_survey_l59 a m) N 81 93 (nI y) (nI k) = a M9 81 93 (nI (y + 1)) ∧ RO M M9 ∧ ∀ j, j < 30 → colC (nxI (fun y k => fitB A (rB M 0) n sy ss y (nI k)) (vOf A (rB M 0)) y d (k + 1) s') j M9 := by
      intro N s' fN hN
      unfold fX2_survey_b92
      rw [ck_t k81, ck_t k93, pu_s, nI_1]
      exact ih (k + 1) m N s' fN hN (by omega) (by omega)
    have hc2 : ∀ j, j < 30 → colC s j M2 := fun j hj => (hc j hj).mv (p4.1 j) (fun i _ _ => by unfold gL; rw [p4.2])
    rw [fX2_survey_l59, ck_t k81, ck_t k93, pu_s, ck_t hL.1, pu_s, hL.2.1, if_pos (by rw [lt_nI (by omega) (by omega)]; omega), show fX2_fits M1 81 93 (nI y) (nI k) 30 = _ from p1, b2_s, nxI]
    by_cases q : fitB A (rB M 0) n sy ss y (nI k) = true
    · obtain ⟨vs, hvs⟩ := vOf_B (y := y) h hk7
      obtain ⟨M3, t1, t2, t3⟩ := mark_ok (u := vOf A (rB M 0) y k) hvs p2 (fun i hi => p3 q i hi) hc2
      rw [if_pos q, if_pos q, if_neg (show ¬ (1 : Int32) = 0 by decide), t1, b1_s]
      exact b92 M3 _ t2 t3
    · rw [if_neg q, if_neg q, if_pos (show (0 : Int32) = 0 from rfl)]
      exact b92 M2 s p2 hc2
theorem surO {A : LA} {M : Mem} {n : Nat} {sy : Nat → Nat} {ss : Nat → Int32} (h : Rel A M) (hC : seC n sy ss M) (hn : n ≤ 8) (hs : ∀ i, i < n → 1 ≤ sy i ∧ sy i ≤ 30) : ∀ (c y fuel : Nat) (M1 : Mem) (s : SX), RO M M1 → (∀ j, j < 30 → colC s j M1) → y + c = 13 → c < fuel → ∃ M2, fX2_survey_l50 fuel M1 81 93 (nI y) = some M2 ∧ RO M M2 ∧ ∀ j, j < 30 → colC (nxO (fun y k => fitB A (rB M 0) n sy ss y (nI k)) (vOf A (rB M 0)) (aN A 0) c y s) j M2 := by
  have h7 := h.1.1
  have k81 : kd 81 = 2 := by decide
  have k93 : kd 93 = 8 := by decide
  intro c
  induction c with
  | zero =>
    intro y fuel M1 s f hc hy hf
    obtain ⟨m, rfl⟩ : ∃ m, fuel = m + 1 := ⟨fuel - 1, by omega⟩
    rw [fX2_survey_l50, ck_t k81, ck_t k93, show (12 : Int32) = nI 12 from rfl, if_pos (by rw [lt_nI (by omega) (by omega)]; omega)]
    exact ⟨M1, rfl, f, hc⟩
  | succ c ih =>
    intro y fuel M1 s f hc hy hf
    obtain ⟨m, rfl⟩ : ∃ m, fuel = m + 1 := ⟨fuel - 1, by omega⟩
    obtain ⟨M2, p1, p2, p3⟩ := surI h hC hn hs (y := y) (by omega) (fX2_survey_l50 m) (aN A 0) 0 FU M1 s f hc (by omega) (by show _ < 100000; omega)
    rw [fX2_survey_l50, ck_t k81, ck_t k93, show (12 : Int32) = nI 12 from rfl, if_neg (by rw [lt_nI (by omega) (by omega)]; omega), show fX2_survey_l59 (fX2_survey_l50 m) FU M1 81 93 (nI y) 0 = _ from p1]
    exact ih (y + 1) m M2 _ p2 p3 (by omega) (by omega)
theorem sur26 {M : Mem} {P : Mem → Prop} (H : ∀ M1, RO M M1 → (∀ j, j < 480 → gL M1 57 j = 0) → (∀ j, j < 30 → gI M1 58 j = 0) → ∃ M2, fX2_survey_l50 FU M1 81 93 1 = some M2 ∧ P M2) : ∀ (d i fuel : Nat) (M1 : Mem), RO M M1 → (∀ j, j < 480 → gL M1 57 j = 0) → (∀ j, j < i → gI M1 58 j = 0) → i + d = 30 → d < fuel → ∃ M2, fX2_survey_l26 fuel M1 81 93 (nI i) = some M2 ∧ P M2 := by
  have k81 : kd 81 = 2 := by decide
  have k93 : kd 93 = 8 := by decide
  intro d
  induction d with
  | zero =>
    intro i fuel M1 f h1 h2 hi hf
    obtain ⟨m, rfl⟩ : ∃ m, fuel = m + 1 := ⟨fuel - 1, by omega⟩
    rw [fX2_survey_l26, ck_t k81, ck_t k93, show (30 : Int32) = nI 30 from rfl, if_neg (by rw [lt_nI (by omega) (by omega)]; omega)]
    exact H M1 f h1 fun j hj => h2 j (by omega)
  | succ d ih =>
    intro i fuel M1 f h1 h2 hi hf
    obtain ⟨m, rfl⟩ : ∃ m, fuel = m + 1 := ⟨fuel - 1, by omega⟩
    rw [fX2_survey_l26, ck_t k81, ck_t k93, show (30 : Int32) = nI 30 from rfl, if_pos (by rw [lt_nI (by omega) (by omega)]; omega), stI_nI (by omega) (by decide), pu_s, nI_1]
    refine ih (i + 1) m _ (f.st (by unfold scr; omega)) (fun j hj => by rw [gL_sI]; exact h1 j hj) (fun j hj => ?_) (by omega) (by omega)
    by_cases q : j = i
    · rw [q, gI_ss]
    · rw [gI_sj q]; exact h2 j (by omega)
theorem sur2 {M : Mem} {P : Mem → Prop} (H : ∀ M1, RO M M1 → (∀ j, j < 480 → gL M1 57 j = 0) → (∀ j, j < 30 → gI M1 58 j = 0) → ∃ M2, fX2_survey_l50 FU M1 81 93 1 = some M2 ∧ P M2) : ∀ (d i fuel : Nat) (M1 : Mem), RO M M1 → (∀ j, j < i → gL M1 57 j = 0) → i + d = 480 → d < fuel → ∃ M2, fX2_survey_l2 fuel M1 81 93 (nI i) = some M2 ∧ P M2 := by
  have k81 : kd 81 = 2 := by decide
  have k93 : kd 93 = 8 := by decide
  intro d
  induction d with
  | zero =>
    intro i fuel M1 f h1 hi hf
    obtain ⟨m, rfl⟩ : ∃ m, fuel = m + 1 := ⟨fuel - 1, by omega⟩
    rw [fX2_survey_l2, ck_t k81, ck_t k93, show (480 : Int32) = nI 480 from rfl, if_neg (by rw [lt_nI (by omega) (by omega)]; omega)]
    exact sur26 H 30 0 FU M1 f (fun j hj => h1 j (by omega)) (fun j q => absurd q (by omega)) (by omega) (by show _ < 100000; omega)
  | succ d ih =>
    intro i fuel M1 f h1 hi hf
    obtain ⟨m, rfl⟩ : ∃ m, fuel = m + 1 := ⟨fuel - 1, by omega⟩
    rw [fX2_survey_l2, ck_t k81, ck_t k93, show (480 : Int32) = nI 480 from rfl, if_pos (by rw [lt_nI (by omega) (by omega)]; omega), stL_nI (by omega) (by decide), pu_s, nI_1]
    refine ih (i + 1) m _ (RO.sL f) (fun j hj => ?_) (by omega) (by omega)
    rw [gL_sL]
    by_cases q : j = i
    · rw [if_pos ⟨rfl, q⟩]
    · rw [if_neg (fun z => q z.2)]; exact h1 j (by omega)
theorem survey_ok {A : LA} {M M1 : Mem} {n : Nat} {sy : Nat → Nat} {ss : Nat → Int32} (h : Rel A M) (f : RO M M1) (hC : seC n sy ss M) (hn : n ≤ 8) (hs : ∀ i, i < n → 1 ≤ sy i ∧ sy i ≤ 30) : ∃ M2, fX2_survey M1 81 93 = some M2 ∧ RO M M2 ∧ ∀ j, j < 30 → gI M2 58 j = nI (cnS (nxO (fun y k => fitB A (rB M 0) n sy ss y (nI k)) (vOf A (rB M 0)) (aN A 0) 12 1 (0, fun _ _ => 0)).2 j (nxO (fun y k => fitB A (rB M 0) n sy ss y (nI k)) (vOf A (rB M 0)) (aN A 0) 12 1 (0, fun _ _ => 0)).1) := by
  have H : ∀ N, RO M N → (∀ j, j < 480 → gL N 57 j = 0) → (∀ j, j < 30 → gI N 58 j = 0) → ∃ M2, fX2_survey_l50 FU N 81 93 1 = some M2 ∧ (RO M M2 ∧ ∀ j, j < 30 → colC (nxO (fun y k => fitB A (rB M 0) n sy ss y (nI k)) (vOf A (rB M 0)) (aN A 0) 12 1 (0, fun _ _ => 0)) j M2) := by
    intro N fN g1 g2
    exact surO h hC hn hs 12 1 FU N (0, fun _ _ => 0) fN (fun j hj => ⟨g2 j hj, fun v hv => by
      rw [g1 _ (by omega), zero6]
      exact ⟨fun z => absurd z (by decide), fun ⟨c, z, _⟩ => absurd z (Nat.not_lt_zero c)⟩⟩) (by omega) (by show _ < 100000; omega)
  obtain ⟨M2, p1, p2, p3⟩ := sur2 H 480 0 FU M1 f (fun j q => absurd q (by omega)) (by omega) (by show _ < 100000; omega)
  refine ⟨M2, ?_, p2, fun j hj => (p3 j hj).1⟩
  unfold fX2_survey
  rw [ck_t (by decide), ck_t (by decide)]
  exact p1
theorem nextC_l {M1 : Mem} {s : SX} {w : Int32} (hc : ∀ j, j < 30 → gI M1 58 j = nI (cnS s.2 j s.1)) : ∀ (d k fuel : Nat) (b t : Int32), k + d = 30 → d < fuel → fX12_next_l28 fuel M1 w b t (nI (k + 1)) = some (.ok (bsF s w d k b t, M1)) := by
  intro d
  induction d with
  | zero =>
    intro k fuel b t hk hf
    obtain ⟨m, rfl⟩ : ∃ m, fuel = m + 1 := ⟨fuel - 1, by omega⟩
    rw [fX12_next_l28, show (30 : Int32) = nI 30 from rfl, if_pos (by rw [lt_nI (by omega) (by omega)]; omega), bsF]
    by_cases h0 : w = 0
    · rw [if_pos h0, if_pos h0]
    · rw [if_neg h0, if_neg h0]
  | succ d ih =>
    intro k fuel b t hk hf
    obtain ⟨m, rfl⟩ : ∃ m, fuel = m + 1 := ⟨fuel - 1, by omega⟩
    have e67 : ∀ b t, fX12_next_b67 (fX12_next_l28 m) M1 w b t (nI (k + 1)) = some (.ok (bsF s w d (k + 1) b t, M1)) := by
      intro b t
      unfold fX12_next_b67
      rw [pu_s, nI_1]
      exact ih (k + 1) m b t (by omega) (by omega)
    rw [fX12_next_l28, show (30 : Int32) = nI 30 from rfl, if_neg (by rw [lt_nI (by omega) (by omega)]; omega), nI_m1 (by omega), Nat.add_sub_cancel, ldI_nI (by omega) (by decide), hc k (by omega), bsF]
    by_cases q : t < nI (cnS s.2 k s.1)
    · rw [if_pos q, if_pos q, ldI_nI (by omega) (by decide), hc k (by omega)]
      exact e67 _ _
    · rw [if_neg q, if_neg q]
      exact e67 _ _
