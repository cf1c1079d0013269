/-! TEXTS: tokens of the class -/
def b8 (x : Nat) : Int32 := (nI x).toInt8.toInt32
def bN (b : Bool) : Int32 := if b = true then 1 else 0
theorem b8_let : ∀ x, x < 256 → fX10_isLetter (b8 x) = some (bN (letN x)) ∧ fX10_isDigit (b8 x) = some (bN (digN x)) ∧ fX10_isSign (b8 x) = some (bN (sgnN x)) := by decide +kernel
theorem b8_blk : ∀ x, x < 256 → (b8 x = 32 ↔ x = 32) ∧ (b8 x = 10 ↔ x = 10) := by decide +kernel
theorem b8_lo : ∀ x, x < 128 → b8 x = nI x := by decide +kernel
theorem chr_ok : ∀ w, w < 22 → ∀ j, j < 8 → j < wl w → fJ0_charAt (1100 + w) (nI j) = some (nI (wt w j)) := by decide +kernel
theorem len_ok : ∀ w, w < 23 → fJ0_length (1100 + w) = some (nI (wl w)) := by decide +kernel
theorem wl_le : ∀ w, w < 23 → wl w ≤ 8 := by decide
theorem ldW_nI {β : Type} {i : Nat} {k : Nat → Option β} (h : i < 23) : ldW (nI i) k = k (1000 + i) := by
  unfold ldW
  rw [nI_clamp (by omega), if_neg]
  rintro (q | q)
  · exact nI_pos (by omega) q
  · omega
theorem gR_sR {M : Mem} {a j b k v : Nat} : gR (sR M a j v) b k = if b = a ∧ k = j then v else gR M b k := by
  show va_up M.2.2 a (va_up (M.2.2 a) j v) b k = _
  unfold va_up
  by_cases hb : b = a
  · subst hb
    rw [if_pos rfl]
    by_cases hk : k = j
    · rw [if_pos hk, if_pos ⟨rfl, hk⟩]
    · rw [if_neg hk, if_neg (fun q => hk q.2)]; rfl
  · rw [if_neg hb, if_neg (fun q => hb q.1)]; rfl
theorem gI_sR {M : Mem} {a j b k v : Nat} : gI (sR M a j v) b k = gI M b k := Eq.trans rfl rfl
def tpC (c : Nat → Nat) (L : Nat) (M : Mem) : Prop := L ≤ 700 ∧ ∀ i, i < L → c i < 256 ∧ gI M 1 i = b8 (c i)
/-- what a step of the tokens leaves as it was -/
def frT7 (M M' : Mem) : Prop := (∀ a j, a ≠ 27 → gI M' a j = gI M a j) ∧ ∀ a j, a ≠ 27 → gR M' a j = gR M a j
theorem frT7.rf {M : Mem} : frT7 M M := ⟨fun _ _ _ => rfl, fun _ _ _ => rfl⟩
theorem frT7.tr {M M1 M2 : Mem} (h : frT7 M M1) (h2 : frT7 M1 M2) : frT7 M M2 := ⟨fun a j x => (h2.1 a j x).trans (h.1 a j x), fun a j x => (h2.2 a j x).trans (h.2 a j x)⟩
theorem frT7.st {M M1 : Mem} {i : Nat} {v : Int32} (h : frT7 M M1) : frT7 M (sI M1 27 i v) := ⟨fun a j x => (gI_sa x).trans (h.1 a j x), fun a j x => h.2 a j x⟩
theorem frT7.sr {M M1 : Mem} {i v : Nat} (h : frT7 M M1) : frT7 M (sR M1 27 i v) := ⟨fun a j x => h.1 a j x, fun a j x => by rw [gR_sR, if_neg (fun q => x q.1)]; exact h.2 a j x⟩
theorem tpC.fr {c : Nat → Nat} {L : Nat} {M M' : Mem} (h : tpC c L M) (f : frT7 M M') : tpC c L M' := ⟨h.1, fun i hi => ⟨(h.2 i hi).1, by rw [f.1 1 i (by decide)]; exact (h.2 i hi).2⟩⟩
def tkC (c : Nat → Nat) (L q : Nat) (M : Mem) : Prop := gI M 27 1 = nI L ∧ gI M 27 2 = nI (tN c L q) ∧ gI M 27 3 = nI (tP c L q) ∧ gI M 27 4 = nI (tK c L q) ∧ gI M 27 5 = nI (tV c L q) ∧ gR M 27 6 = 1000 + tW c L q
-- words
theorem rw76 {c : Nat → Nat} {L p n i : Nat} {M : Mem} (hT : tpC c L M) (hp : gI M 27 3 = nI p) (hn : 1 ≤ n) (hE : p + n ≤ L) (hl : ∀ j, j < n → letN (c (p + j)) = true) (hi : i < 23) (a : Mem → Int32 → Int32 → Option Mem) : ∀ (d j fuel : Nat), j + d = n → (∀ k, k < j → wt i k = c (p + k)) → (0 < j → n = wl i) → d < fuel → fX10_readWord_l76 a fuel M (nI n) (nI i) (1100 + i) (nI j) = fX10_readWord_b132 a (if mtc c p n i = true then sR M 27 6 (1000 + i) else M) (nI n) (nI i) := by
  have hL := hT.1
  intro d
  induction d with
  | zero =>
    intro j fuel hj hk h0 hf
    obtain ⟨m, rfl⟩ : ∃ m, fuel = m + 1 := ⟨fuel - 1, by omega⟩
    have e : j = n := by omega
    subst e
    have hm : mtc c p j i = true := by
      unfold mtc
      simp
      exact ⟨h0 (by omega), hk⟩
    rw [fX10_readWord_l76, ck_t ⟨by omega, by omega⟩, if_neg (by rw [lt_nI (by omega) (by omega)]; omega), hm, if_pos rfl]
    unfold fX10_readWord_b117
    rw [if_pos rfl, ldW_nI hi, ck_t ⟨by omega, by omega⟩, pu_s]
  | succ d ih =>
    intro j fuel hj hk h0 hf
    obtain ⟨m, rfl⟩ : ∃ m, fuel = m + 1 := ⟨fuel - 1, by omega⟩
    have hjn : j < n := by omega
    have b117 : mtc c p n i = false → fX10_readWord_b117 a M (nI n) (nI i) (nI j) = fX10_readWord_b132 a (if mtc c p n i = true then sR M 27 6 (1000 + i) else M) (nI n) (nI i) := by
      intro hm
      unfold fX10_readWord_b117
      rw [if_neg (by rw [eq_nI (by omega) (by omega)]; omega), hm, if_neg (by decide)]
    have hwl := wl_le i hi
    rw [fX10_readWord_l76, ck_t ⟨by omega, by omega⟩, if_pos (by rw [lt_nI (by omega) (by omega)]; omega), len_ok i hi, b1_s]
    by_cases q1 : n = wl i
    · have hi2 : i < 22 := by
        rcases (show i < 22 ∨ i = 22 by omega) with z | z
        · exact z
        · rw [z, show wl 22 = 0 from rfl] at q1; omega
      have hlt := (wt_let i hi2).2 j (by omega) (by omega)
      have hlc := hl j hjn
      have w1 : wt i j ≤ 122 := by unfold letN at hlt; simp at hlt; omega
      have w2 : c (p + j) ≤ 122 := by unfold letN at hlc; simp at hlc; omega
      rw [if_pos (by rw [q1]), chr_ok i hi2 j (by omega) (by omega), b1_s, pu_s, hp, nI_add, ldI_nI (by omega) (by decide), (hT.2 (p + j) (by omega)).2, b8_lo _ (by omega)]
      by_cases q2 : wt i j = c (p + j)
      · rw [if_pos (by rw [q2]), pu_s, nI_1]
        refine ih (j + 1) m (by omega) (fun k hk2 => ?_) (fun _ => q1) (by omega)
        by_cases e : k = j
        · rw [e]; exact q2
        · exact hk k (by omega)
      · rw [if_neg (by rw [eq_nI (by omega) (by omega)]; exact q2)]
        refine b117 ?_
        unfold mtc
        simp
        exact fun _ => ⟨j, hjn, q2⟩
    · rw [if_neg (by rw [eq_nI (by omega) (by omega)]; exact q1)]
      refine b117 ?_
      unfold mtc
      simp
      exact fun z => absurd z q1
theorem rw56 {c : Nat → Nat} {L p n : Nat} (hn : 1 ≤ n) (hE : p + n ≤ L) (hl : ∀ j, j < n → letN (c (p + j)) = true) : ∀ (d i fuel : Nat) (M : Mem), tpC c L M → gI M 27 3 = nI p → gR M 27 6 = 1000 + wix c p n i → i + d = 23 → d < fuel → ∃ M', fX10_readWord_l56 fuel M (nI n) (nI i) = some M' ∧ gR M' 27 6 = 1000 + wix c p n 23 ∧ (∀ j, gI M' 27 j = gI M 27 j) ∧ frT7 M M' := by
  intro d
  induction d with
  | zero =>
    intro i fuel M hT hp hw hi hf
    obtain ⟨m, rfl⟩ : ∃ m, fuel = m + 1 := ⟨fuel - 1, by omega⟩
    rw [fX10_readWord_l56, show (23 : Int32) = nI 23 from rfl, if_neg (by rw [lt_nI (by omega) (by omega)]; omega)]
    exact ⟨M, rfl, by rw [hw, show i = 23 by omega], fun _ => rfl, frT7.rf⟩
  | succ d ih =>
    intro i fuel M hT hp hw hi hf
    obtain ⟨m, rfl⟩ : ∃ m, fuel = m + 1 := ⟨fuel - 1, by omega⟩
    have hL := hT.1
    have e := rw76 (i := i) hT hp hn hE hl (by omega) (fX10_readWord_l56 m) n 0 FU (by omega) (fun k q => absurd q (by omega)) (fun q => absurd q (by omega)) (by show _ < 100000; omega)
    rw [fX10_readWord_l56, show (23 : Int32) = nI 23 from rfl, if_pos (by rw [lt_nI (by omega) (by omega)]; omega), ldW_nI (by omega), ck_t ⟨by omega, by omega⟩, show 1000 + i + 100 = 1100 + i by omega, show fX10_readWord_l76 (fX10_readWord_l56 m) FU M (nI n) (nI i) (1100 + i) 0 = _ from e]
    unfold fX10_readWord_b132
    rw [pu_s, nI_1]
    by_cases hm : mtc c p n i = true
    · rw [if_pos hm]
      obtain ⟨M', p1, p2, p3, p4⟩ := ih (i + 1) m (sR M 27 6 (1000 + i)) (hT.fr frT7.rf.sr) hp (by rw [gR_sR, if_pos ⟨rfl, rfl⟩, wix, if_pos hm]) (by omega) (by omega)
      exact ⟨M', p1, p2, p3, frT7.rf.sr.tr p4⟩
    · rw [if_neg hm]
      exact ih (i + 1) m M hT hp (by rw [hw, wix, if_neg hm]) (by omega) (by omega)
theorem rwd {c : Nat → Nat} {L p : Nat} : ∀ (d e fuel : Nat) (M : Mem), tpC c L M → e + d = L → p ≤ e → (∀ i, p ≤ i → i < e → letN (c i) = true) → (e = p → 0 < d ∧ letN (c p) = true) → gI M 27 1 = nI L → gI M 27 2 = nI e → gI M 27 3 = nI p → gR M 27 6 = 1022 → d < fuel → ∃ M', fX10_readWord_l0 fuel M = some M' ∧ gI M' 27 1 = nI L ∧ gI M' 27 2 = nI (runN letN c d e) ∧ gI M' 27 3 = nI p ∧ gI M' 27 4 = 1 ∧ gI M' 27 5 = gI M 27 5 ∧ gR M' 27 6 = 1000 + wix c p (runN letN c d e - p) 23 ∧ frT7 M M' := by
  have fin : ∀ (e : Nat) (M : Mem), tpC c L M → p < e → e ≤ L → (∀ i, p ≤ i → i < e → letN (c i) = true) → gI M 27 1 = nI L → gI M 27 2 = nI e → gI M 27 3 = nI p → gR M 27 6 = 1022 → ∃ M', fX10_readWord_b39 M = some M' ∧ gI M' 27 1 = nI L ∧ gI M' 27 2 = nI e ∧ gI M' 27 3 = nI p ∧ gI M' 27 4 = 1 ∧ gI M' 27 5 = gI M 27 5 ∧ gR M' 27 6 = 1000 + wix c p (e - p) 23 ∧ frT7 M M' := by
    intro e M hT hpe heL hl h1 h2 h3 h6
    have hL := hT.1
    unfold fX10_readWord_b39
    simp only [pu_s]
    rw [gI_sj (by decide), gI_sj (by decide), h2, h3, pk_sub (by omega)]
    obtain ⟨M', p1, p2, p3, p4⟩ := rw56 (p := p) (n := e - p) (L := L) (c := c) (by omega) (by omega) (fun j hj => hl (p + j) (by omega) (by omega)) 23 0 FU (sI M 27 4 1) (hT.fr frT7.rf.st) (by rw [gI_sj (by decide)]; exact h3) h6 (by omega) (by show _ < 100000; omega)
    exact ⟨M', p1, by rw [p3, gI_sj (by decide), h1], by rw [p3, gI_sj (by decide), h2], by rw [p3, gI_sj (by decide), h3], by rw [p3, gI_ss], by rw [p3, gI_sj (by decide)], p2, frT7.rf.st.tr p4⟩
  intro d
  induction d with
  | zero =>
    intro e fuel M hT he hpe hl hn h1 h2 h3 h6 hf
    obtain ⟨m, rfl⟩ : ∃ m, fuel = m + 1 := ⟨fuel - 1, by omega⟩
    have hL := hT.1
    rw [fX10_readWord_l0, pu_s, pu_s, h1, h2, if_neg (by rw [lt_nI (by omega) (by omega)]; omega)]
    exact fin e M hT (by rcases Nat.lt_or_ge p e with z | z; exact z; exact absurd (hn (by omega)).1 (by omega)) (by omega) hl h1 h2 h3 h6
  | succ d ih =>
    intro e fuel M hT he hpe hl hn h1 h2 h3 h6 hf
    obtain ⟨m, rfl⟩ : ∃ m, fuel = m + 1 := ⟨fuel - 1, by omega⟩
    have hL := hT.1
    obtain ⟨t1, t2⟩ := hT.2 e (by omega)
    rw [fX10_readWord_l0, pu_s, pu_s, h1, h2, if_pos (by rw [lt_nI (by omega) (by omega)]; omega), pu_s, ldI_nI (by omega) (by decide), t2, (b8_let _ t1).1, b1_s, runN]
    by_cases q : letN (c e) = true
    · rw [q, if_neg (by decide), pu_s, pu_s, if_pos rfl, nI_1]
      obtain ⟨M', p1, p2, p3, p4, p5, p6, p7, p8⟩ := ih (e + 1) m (sI M 27 2 (nI (e + 1))) (hT.fr frT7.rf.st) (by omega) (by omega) (fun i z1 z2 => by
        by_cases z3 : i = e
        · rw [z3]; exact q
        · exact hl i z1 (by omega)) (fun z => absurd z (by omega)) (by rw [gI_sj (by decide)]; exact h1) gI_ss (by rw [gI_sj (by decide)]; exact h3) h6 (by omega)
      exact ⟨M', p1, p2, p3, p4, p5, by rw [p6, gI_sj (by decide)], p7, frT7.rf.st.tr p8⟩
    · have q' : letN (c e) = false := by cases z : letN (c e) with
        | true => exact absurd z q
        | false => rfl
      rw [q', if_pos (by decide), if_neg (by decide)]
      exact fin e M hT (by rcases Nat.lt_or_ge p e with z | z; exact z; exact absurd (by have := (hn (by omega)).2; rwa [show p = e by omega] at this) q) (by omega) hl h1 h2 h3 h6
-- numbers
theorem rnum {c : Nat → Nat} {L p : Nat} : ∀ (d e fuel : Nat) (M : Mem), tpC c L M → e + d = L → p ≤ e → (∀ i, p ≤ i → i < e → digN (c i) = true) → gI M 27 1 = nI L → gI M 27 2 = nI e → gI M 27 3 = nI p → gI M 27 5 = nI (dgv c p (min 4 (e - p))) → d < fuel → ∃ M', fX10_readNumber_l0 fuel M = some M' ∧ gI M' 27 1 = nI L ∧ gI M' 27 2 = nI (runN digN c d e) ∧ gI M' 27 3 = nI p ∧ gI M' 27 4 = 2 ∧ gI M' 27 5 = nI (if 4 < runN digN c d e - p then 10000 else dgv c p (runN digN c d e - p)) ∧ gR M' 27 6 = gR M 27 6 ∧ frT7 M M' := by
  have fin : ∀ (e : Nat) (M : Mem), p ≤ e → e ≤ 700 → gI M 27 1 = nI L → gI M 27 2 = nI e → gI M 27 3 = nI p → gI M 27 5 = nI (dgv c p (min 4 (e - p))) → ∃ M', fX10_readNumber_b76 M = some M' ∧ gI M' 27 1 = nI L ∧ gI M' 27 2 = nI e ∧ gI M' 27 3 = nI p ∧ gI M' 27 4 = 2 ∧ gI M' 27 5 = nI (if 4 < e - p then 10000 else dgv c p (e - p)) ∧ gR M' 27 6 = gR M 27 6 ∧ frT7 M M' := by
    intro e M hpe heL h1 h2 h3 h5
    unfold fX10_readNumber_b76
    simp only [pu_s]
    rw [gI_sj (by decide), gI_sj (by decide), h2, h3, pk_sub (by omega), show (4 : Int32) = nI 4 from rfl]
    by_cases q : 4 < e - p
    · rw [if_pos (by rw [lt_nI (by omega) (by omega)]; exact q), if_pos q]
      refine ⟨_, rfl, ?_, ?_, ?_, ?_, gI_ss, rfl, frT7.rf.st.st⟩
      · rw [gI_sj (by decide), gI_sj (by decide), h1]
      · rw [gI_sj (by decide), gI_sj (by decide), h2]
      · rw [gI_sj (by decide), gI_sj (by decide), h3]
      · rw [gI_sj (by decide), gI_ss]
    · rw [if_neg (by rw [lt_nI (by omega) (by omega)]; exact q), if_neg q]
      refine ⟨_, rfl, ?_, ?_, ?_, gI_ss, ?_, rfl, frT7.rf.st⟩
      · rw [gI_sj (by decide), h1]
      · rw [gI_sj (by decide), h2]
      · rw [gI_sj (by decide), h3]
      · rw [gI_sj (by decide), h5, Nat.min_eq_right (by omega)]
  intro d
  induction d with
  | zero =>
    intro e fuel M hT he hpe hl h1 h2 h3 h5 hf
    obtain ⟨m, rfl⟩ : ∃ m, fuel = m + 1 := ⟨fuel - 1, by omega⟩
    have hL := hT.1
    rw [fX10_readNumber_l0, pu_s, pu_s, h1, h2, if_neg (by rw [lt_nI (by omega) (by omega)]; omega)]
    exact fin e M hpe (by omega) h1 h2 h3 h5
  | succ d ih =>
    intro e fuel M hT he hpe hl h1 h2 h3 h5 hf
    obtain ⟨m, rfl⟩ : ∃ m, fuel = m + 1 := ⟨fuel - 1, by omega⟩
    have hL := hT.1
    obtain ⟨t1, t2⟩ := hT.2 e (by omega)
    rw [fX10_readNumber_l0, pu_s, pu_s, h1, h2, if_pos (by rw [lt_nI (by omega) (by omega)]; omega), pu_s, ldI_nI (by omega) (by decide), t2, (b8_let _ t1).2.1, b1_s, runN]
    by_cases q : digN (c e) = true
    · have hd : 48 ≤ c e ∧ c e ≤ 57 := by unfold digN at q; simp at q; exact q
      have b63 : ∀ N : Mem, frT7 M N → gI N 27 1 = nI L → gI N 27 2 = nI e → gI N 27 3 = nI p → gI N 27 5 = nI (dgv c p (min 4 (e + 1 - p))) → gR N 27 6 = gR M 27 6 → ∃ M', fX10_readNumber_b63 (fX10_readNumber_l0 m) N = some M' ∧ gI M' 27 1 = nI L ∧ gI M' 27 2 = nI (runN digN c d (e + 1)) ∧ gI M' 27 3 = nI p ∧ gI M' 27 4 = 2 ∧ gI M' 27 5 = nI (if 4 < runN digN c d (e + 1) - p then 10000 else dgv c p (runN digN c d (e + 1) - p)) ∧ gR M' 27 6 = gR M 27 6 ∧ frT7 M M' := by
        intro N fN n1 n2 n3 n5 n6
        unfold fX10_readNumber_b63
        rw [pu_s, pu_s, n2, nI_1]
        obtain ⟨M', p1, p2, p3, p4, p5, p6, p7, p8⟩ := ih (e + 1) m (sI N 27 2 (nI (e + 1))) ((hT.fr fN).fr frT7.rf.st) (by omega) (by omega) (fun i z1 z2 => by
          by_cases z3 : i = e
          · rw [z3]; exact q
          · exact hl i z1 (by omega)) (by rw [gI_sj (by decide)]; exact n1) gI_ss (by rw [gI_sj (by decide)]; exact n3) (by rw [gI_sj (by decide)]; exact n5) (by omega)
        exact ⟨M', p1, p2, p3, p4, p5, p6, p7.trans n6, fN.st.tr p8⟩
      rw [q, if_neg (by decide), if_pos rfl, pu_s, pu_s, h3, pk_sub (by omega), show (4 : Int32) = nI 4 from rfl]
      by_cases q4 : e - p < 4
      · rw [if_pos (by rw [lt_nI (by omega) (by omega)]; exact q4), pu_s, pu_s, h5, ldI_nI (by omega) (by decide), t2, b8_lo _ (by omega), pu_s, show (10 : Int32) = nI 10 from rfl, pk_mul, nI_add, show (48 : Int32) = nI 48 from rfl, pk_sub (by omega)]
        refine b63 _ frT7.rf.st (by rw [gI_sj (by decide)]; exact h1) (by rw [gI_sj (by decide)]; exact h2) (by rw [gI_sj (by decide)]; exact h3) ?_ rfl
        rw [gI_ss, Nat.min_eq_right (by omega), Nat.min_eq_right (by omega), show e + 1 - p = e - p + 1 by omega, dgv, show p + (e - p) = e by omega]
        congr 1
        omega
      · rw [if_neg (by rw [lt_nI (by omega) (by omega)]; exact q4)]
        exact b63 M frT7.rf h1 h2 h3 (by rw [h5, Nat.min_eq_left (by omega), Nat.min_eq_left (by omega)]) rfl
    · have q' : digN (c e) = false := by cases z : digN (c e) with
        | true => exact absurd z q
        | false => rfl
      rw [q', if_pos (by decide), if_neg (by decide)]
      exact fin e M hpe (by omega) h1 h2 h3 h5
-- a step
theorem skpC {c : Nat → Nat} {L : Nat} : ∀ (d p fuel : Nat) (M : Mem), tpC c L M → p + d = L → gI M 27 1 = nI L → gI M 27 3 = nI p → d < fuel → ∃ M', fX10_step_l8 fuel M = fX10_step_b60 M' ∧ gI M' 27 1 = nI L ∧ gI M' 27 3 = nI (runN blkB c d p) ∧ frT7 M M' := by
  intro d
  induction d with
  | zero =>
    intro p fuel M hT hp h1 h3 hf
    obtain ⟨m, rfl⟩ : ∃ m, fuel = m + 1 := ⟨fuel - 1, by omega⟩
    have hL := hT.1
    rw [fX10_step_l8, pu_s, pu_s, h1, h3, if_neg (by rw [lt_nI (by omega) (by omega)]; omega)]
    exact ⟨M, rfl, h1, h3, frT7.rf⟩
  | succ d ih =>
    intro p fuel M hT hp h1 h3 hf
    obtain ⟨m, rfl⟩ : ∃ m, fuel = m + 1 := ⟨fuel - 1, by omega⟩
    have hL := hT.1
    obtain ⟨t1, t2⟩ := hT.2 p (by omega)
    obtain ⟨k1, k2⟩ := b8_blk _ t1
    have b47 : blkB (c p) = true → ∃ M', fX10_step_b47 (fX10_step_l8 m) M = fX10_step_b60 M' ∧ gI M' 27 1 = nI L ∧ gI M' 27 3 = nI (runN blkB c (d + 1) p) ∧ frT7 M M' := by
      intro hb
      unfold fX10_step_b47
      rw [pu_s, pu_s, h3, nI_1]
      obtain ⟨M', p1, p2, p3, p4⟩ := ih (p + 1) m (sI M 27 3 (nI (p + 1))) (hT.fr frT7.rf.st) (by omega) (by rw [gI_sj (by decide)]; exact h1) gI_ss (by omega)
      exact ⟨M', p1, p2, by rw [p3, runN, if_pos hb], frT7.rf.st.tr p4⟩
    rw [fX10_step_l8, pu_s, pu_s, h1, h3, if_pos (by rw [lt_nI (by omega) (by omega)]; omega), pu_s, ldI_nI (by omega) (by decide), t2]
    by_cases q1 : c p = 32
    · rw [if_pos (k1.mpr q1)]
      exact b47 (by rw [q1]; rfl)
    · rw [if_neg (fun z => q1 (k1.mp z)), pu_s, ldI_nI (by omega) (by decide), t2]
      by_cases q2 : c p = 10
      · rw [if_pos (k2.mpr q2)]
        exact b47 (by rw [q2]; rfl)
      · rw [if_neg (fun z => q2 (k2.mp z))]
        refine ⟨M, rfl, h1, ?_, frT7.rf⟩
        rw [h3, runN, if_neg]
        unfold blkB
        simp
        exact ⟨q1, q2⟩
theorem stepC {c : Nat → Nat} {L q : Nat} {M : Mem} (hT : tpC c L M) (hq : q ≤ L) (h1 : gI M 27 1 = nI L) (h2 : gI M 27 2 = nI q) : ∃ M', fX10_step M = some M' ∧ tkC c L q M' ∧ frT7 M M' := by
  have hL := hT.1
  obtain ⟨N, s1, s2, s3, s4⟩ := skpC (L - q) q FU (sI M 27 3 (nI q)) (hT.fr frT7.rf.st) (by omega) (by rw [gI_sj (by decide)]; exact h1) gI_ss (by show _ < 100000; omega)
  have s3' : gI N 27 3 = nI (tP c L q) := s3
  obtain ⟨g1, g2⟩ := tP_le (c := c) hq
  have hstep : fX10_step M = fX10_step_b60 N := by
    unfold fX10_step
    rw [pu_s, pu_s, h2]
    exact s1
  have fN : frT7 M N := frT7.rf.st.tr s4
  have hTN := hT.fr fN
  let N8 := sI (sI (sR N 27 6 1022) 27 5 0) 27 2 (nI (tP c L q))
  have f8 : frT7 M N8 := fN.sr.st.st
  have e1 : gI N8 27 1 = nI L := by rw [gI_sj (by decide), gI_sj (by decide), gI_sR, s2]
  have e2 : gI N8 27 2 = nI (tP c L q) := gI_ss
  have e3 : gI N8 27 3 = nI (tP c L q) := by rw [gI_sj (by decide), gI_sj (by decide), gI_sR, s3']
  have e5 : gI N8 27 5 = 0 := by rw [gI_sj (by decide), gI_ss]
  have e6 : gR N8 27 6 = 1022 := by
    show gR (sR N 27 6 1022) 27 6 = _
    rw [gR_sR, if_pos ⟨rfl, rfl⟩]
  have hT8 : tpC c L N8 := hT.fr f8
  have hb : fX10_step_b60 N = (if tP c L q < L then (ldI N8 1 700 (nI (tP c L q)) fun vq12 => b1 (fX10_isLetter vq12) fun vq13 => if vq13 = 0 then (pu (gI N8 27 3) fun vq14 => ldI N8 1 700 vq14 fun vq15 => b1 (fX10_isDigit vq15) fun vq16 => if vq16 = 0 then (pu (gI N8 27 3) fun vq17 => ldI N8 1 700 vq17 fun vq18 => b1 (fX10_isSign vq18) fun vq19 => if vq19 = 0 then fX10_step_b172 N8 3 else (pu (gI N8 27 3) fun vq23 => ldI N8 1 700 vq23 fun vq24 => fX10_step_b172 N8 vq24)) else (b1 (fX10_readNumber N8) fun Mq25 => some Mq25)) else (b1 (fX10_readWord N8) fun Mq26 => some Mq26)) else some (sI N8 27 4 0)) := by
    have e7 : gI (sI (sR N 27 6 1022) 27 5 0) 27 3 = nI (tP c L q) := by rw [gI_sj (by decide), gI_sR, s3']
    unfold fX10_step_b60
    rw [pu_s, pu_s, pu_s, pu_s, e7]
    show (pu (gI N8 27 3) fun vq9 => pu (gI N8 27 1) fun vq10 => _) = _
    rw [pu_s, pu_s, e1, e3]
    by_cases z : tP c L q < L
    · rw [if_pos (by rw [lt_nI (by omega) (by omega)]; exact z), if_pos z]
      rfl
    · rw [if_neg (by rw [lt_nI (by omega) (by omega)]; exact z), if_neg z]
      rfl
  rw [hstep, hb]
  by_cases q0 : tP c L q < L
  · obtain ⟨t1, t2⟩ := hT8.2 _ q0
    obtain ⟨l1, l2, l3⟩ := b8_let _ t1
    rw [if_pos q0, ldI_nI (by omega) (by decide), t2, l1, b1_s]
    by_cases q1 : letN (c (tP c L q)) = true
    · have hk : tK c L q = 1 := by unfold tK; rw [if_neg (by omega), if_pos q1]
      obtain ⟨-, hN, -⟩ := tN_let hk
      obtain ⟨M', p1, p2, p3, p4, p5, p6, p7, p8⟩ := rwd (c := c) (L := L) (p := tP c L q) (L - tP c L q) (tP c L q) FU N8 hT8 (by omega) (Nat.le_refl _) (fun i z1 z2 => absurd z1 (by omega)) (fun _ => ⟨by omega, q1⟩) e1 e2 e3 e6 (by show _ < 100000; omega)
      rw [q1, if_neg (by decide), show fX10_readWord N8 = some M' from p1, b1_s]
      rw [← hN] at p3 p7
      refine ⟨M', rfl, ⟨p2, p3, p4, by rw [p5, hk]; rfl, ?_, ?_⟩, f8.tr p8⟩
      · rw [p6, e5]; unfold tV; rw [hk, if_neg (by decide)]; rfl
      · rw [p7]; unfold tW; rw [if_pos hk]
    · have q1' : letN (c (tP c L q)) = false := by cases z : letN (c (tP c L q)) with
        | true => exact absurd z q1
        | false => rfl
      rw [q1', if_pos (by decide), pu_s, e3, ldI_nI (by omega) (by decide), t2, l2, b1_s]
      by_cases q2 : digN (c (tP c L q)) = true
      · have hk : tK c L q = 2 := by unfold tK; rw [if_neg (by omega), if_neg q1, if_pos q2]
        obtain ⟨-, hN, -, -⟩ := tN_dig hk
        obtain ⟨M', p1, p2, p3, p4, p5, p6, p7, p8⟩ := rnum (c := c) (L := L) (p := tP c L q) (L - tP c L q) (tP c L q) FU N8 hT8 (by omega) (Nat.le_refl _) (fun i z1 z2 => absurd z1 (by omega)) e1 e2 e3 (by rw [e5, Nat.sub_self]; rfl) (by show _ < 100000; omega)
        rw [q2, if_neg (by decide), show fX10_readNumber N8 = some M' from p1, b1_s]
        rw [← hN] at p3 p6
        refine ⟨M', rfl, ⟨p2, p3, p4, by rw [p5, hk]; rfl, ?_, ?_⟩, f8.tr p8⟩
        · rw [p6]; unfold tV; rw [if_pos hk]
        · rw [p7, e6]; unfold tW; rw [hk, if_neg (by decide)]
      · have q2' : digN (c (tP c L q)) = false := by cases z : digN (c (tP c L q)) with
          | true => exact absurd z q2
          | false => rfl
        have hN : tN c L q = tP c L q + 1 := by unfold tN; rw [if_neg (by omega), if_neg q1, if_neg q2]
        rw [q2', if_pos (by decide), pu_s, ldI_nI (by omega) (by decide), t2, l3, b1_s]
        have b172 : ∀ s0, s0 = nI (tK c L q) → tK c L q ≠ 1 → tK c L q ≠ 2 → ∃ M', fX10_step_b172 N8 s0 = some M' ∧ tkC c L q M' ∧ frT7 M M' := by
          intro s0 hs k1 k2
          unfold fX10_step_b172
          rw [pu_s, pu_s, pu_s, gI_sj (by decide), e2, nI_1]
          refine ⟨_, rfl, ⟨?_, ?_, ?_, ?_, ?_, ?_⟩, f8.st.st⟩
          · rw [gI_sj (by decide), gI_sj (by decide), e1]
          · rw [gI_ss, hN]
          · rw [gI_sj (by decide), gI_sj (by decide), e3]
          · rw [gI_sj (by decide), gI_ss, hs]
          · rw [gI_sj (by decide), gI_sj (by decide), e5]; unfold tV; rw [if_neg k2]; rfl
          · rw [gR_sI, gR_sI, e6]; unfold tW; rw [if_neg k1]
        by_cases q3 : sgnN (c (tP c L q)) = true
        · have hk : tK c L q = c (tP c L q) := by unfold tK; rw [if_neg (by omega), if_neg q1, if_neg q2, if_pos q3]
          have hs := sgn_ge q3
          rw [q3, if_neg (by decide), pu_s, ldI_nI (by omega) (by decide), t2]
          exact b172 _ (by rw [hk]; exact b8_lo _ (by omega)) (by omega) (by omega)
        · have q3' : sgnN (c (tP c L q)) = false := by cases z : sgnN (c (tP c L q)) with
            | true => exact absurd z q3
            | false => rfl
          have hk : tK c L q = 3 := by unfold tK; rw [if_neg (by omega), if_neg q1, if_neg q2, if_neg q3]
          rw [q3', if_pos (by decide)]
          exact b172 _ (by rw [hk]; rfl) (by omega) (by omega)
  · have hk : tK c L q = 0 := by unfold tK; rw [if_pos (by omega)]
    have hN : tN c L q = tP c L q := by unfold tN; rw [if_pos (by omega)]
    rw [if_neg q0]
    refine ⟨_, rfl, ⟨?_, ?_, ?_, ?_, ?_, ?_⟩, f8.st⟩
    · rw [gI_sj (by decide), e1]
    · rw [gI_sj (by decide), e2, hN]
    · rw [gI_sj (by decide), e3]
    · rw [gI_ss, hk]; rfl
    · rw [gI_sj (by decide), e5]; unfold tV; rw [hk, if_neg (by decide)]; rfl
    · rw [gR_sI, e6]; unfold tW; rw [hk, if_neg (by decide)]
