/-! TEXTS: tokens of the reference -/
theorem m_let : ∀ x, x < 256 → fX13_isLetter (nI x) = some (bN (letN x)) ∧ fX13_isDigit (nI x) = some (bN (digN x)) := by decide +kernel
theorem chain9 {β : Type} {F G : β} {x : Nat} (hx : x < 256) : (if nI x = 59 then F else if nI x = 40 then F else if nI x = 41 then F else if nI x = 43 then F else if nI x = 45 then F else if nI x = 42 then F else if nI x = 47 then F else if nI x = 60 then F else if nI x = 61 then F else G) = if sgnN x = true then F else G := by
  have key : ∀ k : Nat, k < 256 → (nI x = nI k ↔ x = k) := fun k hk => by rw [eq_nI (by omega) (by omega)]
  by_cases h : sgnN x = true
  · rw [if_pos h]
    have hv : x = 59 ∨ x = 60 ∨ x = 61 ∨ x = 47 ∨ x = 40 ∨ x = 41 ∨ x = 42 ∨ x = 43 ∨ x = 45 := by
      unfold sgnN at h
      simp at h
      omega
    rcases hv with e | e | e | e | e | e | e | e | e <;> subst e
    · rw [if_pos (show nI 59 = 59 from rfl)]
    · rw [if_neg (show ¬ nI 60 = 59 by decide), if_neg (show ¬ nI 60 = 40 by decide), if_neg (show ¬ nI 60 = 41 by decide), if_neg (show ¬ nI 60 = 43 by decide), if_neg (show ¬ nI 60 = 45 by decide), if_neg (show ¬ nI 60 = 42 by decide), if_neg (show ¬ nI 60 = 47 by decide), if_pos (show nI 60 = 60 from rfl)]
    · rw [if_neg (show ¬ nI 61 = 59 by decide), if_neg (show ¬ nI 61 = 40 by decide), if_neg (show ¬ nI 61 = 41 by decide), if_neg (show ¬ nI 61 = 43 by decide), if_neg (show ¬ nI 61 = 45 by decide), if_neg (show ¬ nI 61 = 42 by decide), if_neg (show ¬ nI 61 = 47 by decide), if_neg (show ¬ nI 61 = 60 by decide), if_pos (show nI 61 = 61 from rfl)]
    · rw [if_neg (show ¬ nI 47 = 59 by decide), if_neg (show ¬ nI 47 = 40 by decide), if_neg (show ¬ nI 47 = 41 by decide), if_neg (show ¬ nI 47 = 43 by decide), if_neg (show ¬ nI 47 = 45 by decide), if_neg (show ¬ nI 47 = 42 by decide), if_pos (show nI 47 = 47 from rfl)]
    · rw [if_neg (show ¬ nI 40 = 59 by decide), if_pos (show nI 40 = 40 from rfl)]
    · rw [if_neg (show ¬ nI 41 = 59 by decide), if_neg (show ¬ nI 41 = 40 by decide), if_pos (show nI 41 = 41 from rfl)]
    · rw [if_neg (show ¬ nI 42 = 59 by decide), if_neg (show ¬ nI 42 = 40 by decide), if_neg (show ¬ nI 42 = 41 by decide), if_neg (show ¬ nI 42 = 43 by decide), if_neg (show ¬ nI 42 = 45 by decide), if_pos (show nI 42 = 42 from rfl)]
    · rw [if_neg (show ¬ nI 43 = 59 by decide), if_neg (show ¬ nI 43 = 40 by decide), if_neg (show ¬ nI 43 = 41 by decide), if_pos (show nI 43 = 43 from rfl)]
    · rw [if_neg (show ¬ nI 45 = 59 by decide), if_neg (show ¬ nI 45 = 40 by decide), if_neg (show ¬ nI 45 = 41 by decide), if_neg (show ¬ nI 45 = 43 by decide), if_pos (show nI 45 = 45 from rfl)]
  · rw [if_neg h]
    have hn : ∀ k : Nat, k < 256 → sgnN k = true → ¬ nI x = nI k := fun k hk hs z => h (by rw [(key k hk).mp z]; exact hs)
    rw [if_neg (show ¬ nI x = 59 from hn 59 (by decide) (by decide)), if_neg (show ¬ nI x = 40 from hn 40 (by decide) (by decide)), if_neg (show ¬ nI x = 41 from hn 41 (by decide) (by decide)), if_neg (show ¬ nI x = 43 from hn 43 (by decide) (by decide)), if_neg (show ¬ nI x = 45 from hn 45 (by decide) (by decide)), if_neg (show ¬ nI x = 42 from hn 42 (by decide) (by decide)), if_neg (show ¬ nI x = 47 from hn 47 (by decide) (by decide)), if_neg (show ¬ nI x = 60 from hn 60 (by decide) (by decide)), if_neg (show ¬ nI x = 61 from hn 61 (by decide) (by decide))]
def tpM (c : Nat → Nat) (L : Nat) (M : Mem) : Prop := L ≤ 700 ∧ gI M 103 25 = nI L ∧ ∀ i, i < L → c i < 256 ∧ gI M 116 i = nI (c i)
def bx (c : Nat → Nat) (L x : Nat) : Nat := if x < L then c x else 0
def frG (M M' : Mem) : Prop := (∀ a j, (a = 103 → j < 26 ∨ 31 < j) → gI M' a j = gI M a j) ∧ M'.2.2 = M.2.2
theorem frG.rf {M : Mem} : frG M M := ⟨fun _ _ _ => rfl, rfl⟩
theorem frG.tr {M M1 M2 : Mem} (h : frG M M1) (h2 : frG M1 M2) : frG M M2 := ⟨fun a j x => (h2.1 a j x).trans (h.1 a j x), h2.2.trans h.2⟩
theorem frG.st {M M1 : Mem} {i : Nat} {v : Int32} (h : frG M M1) (hi : 26 ≤ i ∧ i ≤ 31) : frG M (sI M1 103 i v) := ⟨fun a j x => by
  rw [gI_sI, if_neg (fun q => by have := x q.1; omega)]
  exact h.1 a j x, h.2⟩
theorem frG.sl {M M1 : Mem} {a i : Nat} {v : Int64} (h : frG M M1) : frG M (sL M1 a i v) := ⟨fun b j x => h.1 b j x, h.2⟩
theorem tpM.fr {c : Nat → Nat} {L : Nat} {M M' : Mem} (h : tpM c L M) (f : frG M M') : tpM c L M' := ⟨h.1, by rw [f.1 103 25 (fun _ => Or.inl (by decide))]; exact h.2.1, fun i hi => ⟨(h.2.2 i hi).1, by rw [f.1 116 i (fun q => absurd q (by decide))]; exact (h.2.2 i hi).2⟩⟩
theorem bx_lt {c : Nat → Nat} {L : Nat} {M : Mem} (h : tpM c L M) (x : Nat) : bx c L x < 256 := by
  unfold bx
  split
  · next q => exact (h.2.2 x q).1
  · decide
theorem byte_ok {c : Nat → Nat} {L x : Nat} {M : Mem} (h : tpM c L M) (hx : x ≤ 700) : fX13_byteAt M (nI x) = some (nI (bx c L x)) := by
  have hL := h.1
  unfold fX13_byteAt bx
  rw [pu_s, h.2.1]
  by_cases q : x < L
  · rw [if_pos (by rw [lt_nI (by omega) (by omega)]; exact q), if_pos q, ldI_nI (by omega) (by decide), (h.2.2 x q).2]
  · rw [if_neg (by rw [lt_nI (by omega) (by omega)]; exact q), if_neg q]
    rfl
def srt (k : Nat) : Nat := if k = 0 then 0 else if k = 1 then 1 else if k = 2 then 2 else if k = 3 then 4 else 3
def tkM (c : Nat → Nat) (L q : Nat) (M : Mem) : Prop := gI M 103 26 = nI (tN c L q) ∧ gI M 103 27 = nI (srt (tK c L q)) ∧ gI M 103 28 = nI (tP c L q) ∧ gI M 103 29 = nI (tN c L q - tP c L q) ∧ gI M 103 30 = nI (if tK c L q = 2 then dgv c (tP c L q) (min 4 (tN c L q - tP c L q)) else 0) ∧ (40 ≤ tK c L q → gI M 103 31 = nI (tK c L q)) ∧ (tK c L q = 1 → gL M 103 32 = nL (pkN c (tP c L q) (min 8 (tN c L q - tP c L q))))
theorem pkN_lt {c : Nat → Nat} {p : Nat} : ∀ k, (∀ j, j < k → letN (c (p + j)) = true) → pkN c p k < 32 ^ k := by
  intro k
  induction k with
  | zero =>
    intro _
    show 0 < 32 ^ 0
    decide
  | succ k ih =>
    intro h
    have h1 := ih fun j hj => h j (by omega)
    have h2 := h k (by omega)
    unfold letN at h2
    simp at h2
    unfold pkN
    rw [Nat.pow_succ]
    omega
theorem b331_ok {M : Mem} {e p : Nat} (h1 : gI M 103 26 = nI e) (h2 : gI M 103 28 = nI p) (hp : p ≤ e) : fX13_goes_b331 M = some (sI M 103 29 (nI (e - p))) := by
  unfold fX13_goes_b331
  rw [pu_s, pu_s, pu_s, h1, h2, pk_sub hp]
theorem mwd {c : Nat → Nat} {L p : Nat} : ∀ (d e fuel : Nat) (M : Mem), tpM c L M → e + d = L → p ≤ e → (∀ i, p ≤ i → i < e → letN (c i) = true) → gI M 103 26 = nI e → gI M 103 28 = nI p → gI M 103 30 = 0 → gL M 103 32 = nL (pkN c p (min 8 (e - p))) → d < fuel → ∃ M', fX13_goes_l108 fuel M = some M' ∧ gI M' 103 26 = nI (runN letN c d e) ∧ gI M' 103 27 = 1 ∧ gI M' 103 28 = nI p ∧ gI M' 103 29 = nI (runN letN c d e - p) ∧ gI M' 103 30 = 0 ∧ gL M' 103 32 = nL (pkN c p (min 8 (runN letN c d e - p))) ∧ frG M M' := by
  have fin : ∀ (e : Nat) (M : Mem), p ≤ e → gI M 103 26 = nI e → gI M 103 28 = nI p → gI M 103 30 = 0 → gL M 103 32 = nL (pkN c p (min 8 (e - p))) → ∃ M', (pu (sI M 103 27 1) fun Mq35 => fX13_goes_b331 Mq35) = some M' ∧ gI M' 103 26 = nI e ∧ gI M' 103 27 = 1 ∧ gI M' 103 28 = nI p ∧ gI M' 103 29 = nI (e - p) ∧ gI M' 103 30 = 0 ∧ gL M' 103 32 = nL (pkN c p (min 8 (e - p))) ∧ frG M M' := by
    intro e M hpe h1 h2 h3 h4
    rw [pu_s, b331_ok (e := e) (p := p) (by rw [gI_sj (by decide)]; exact h1) (by rw [gI_sj (by decide)]; exact h2) hpe]
    refine ⟨_, rfl, ?_, ?_, ?_, gI_ss, ?_, h4, (frG.rf.st (by omega)).st (by omega)⟩
    · rw [gI_sj (by decide), gI_sj (by decide), h1]
    · rw [gI_sj (by decide), gI_ss]
    · rw [gI_sj (by decide), gI_sj (by decide), h2]
    · rw [gI_sj (by decide), gI_sj (by decide), h3]
  intro d
  induction d with
  | zero =>
    intro e fuel M hT he hpe hl h1 h2 h3 h4 hf
    obtain ⟨m, rfl⟩ : ∃ m, fuel = m + 1 := ⟨fuel - 1, by omega⟩
    have hL := hT.1
    rw [fX13_goes_l108, pu_s, h1, byte_ok hT (by omega), b1_s, (m_let _ (bx_lt hT e)).1, b1_s, show bx c L e = 0 from if_neg (by omega), show letN 0 = false from rfl, if_pos (by decide)]
    exact fin e M hpe h1 h2 h3 h4
  | succ d ih =>
    intro e fuel M hT he hpe hl h1 h2 h3 h4 hf
    obtain ⟨m, rfl⟩ : ∃ m, fuel = m + 1 := ⟨fuel - 1, by omega⟩
    have hL := hT.1
    have hbx : bx c L e = c e := if_pos (by omega)
    rw [fX13_goes_l108, pu_s, h1, byte_ok hT (by omega), b1_s, (m_let _ (bx_lt hT e)).1, b1_s, hbx, runN]
    by_cases q : letN (c e) = true
    · have hd : 97 ≤ c e ∧ c e ≤ 122 := by unfold letN at q; simp at q; exact q
      have hl2 : ∀ i, p ≤ i → i < e + 1 → letN (c i) = true := fun i z1 z2 => by
        by_cases z3 : i = e
        · rw [z3]; exact q
        · exact hl i z1 (by omega)
      have b159 : ∀ N : Mem, frG M N → gI N 103 26 = nI e → gI N 103 28 = nI p → gI N 103 30 = 0 → gL N 103 32 = nL (pkN c p (min 8 (e + 1 - p))) → ∃ M', fX13_goes_b159 (fX13_goes_l108 m) N = some M' ∧ gI M' 103 26 = nI (runN letN c d (e + 1)) ∧ gI M' 103 27 = 1 ∧ gI M' 103 28 = nI p ∧ gI M' 103 29 = nI (runN letN c d (e + 1) - p) ∧ gI M' 103 30 = 0 ∧ gL M' 103 32 = nL (pkN c p (min 8 (runN letN c d (e + 1) - p))) ∧ frG M M' := by
        intro N fN n1 n2 n3 n4
        unfold fX13_goes_b159
        rw [pu_s, pu_s, n1, nI_1]
        obtain ⟨M', p1, p2, p3, p4, p5, p6, p7, p8⟩ := ih (e + 1) m (sI N 103 26 (nI (e + 1))) ((hT.fr fN).fr (frG.rf.st (by omega))) (by omega) (by omega) hl2 gI_ss (by rw [gI_sj (by decide)]; exact n2) (by rw [gI_sj (by decide)]; exact n3) n4 (by omega)
        exact ⟨M', p1, p2, p3, p4, p5, p6, p7, (fN.st (by omega)).tr p8⟩
      rw [q, if_neg (by decide), if_pos rfl, pu_s, pu_s, h2, pk_sub (by omega), show (8 : Int32) = nI 8 from rfl]
      by_cases q4 : e - p < 8
      · have hlt := pkN_lt (c := c) (p := p) (e - p) (fun j hj => hl (p + j) (by omega) (by omega))
        have hpw : 32 ^ (e - p) ≤ 32 ^ 7 := Nat.pow_le_pow_right (by decide) (by omega)
        rw [if_pos (by rw [lt_nI (by omega) (by omega)]; exact q4), pu_s, pu_s, h4, byte_ok hT (by omega), b1_s, hbx, pu_s, show (96 : Int32) = nI 96 from rfl, pk_sub (by omega), Nat.min_eq_right (by omega), push_L (by omega) (by omega)]
        refine b159 _ frG.rf.sl (by rw [gI_sL]; exact h1) (by rw [gI_sL]; exact h2) (by rw [gI_sL]; exact h3) ?_
        rw [gL_sL, if_pos ⟨rfl, rfl⟩, Nat.min_eq_right (by omega), show e + 1 - p = e - p + 1 by omega, pkN, show p + (e - p) = e by omega]
      · rw [if_neg (by rw [lt_nI (by omega) (by omega)]; exact q4)]
        exact b159 M frG.rf h1 h2 h3 (by rw [h4, Nat.min_eq_left (by omega), Nat.min_eq_left (by omega)])
    · have q' : letN (c e) = false := by cases z : letN (c e) with
        | true => exact absurd z q
        | false => rfl
      rw [q', if_pos (by decide), if_neg (by decide)]
      exact fin e M hpe h1 h2 h3 h4
theorem mnum {c : Nat → Nat} {L p : Nat} : ∀ (d e fuel : Nat) (M : Mem), tpM c L M → e + d = L → p ≤ e → (∀ i, p ≤ i → i < e → digN (c i) = true) → gI M 103 26 = nI e → gI M 103 28 = nI p → gI M 103 30 = nI (dgv c p (min 4 (e - p))) → d < fuel → ∃ M', fX13_goes_l187 fuel M = some M' ∧ gI M' 103 26 = nI (runN digN c d e) ∧ gI M' 103 27 = 2 ∧ gI M' 103 28 = nI p ∧ gI M' 103 29 = nI (runN digN c d e - p) ∧ gI M' 103 30 = nI (dgv c p (min 4 (runN digN c d e - p))) ∧ frG M M' := by
  have fin : ∀ (e : Nat) (M : Mem), p ≤ e → gI M 103 26 = nI e → gI M 103 28 = nI p → gI M 103 30 = nI (dgv c p (min 4 (e - p))) → ∃ M', (pu (sI M 103 27 2) fun Mq35 => fX13_goes_b331 Mq35) = some M' ∧ gI M' 103 26 = nI e ∧ gI M' 103 27 = 2 ∧ gI M' 103 28 = nI p ∧ gI M' 103 29 = nI (e - p) ∧ gI M' 103 30 = nI (dgv c p (min 4 (e - p))) ∧ frG M M' := by
    intro e M hpe h1 h2 h3
    rw [pu_s, b331_ok (e := e) (p := p) (by rw [gI_sj (by decide)]; exact h1) (by rw [gI_sj (by decide)]; exact h2) hpe]
    refine ⟨_, rfl, ?_, ?_, ?_, gI_ss, ?_, (frG.rf.st (by omega)).st (by omega)⟩
    · rw [gI_sj (by decide), gI_sj (by decide), h1]
    · rw [gI_sj (by decide), gI_ss]
    · rw [gI_sj (by decide), gI_sj (by decide), h2]
    · rw [gI_sj (by decide), gI_sj (by decide), h3]
  intro d
  induction d with
  | zero =>
    intro e fuel M hT he hpe hl h1 h2 h3 hf
    obtain ⟨m, rfl⟩ : ∃ m, fuel = m + 1 := ⟨fuel - 1, by omega⟩
    have hL := hT.1
    rw [fX13_goes_l187, pu_s, h1, byte_ok hT (by omega), b1_s, (m_let _ (bx_lt hT e)).2, b1_s, show bx c L e = 0 from if_neg (by omega), show digN 0 = false from rfl, if_pos (by decide)]
    exact fin e M hpe h1 h2 h3
  | succ d ih =>
    intro e fuel M hT he hpe hl h1 h2 h3 hf
    obtain ⟨m, rfl⟩ : ∃ m, fuel = m + 1 := ⟨fuel - 1, by omega⟩
    have hL := hT.1
    have hbx : bx c L e = c e := if_pos (by omega)
    rw [fX13_goes_l187, pu_s, h1, byte_ok hT (by omega), b1_s, (m_let _ (bx_lt hT e)).2, b1_s, hbx, runN]
    by_cases q : digN (c e) = true
    · have hd : 48 ≤ c e ∧ c e ≤ 57 := by unfold digN at q; simp at q; exact q
      have hl2 : ∀ i, p ≤ i → i < e + 1 → digN (c i) = true := fun i z1 z2 => by
        by_cases z3 : i = e
        · rw [z3]; exact q
        · exact hl i z1 (by omega)
      have b237 : ∀ N : Mem, frG M N → gI N 103 26 = nI e → gI N 103 28 = nI p → gI N 103 30 = nI (dgv c p (min 4 (e + 1 - p))) → ∃ M', fX13_goes_b237 (fX13_goes_l187 m) N = some M' ∧ gI M' 103 26 = nI (runN digN c d (e + 1)) ∧ gI M' 103 27 = 2 ∧ gI M' 103 28 = nI p ∧ gI M' 103 29 = nI (runN digN c d (e + 1) - p) ∧ gI M' 103 30 = nI (dgv c p (min 4 (runN digN c d (e + 1) - p))) ∧ frG M M' := by
        intro N fN n1 n2 n3
        unfold fX13_goes_b237
        rw [pu_s, pu_s, n1, nI_1]
        obtain ⟨M', p1, p2, p3, p4, p5, p6, p7⟩ := ih (e + 1) m (sI N 103 26 (nI (e + 1))) ((hT.fr fN).fr (frG.rf.st (by omega))) (by omega) (by omega) hl2 gI_ss (by rw [gI_sj (by decide)]; exact n2) (by rw [gI_sj (by decide)]; exact n3) (by omega)
        exact ⟨M', p1, p2, p3, p4, p5, p6, (fN.st (by omega)).tr p7⟩
      rw [q, if_neg (by decide), if_pos rfl, pu_s, pu_s, h2, pk_sub (by omega), show (4 : Int32) = nI 4 from rfl]
      by_cases q4 : e - p < 4
      · rw [if_pos (by rw [lt_nI (by omega) (by omega)]; exact q4), pu_s, pu_s, h3, byte_ok hT (by omega), b1_s, hbx, pu_s, show (10 : Int32) = nI 10 from rfl, pk_mul, nI_add, show (48 : Int32) = nI 48 from rfl, pk_sub (by omega)]
        refine b237 _ (frG.rf.st (by omega)) (by rw [gI_sj (by decide)]; exact h1) (by rw [gI_sj (by decide)]; exact h2) ?_
        rw [gI_ss, Nat.min_eq_right (by omega), Nat.min_eq_right (by omega), show e + 1 - p = e - p + 1 by omega, dgv, show p + (e - p) = e by omega]
        congr 1
        omega
      · rw [if_neg (by rw [lt_nI (by omega) (by omega)]; exact q4)]
        exact b237 M frG.rf h1 h2 (by rw [h3, Nat.min_eq_left (by omega), Nat.min_eq_left (by omega)])
    · have q' : digN (c e) = false := by cases z : digN (c e) with
        | true => exact absurd z q
        | false => rfl
      rw [q', if_pos (by decide), if_neg (by decide)]
      exact fin e M hpe h1 h2 h3
theorem skpM {c : Nat → Nat} {L : Nat} : ∀ (d p fuel : Nat) (M : Mem), tpM c L M → p + d = L → gI M 103 26 = nI p → d < fuel → ∃ M', fX13_goes_l0 fuel M = fX13_goes_b50 M' ∧ gI M' 103 26 = nI (runN blkB c d p) ∧ frG M M' := by
  intro d
  induction d with
  | zero =>
    intro p fuel M hT hp h1 hf
    obtain ⟨m, rfl⟩ : ∃ m, fuel = m + 1 := ⟨fuel - 1, by omega⟩
    have hL := hT.1
    rw [fX13_goes_l0, pu_s, pu_s, h1, hT.2.1, if_neg (by rw [lt_nI (by omega) (by omega)]; omega)]
    exact ⟨M, rfl, h1, frG.rf⟩
  | succ d ih =>
    intro p fuel M hT hp h1 hf
    obtain ⟨m, rfl⟩ : ∃ m, fuel = m + 1 := ⟨fuel - 1, by omega⟩
    have hL := hT.1
    have hbx : bx c L p = c p := if_pos (by omega)
    have t1 := (hT.2.2 p (by omega)).1
    have b37 : blkB (c p) = true → ∃ M', fX13_goes_b37 (fX13_goes_l0 m) M = fX13_goes_b50 M' ∧ gI M' 103 26 = nI (runN blkB c (d + 1) p) ∧ frG M M' := by
      intro hb
      unfold fX13_goes_b37
      rw [pu_s, pu_s, h1, nI_1]
      obtain ⟨M', p1, p2, p3⟩ := ih (p + 1) m (sI M 103 26 (nI (p + 1))) (hT.fr (frG.rf.st (by omega))) (by omega) gI_ss (by omega)
      exact ⟨M', p1, by rw [p2, runN, if_pos hb], (frG.rf.st (by omega)).tr p3⟩
    rw [fX13_goes_l0, pu_s, pu_s, h1, hT.2.1, if_pos (by rw [lt_nI (by omega) (by omega)]; omega), pu_s, byte_ok hT (by omega), b1_s, hbx]
    by_cases q1 : c p = 32
    · rw [if_pos (by rw [q1]; rfl)]
      exact b37 (by rw [q1]; rfl)
    · rw [if_neg (by rw [show (32 : Int32) = nI 32 from rfl, eq_nI (by omega) (by omega)]; exact q1), pu_s, byte_ok hT (by omega), b1_s, hbx]
      by_cases q2 : c p = 10
      · rw [if_pos (by rw [q2]; rfl)]
        exact b37 (by rw [q2]; rfl)
      · rw [if_neg (by rw [show (10 : Int32) = nI 10 from rfl, eq_nI (by omega) (by omega)]; exact q2)]
        refine ⟨M, rfl, ?_, frG.rf⟩
        rw [h1, runN, if_neg]
        unfold blkB
        simp
        exact ⟨q1, q2⟩
theorem goesM {c : Nat → Nat} {L q : Nat} {M : Mem} (hT : tpM c L M) (hq : q ≤ L) (h1 : gI M 103 26 = nI q) : ∃ M', fX13_goes M = some M' ∧ tkM c L q M' ∧ frG M M' := by
  have hL := hT.1
  obtain ⟨N, s1, s2, s3⟩ := skpM (L - q) q FU M hT (by omega) h1 (by show _ < 100000; omega)
  have s2' : gI N 103 26 = nI (tP c L q) := s2
  obtain ⟨g1, g2⟩ := tP_le (c := c) hq
  have hTN := hT.fr s3
  let N9 := sI (sI (sL (sI N 103 28 (nI (tP c L q))) 103 32 0) 103 30 0) 103 31 (nI (bx c L (tP c L q)))
  have f9 : frG M N9 := (((s3.st (by omega)).sl).st (by omega)).st (by omega)
  have e26 : gI N9 103 26 = nI (tP c L q) := by rw [gI_sj (by decide), gI_sj (by decide), gI_sL, gI_sj (by decide), s2']
  have e28 : gI N9 103 28 = nI (tP c L q) := by rw [gI_sj (by decide), gI_sj (by decide), gI_sL, gI_ss]
  have e30 : gI N9 103 30 = 0 := by rw [gI_sj (by decide), gI_ss]
  have e31 : gI N9 103 31 = nI (bx c L (tP c L q)) := gI_ss
  have e32 : gL N9 103 32 = nL 0 := by
    show gL (sL (sI N 103 28 (nI (tP c L q))) 103 32 0) 103 32 = _
    rw [gL_sL, if_pos ⟨rfl, rfl⟩]; rfl
  have hT9 : tpM c L N9 := hT.fr f9
  have hgo : fX13_goes M = fX13_goes_b50 N := s1
  have hb : fX13_goes_b50 N = (if tP c L q < L then (b1 (fX13_isLetter (nI (bx c L (tP c L q)))) fun vq12 => if vq12 = 0 then (b1 (fX13_isDigit (nI (bx c L (tP c L q)))) fun vq13 => if vq13 = 0 then (if sgnN (bx c L (tP c L q)) = true then fX13_goes_b323 (sI N9 103 26 (nI (tP c L q + 1))) else fX13_goes_b328 (sI N9 103 26 (nI (tP c L q + 1))) 4) else fX13_goes_l187 FU N9) else fX13_goes_l108 FU N9) else fX13_goes_b331 (sI N9 103 27 0)) := by
    have hT6 : tpM c L (sI (sL (sI N 103 28 (nI (tP c L q))) 103 32 0) 103 30 0) := hTN.fr (((frG.rf.st (by omega)).sl).st (by omega))
    unfold fX13_goes_b50
    rw [pu_s, pu_s, pu_s, pu_s, pu_s, s2', gI_sj (by decide), gI_sL, gI_sj (by decide), s2', byte_ok hT6 (by omega), b1_s, pu_s]
    show (pu (gI N9 103 26) fun vq10 => pu (gI N9 103 25) fun vq11 => _) = _
    rw [pu_s, pu_s, e26, hT9.2.1]
    by_cases z : tP c L q < L
    · rw [if_pos (by rw [lt_nI (by omega) (by omega)]; exact z), if_pos z, ← chain9 (bx_lt hT9 (tP c L q))]
      simp only [pu_s, e26, nI_1]
      rfl
    · rw [if_neg (by rw [lt_nI (by omega) (by omega)]; exact z), if_neg z]
      rfl
  rw [hgo, hb]
  by_cases q0 : tP c L q < L
  · have hbx : bx c L (tP c L q) = c (tP c L q) := if_pos q0
    obtain ⟨l1, l2⟩ := m_let _ (bx_lt hT9 (tP c L q))
    rw [if_pos q0, l1, b1_s, l2, hbx]
    rw [hbx] at e31
    by_cases q1 : letN (c (tP c L q)) = true
    · have hk : tK c L q = 1 := by unfold tK; rw [if_neg (by omega), if_pos q1]
      obtain ⟨-, hN, -⟩ := tN_let hk
      obtain ⟨M', p1, p2, p3, p4, p5, p6, p7, p8⟩ := mwd (c := c) (L := L) (p := tP c L q) (L - tP c L q) (tP c L q) FU N9 hT9 (by omega) (Nat.le_refl _) (fun i z1 z2 => absurd z1 (by omega)) e26 e28 e30 (by rw [e32, Nat.sub_self]; rfl) (by show _ < 100000; omega)
      rw [q1, if_neg (by decide)]
      rw [← hN] at p2 p5 p7
      refine ⟨M', p1, ⟨p2, by rw [p3, hk]; rfl, p4, p5, ?_, fun z => absurd z (by omega), fun _ => p7⟩, f9.tr p8⟩
      rw [p6, hk, if_neg (by decide)]; rfl
    · have q1' : letN (c (tP c L q)) = false := by cases z : letN (c (tP c L q)) with
        | true => exact absurd z q1
        | false => rfl
      rw [q1', if_pos (by decide), b1_s]
      by_cases q2 : digN (c (tP c L q)) = true
      · have hk : tK c L q = 2 := by unfold tK; rw [if_neg (by omega), if_neg q1, if_pos q2]
        obtain ⟨-, hN, -, -⟩ := tN_dig hk
        obtain ⟨M', p1, p2, p3, p4, p5, p6, p7⟩ := mnum (c := c) (L := L) (p := tP c L q) (L - tP c L q) (tP c L q) FU N9 hT9 (by omega) (Nat.le_refl _) (fun i z1 z2 => absurd z1 (by omega)) e26 e28 (by rw [e30, Nat.sub_self]; rfl) (by show _ < 100000; omega)
        rw [q2, if_neg (by decide)]
        rw [← hN] at p2 p5 p6
        refine ⟨M', p1, ⟨p2, by rw [p3, hk]; rfl, p4, p5, ?_, fun z => absurd z (by omega), fun z => absurd z (by omega)⟩, f9.tr p7⟩
        rw [p6, if_pos hk]
      · have q2' : digN (c (tP c L q)) = false := by cases z : digN (c (tP c L q)) with
          | true => exact absurd z q2
          | false => rfl
        have hN : tN c L q = tP c L q + 1 := by unfold tN; rw [if_neg (by omega), if_neg q1, if_neg q2]
        have b328 : ∀ s : Nat, s = srt (tK c L q) → tK c L q ≠ 1 → tK c L q ≠ 2 → (40 ≤ tK c L q → tK c L q = c (tP c L q)) → ∃ M', fX13_goes_b328 (sI N9 103 26 (nI (tP c L q + 1))) (nI s) = some M' ∧ tkM c L q M' ∧ frG M M' := by
          intro s hs k1 k2 k3
          unfold fX13_goes_b328
          rw [pu_s, b331_ok (e := tP c L q + 1) (p := tP c L q) (by rw [gI_sj (by decide), gI_ss]) (by rw [gI_sj (by decide), gI_sj (by decide), e28]) (by omega)]
          refine ⟨_, rfl, ⟨?_, ?_, ?_, ?_, ?_, fun z => ?_, fun z => absurd z k1⟩, ((f9.st (by omega)).st (by omega)).st (by omega)⟩
          · rw [gI_sj (by decide), gI_sj (by decide), gI_ss, hN]
          · rw [gI_sj (by decide), gI_ss, hs]
          · rw [gI_sj (by decide), gI_sj (by decide), gI_sj (by decide), e28]
          · rw [gI_ss, hN]
          · rw [gI_sj (by decide), gI_sj (by decide), gI_sj (by decide), e30, if_neg k2]; rfl
          · rw [gI_sj (by decide), gI_sj (by decide), gI_sj (by decide), e31, k3 z]
        rw [q2', if_pos (by decide)]
        by_cases q3 : sgnN (c (tP c L q)) = true
        · have hk : tK c L q = c (tP c L q) := by unfold tK; rw [if_neg (by omega), if_neg q1, if_neg q2, if_pos q3]
          have hs := sgn_ge q3
          rw [if_pos q3]
          exact b328 3 (by unfold srt; rw [if_neg (by omega), if_neg (by omega), if_neg (by omega), if_neg (by omega)]) (by omega) (by omega) (fun _ => hk)
        · have hk : tK c L q = 3 := by unfold tK; rw [if_neg (by omega), if_neg q1, if_neg q2, if_neg q3]
          rw [if_neg q3]
          exact b328 4 (by rw [hk]; rfl) (by omega) (by omega) (fun z => absurd z (by omega))
  · have hk : tK c L q = 0 := by unfold tK; rw [if_pos (by omega)]
    have hN : tN c L q = tP c L q := by unfold tN; rw [if_pos (by omega)]
    rw [if_neg q0, b331_ok (e := tP c L q) (p := tP c L q) (by rw [gI_sj (by decide), e26]) (by rw [gI_sj (by decide), e28]) (Nat.le_refl _)]
    refine ⟨_, rfl, ⟨?_, ?_, ?_, ?_, ?_, fun z => absurd z (by omega), fun z => absurd z (by omega)⟩, (f9.st (by omega)).st (by omega)⟩
    · rw [gI_sj (by decide), gI_sj (by decide), e26, hN]
    · rw [gI_sj (by decide), gI_ss, hk]; rfl
    · rw [gI_sj (by decide), gI_sj (by decide), e28]
    · rw [gI_ss, hN]
    · rw [gI_sj (by decide), gI_sj (by decide), e30, hk, if_neg (by decide)]; rfl
theorem kw21 {M : Mem} {V : Nat} (hV : V < 2 ^ 63) (h : gL M 103 32 = nL V) : ∀ (d k fuel : Nat), k + d = 22 → (∀ j, j < k → LT j ≠ V) → d < fuel → (∃ k0, k0 < 22 ∧ LT k0 = V ∧ fX13_knownWord_l21 fuel M (nI k) = some (nI k0)) ∨ ((∀ j, j < 22 → LT j ≠ V) ∧ fX13_knownWord_l21 fuel M (nI k) = some (-1)) := by
  intro d
  induction d with
  | zero =>
    intro k fuel hk hj hf
    obtain ⟨m, rfl⟩ : ∃ m, fuel = m + 1 := ⟨fuel - 1, by omega⟩
    refine Or.inr ⟨fun j q => hj j (by omega), ?_⟩
    rw [fX13_knownWord_l21, show (22 : Int32) = nI 22 from rfl, if_neg (by rw [lt_nI (by omega) (by omega)]; omega)]
  | succ d ih =>
    intro k fuel hk hj hf
    obtain ⟨m, rfl⟩ : ∃ m, fuel = m + 1 := ⟨fuel - 1, by omega⟩
    have hLT := LT_lt k (by omega)
    rw [fX13_knownWord_l21, show (22 : Int32) = nI 22 from rfl, if_pos (by rw [lt_nI (by omega) (by omega)]; omega), letters_ok k (by omega), b1_s, pu_s, h]
    by_cases q : LT k = V
    · rw [if_pos ((lcmp_nL (by omega) hV).mpr q)]
      exact Or.inl ⟨k, by omega, q, rfl⟩
    · rw [if_neg (fun z => q ((lcmp_nL (by omega) hV).mp z)), pu_s, nI_1]
      exact ih (k + 1) m (by omega) (fun j hj2 => by
        by_cases e : j = k
        · rw [e]; exact q
        · exact hj j (by omega)) (by omega)
theorem known_ok {c : Nat → Nat} {L q : Nat} {M : Mem} (hL : L ≤ 700) (hq : q ≤ L) (h : tkM c L q M) : fX13_knownWord M = some (kwI (tW c L q)) := by
  obtain ⟨g1, g2⟩ := tN_le (c := c) hq
  unfold fX13_knownWord
  rw [pu_s, h.2.1]
  by_cases hk : tK c L q = 1
  · obtain ⟨-, hN, -⟩ := tN_let hk
    have hl : ∀ j, j < tN c L q - tP c L q → letN (c (tP c L q + j)) = true := fun j hj => runN_in (f := letN) (L - tP c L q) (tP c L q) _ (by omega) (by omega)
    have hW : tW c L q = wix c (tP c L q) (tN c L q - tP c L q) 23 := by unfold tW; rw [if_pos hk]
    obtain ⟨m1, m2⟩ := wix_m (c := c) (p := tP c L q) (n := tN c L q - tP c L q) 23 (Nat.le_refl _)
    have hle := tW_le (c := c) (L := L) (q := q)
    rw [← hW] at m1 m2
    rw [hk, if_pos (by decide), pu_s, h.2.2.2.1, show (8 : Int32) = nI 8 from rfl]
    by_cases h8 : 8 < tN c L q - tP c L q
    · rw [if_pos (by rw [lt_nI (by omega) (by omega)]; exact h8)]
      have : ¬ tW c L q < 22 := fun z => by
        have := m1 z
        unfold mtc at this
        simp at this
        have := (wt_let _ z).1
        omega
      unfold kwI
      rw [if_neg this]
    · rw [if_neg (by rw [lt_nI (by omega) (by omega)]; exact h8)]
      have h32 := h.2.2.2.2.2.2 hk
      rw [Nat.min_eq_right (by omega)] at h32
      have hlt := pkN_lt (c := c) (p := tP c L q) (tN c L q - tP c L q) hl
      have hpw : 32 ^ (tN c L q - tP c L q) ≤ 32 ^ 8 := Nat.pow_le_pow_right (by decide) (by omega)
      unfold kwI
      rcases kw21 (V := pkN c (tP c L q) (tN c L q - tP c L q)) (by omega) h32 22 0 FU (by omega) (fun j q => absurd q (by omega)) (by show _ < 100000; omega) with ⟨k0, z1, z2, z3⟩ | ⟨z1, z2⟩
      · have hz : ¬ tW c L q = 22 := fun e => by
          refine m2 e (kwi k0) (by have := (wk_kwi.1 k0 z1).2; omega) (wk_kwi.1 k0 z1).2 ((mtc_iff (wk_kwi.1 k0 z1).2 (by omega) hl).mpr ?_)
          rw [(wk_kwi.1 k0 z1).1, z2]
        have hlt2 : tW c L q < 22 := by omega
        have := (mtc_iff hlt2 (by omega) hl).mp (m1 hlt2)
        rw [if_pos hlt2, LT_inj (wk (tW c L q)) (wk_kwi.2 _ hlt2).2 k0 z1 (by rw [← this, z2])]
        exact z3
      · have hz : ¬ tW c L q < 22 := fun e => z1 _ (wk_kwi.2 _ e).2 ((mtc_iff e (by omega) hl).mp (m1 e)).symm
        rw [if_neg hz]
        exact z2
  · have hW : tW c L q = 22 := by unfold tW; rw [if_neg hk]
    have : ¬ nI (srt (tK c L q)) = 1 := by
      rw [show (1 : Int32) = nI 1 from rfl]
      unfold srt
      rcases tK_cases (c := c) (L := L) (q := q) with z | z | z | z | z
      · rw [z]; decide
      · exact absurd z hk
      · rw [z]; decide
      · rw [z]; decide
      · rw [if_neg (by omega), if_neg (by omega), if_neg (by omega), if_neg (by omega)]; decide
    rw [if_neg this, hW]
    rfl
theorem isSign_ok {c : Nat → Nat} {L q k : Nat} {M : Mem} (h : tkM c L q M) (hk : 40 ≤ k ∧ k ≤ 61) : fX13_isSign M (nI k) = some (if tK c L q = k then 1 else 0) := by
  unfold fX13_isSign
  rw [pu_s, h.2.1]
  by_cases q1 : 40 ≤ tK c L q
  · have hle : tK c L q ≤ 61 := by rcases tK_cases (c := c) (L := L) (q := q) with z | z | z | z | z <;> omega
    rw [if_pos (by unfold srt; rw [if_neg (by omega), if_neg (by omega), if_neg (by omega), if_neg (by omega)]; rfl), pu_s, h.2.2.2.2.2.1 q1]
    by_cases q2 : tK c L q = k
    · rw [if_pos q2, if_pos (by rw [q2])]
    · rw [if_neg q2, if_neg (by rw [eq_nI (by omega) (by omega)]; exact q2)]
  · have : ¬ nI (srt (tK c L q)) = 3 := by
      rw [show (3 : Int32) = nI 3 from rfl]
      unfold srt
      rcases tK_cases (c := c) (L := L) (q := q) with z | z | z | z | z
      · rw [z]; decide
      · rw [z]; decide
      · rw [z]; decide
      · rw [z]; decide
      · exact absurd z.1 q1
    rw [if_neg this, if_neg (by omega)]
theorem sort2 {c : Nat → Nat} {L q : Nat} {M : Mem} (h : tkM c L q M) : (gI M 103 27 = 2 ↔ tK c L q = 2) ∧ (gI M 103 27 = 1 ↔ tK c L q = 1) ∧ (gI M 103 27 = 0 ↔ tK c L q = 0) := by
  rw [h.2.1]
  unfold srt
  rcases tK_cases (c := c) (L := L) (q := q) with z | z | z | z | z
  · rw [z]; decide
  · rw [z]; decide
  · rw [z]; decide
  · rw [z]; decide
  · rw [if_neg (by omega), if_neg (by omega), if_neg (by omega), if_neg (by omega)]
    refine ⟨⟨fun y => absurd y (by decide), fun y => absurd y (by omega)⟩, ⟨fun y => absurd y (by decide), fun y => absurd y (by omega)⟩, ⟨fun y => absurd y (by decide), fun y => absurd y (by omega)⟩⟩
