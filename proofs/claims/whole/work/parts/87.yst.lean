/-! TEXTS: what the reference holds while it reads an expression -/
/-- code l from p to e -/
def encP (f : Nat → Int32) (km : Nat → Nat) : List Int32 → Nat → Nat → Prop
  | [], p, e => p = e
  | x :: l, p, e => if x < -6 then f p = opM x ∧ encP f km l (p + 1) e else (if x < 0 then f p = 2 ∧ f (p + 1) = nI (km ((-1) - x).toNatClampNeg) else f p = 1 ∧ f (p + 1) = x) ∧ encP f km l (p + 2) e
theorem encP_le {f : Nat → Int32} {km : Nat → Nat} : ∀ (l : List Int32) (p e : Nat), encP f km l p e → p ≤ e := by
  intro l
  induction l with
  | nil => intro p e h; exact Nat.le_of_eq h
  | cons x l ih =>
    intro p e h
    unfold encP at h
    split at h
    · have := ih _ _ h.2; omega
    · have := ih _ _ h.2; omega
theorem encP_c {f g : Nat → Int32} {km : Nat → Nat} : ∀ (l : List Int32) (p e : Nat), encP f km l p e → (∀ i, p ≤ i → i < e → g i = f i) → encP g km l p e := by
  intro l
  induction l with
  | nil => intro p e h _; exact h
  | cons x l ih =>
    intro p e h hg
    unfold encP at h ⊢
    by_cases q : x < -6
    · rw [if_pos q] at h ⊢
      have := encP_le l _ _ h.2
      exact ⟨by rw [hg p (Nat.le_refl _) (by omega)]; exact h.1, ih _ _ h.2 fun i h1 h2 => hg i (by omega) h2⟩
    · rw [if_neg q] at h ⊢
      have := encP_le l _ _ h.2
      refine ⟨?_, ih _ _ h.2 fun i h1 h2 => hg i (by omega) h2⟩
      rw [hg p (Nat.le_refl _) (by omega), hg (p + 1) (by omega) (by omega)]
      exact h.1
theorem encP_op {f : Nat → Int32} {km : Nat → Nat} {x : Int32} (hx : x < -6) : ∀ (l : List Int32) (p e : Nat), encP f km l p e → f e = opM x → encP f km (l ++ [x]) p (e + 1) := by
  intro l
  induction l with
  | nil =>
    intro p e h he
    have h' : p = e := h
    rw [List.nil_append]
    unfold encP
    rw [if_pos hx, h']
    exact ⟨he, rfl⟩
  | cons y l ih =>
    intro p e h he
    rw [List.cons_append]
    unfold encP at h ⊢
    by_cases q : y < -6
    · rw [if_pos q] at h ⊢
      exact ⟨h.1, ih _ _ h.2 he⟩
    · rw [if_neg q] at h ⊢
      exact ⟨h.1, ih _ _ h.2 he⟩
theorem encP_v {f : Nat → Int32} {km : Nat → Nat} {x : Int32} (hx : ¬ x < -6) : ∀ (l : List Int32) (p e : Nat), encP f km l p e → (if x < 0 then f e = 2 ∧ f (e + 1) = nI (km ((-1) - x).toNatClampNeg) else f e = 1 ∧ f (e + 1) = x) → encP f km (l ++ [x]) p (e + 2) := by
  intro l
  induction l with
  | nil =>
    intro p e h he
    have h' : p = e := h
    rw [List.nil_append]
    unfold encP
    rw [if_neg hx, h']
    exact ⟨he, rfl⟩
  | cons y l ih =>
    intro p e h he
    rw [List.cons_append]
    unfold encP at h ⊢
    by_cases q : y < -6
    · rw [if_pos q] at h ⊢
      exact ⟨h.1, ih _ _ h.2 he⟩
    · rw [if_neg q] at h ⊢
      exact ⟨h.1, ih _ _ h.2 he⟩
theorem encP_M {f : Nat → Int32} {km : Nat → Nat} : ∀ (l : List Int32) (p e : Nat), encP f km l p e → f e = 0 → e < 1400 → encM f km l p := by
  intro l
  induction l with
  | nil =>
    intro p e h h0 he
    have h' : p = e := h
    unfold encM
    rw [h']
    exact ⟨he, h0⟩
  | cons x l ih =>
    intro p e h h0 he
    unfold encP at h
    unfold encM
    by_cases q : x < -6
    · rw [if_pos q] at h ⊢
      have := encP_le l _ _ h.2
      exact ⟨by omega, h.1, ih _ _ h.2 h0 he⟩
    · rw [if_neg q] at h ⊢
      have := encP_le l _ _ h.2
      exact ⟨by omega, by omega, h.1, ih _ _ h.2 h0 he⟩
def acM (x : Int32) : Int32 := if x = 0 then 14 else opM x
def vst (st : List Int32) : Prop := ∀ x ∈ st, x = 0 ∨ (-16 < x ∧ x < -6)
theorem acM_f {x : Int32} (h : x = 0 ∨ (-16 < x ∧ x < -6)) : fX13_isOpen (acM x) = some (if x = 0 then 1 else 0) ∧ (x ≠ 0 → fX13_strength (acM x) = some (nI (strN x)) ∧ strN x ≤ 6 ∧ acM x = opM x) := by
  rcases h with e | ⟨h1, h2⟩
  · subst e
    exact ⟨by decide, fun z => absurd rfl z⟩
  · rcases op_cases h1 h2 with e | e | e | e | e | e | e | e | e <;> subst e <;> exact ⟨by decide, fun _ => ⟨by decide, by decide, by decide⟩⟩
/-- what waits, its top first -/
def stM (M : Mem) : List Int32 → Prop
  | [] => True
  | x :: s => gI M 131 s.length = acM x ∧ stM M s
theorem stM_c {M M' : Mem} : ∀ st : List Int32, stM M st → (∀ i, i < st.length → gI M' 131 i = gI M 131 i) → stM M' st := by
  intro st
  induction st with
  | nil => intro _ _; exact True.intro
  | cons x s ih =>
    intro h hi
    exact ⟨(hi s.length (by rw [List.length_cons]; omega)).trans h.1, ih h.2 fun i hi2 => hi i (by rw [List.length_cons]; omega)⟩
def frY (p0 : Nat) (M M' : Mem) : Prop := (∀ a j, (a = 103 → j ≠ 22 ∧ j ≠ 23 ∧ (j < 26 ∨ 31 < j) ∧ j ≠ 40 ∧ j ≠ 43 ∧ j ≠ 44) → a ≠ 131 → a ≠ 132 → (a = 130 → j < p0) → gI M' a j = gI M a j) ∧ M'.2.2 = M.2.2 ∧ (gI M' 103 22 = 0 → gI M 103 22 = 0 ∧ gI M' 103 23 = gI M 103 23)
theorem frY.rf {p0 : Nat} {M : Mem} : frY p0 M M := ⟨fun _ _ _ _ _ _ => rfl, rfl, fun z => ⟨z, rfl⟩⟩
theorem frY.tr {p0 : Nat} {M M1 M2 : Mem} (h : frY p0 M M1) (h2 : frY p0 M1 M2) : frY p0 M M2 := ⟨fun a j x y z u => (h2.1 a j x y z u).trans (h.1 a j x y z u), h2.2.1.trans h.2.1, fun w => ⟨(h.2.2 (h2.2.2 w).1).1, (h2.2.2 w).2.trans (h.2.2 (h2.2.2 w).1).2⟩⟩
theorem frY.st {p0 : Nat} {M M1 : Mem} {a i : Nat} {v : Int32} (h : frY p0 M M1) (ha : (a = 103 ∧ ((26 ≤ i ∧ i ≤ 31) ∨ i = 40 ∨ i = 43 ∨ i = 44)) ∨ a = 131 ∨ a = 132 ∨ (a = 130 ∧ p0 ≤ i)) : frY p0 M (sI M1 a i v) := ⟨fun b j x y z u => by
  rw [gI_sI, if_neg]
  · exact h.1 b j x y z u
  · rintro ⟨q1, q2⟩
    subst q1
    subst q2
    rcases ha with ⟨e1, e2⟩ | e1 | e1 | ⟨e1, e2⟩
    · have := x e1; omega
    · exact y e1
    · exact z e1
    · have := u e1; omega, h.2.1, fun w => by
  rw [gI_sI, if_neg (by omega)] at w ⊢
  exact h.2.2 w⟩
theorem frG.Y {p0 : Nat} {M M1 : Mem} (h : frG M M1) : frY p0 M M1 := ⟨fun a j x _ _ _ => h.1 a j (fun e => by have := x e; omega), h.2, fun w => ⟨(h.1 103 22 (fun _ => by decide)).symm.trans w, h.1 103 23 (fun _ => by decide)⟩⟩
theorem frY.wr {p0 : Nat} {M M1 : Mem} {e : Nat} {v : Int32} (h : frY p0 M M1) (he : 1 ≤ e) (he2 : e < 10) : frY p0 M (sI (sI M1 103 22 (nI e)) 103 23 v) := ⟨fun b j x y z u => by
  rw [gI_sI, if_neg (fun w => by have := x w.1; omega), gI_sI, if_neg (fun w => by have := x w.1; omega)]
  exact h.1 b j x y z u, h.2.1, fun w => by
  rw [gI_sj (by decide), gI_ss] at w
  exact absurd w (nI_ne0 (by omega) (by omega))⟩
/-- the token is still the same -/
theorem tkM.mv {c : Nat → Nat} {L q : Nat} {M M' : Mem} (h : tkM c L q M) (h1 : ∀ j, 26 ≤ j → j ≤ 31 → gI M' 103 j = gI M 103 j) (h2 : gL M' 103 32 = gL M 103 32) : tkM c L q M' := by
  obtain ⟨a1, a2, a3, a4, a5, a6, a7⟩ := h
  refine ⟨?_, ?_, ?_, ?_, ?_, fun z => ?_, fun z => ?_⟩
  · rw [h1 _ (by decide) (by decide)]; exact a1
  · rw [h1 _ (by decide) (by decide)]; exact a2
  · rw [h1 _ (by decide) (by decide)]; exact a3
  · rw [h1 _ (by decide) (by decide)]; exact a4
  · rw [h1 _ (by decide) (by decide)]; exact a5
  · rw [h1 _ (by decide) (by decide)]; exact a6 z
  · rw [h2]; exact a7 z
theorem tpM.mv {c : Nat → Nat} {L : Nat} {M M' : Mem} (h : tpM c L M) (h1 : gI M' 103 25 = gI M 103 25) (h2 : ∀ j, gI M' 116 j = gI M 116 j) : tpM c L M' := ⟨h.1, h1.trans h.2.1, fun i hi => ⟨(h.2.2 i hi).1, (h2 i).trans (h.2.2 i hi).2⟩⟩
/-- good, at the token from q on: code out, what waits st, depth d, whether tested te; kt and ks: how much more than the text allows -/
def mX (c : Nat → Nat) (L : Nat) (km : Nat → Nat) (p0 : Nat) (M0 : Mem) (kt ks : Nat) (out st : List Int32) (d : Nat) (te : Nat → Bool) (q : Nat) (M : Mem) : Prop :=
  (tpM c L M ∧ tkM c L q M ∧ q ≤ L) ∧ gI M 103 22 = 0 ∧ (∃ top, gI M 103 40 = nI top ∧ encP (gI M 130) km out p0 top ∧ top + st.length + 8 ≤ 2 * q + kt) ∧ (gI M 103 43 = nI st.length ∧ st.length ≤ q + ks ∧ stM M st ∧ vst st) ∧ (gI M 103 44 = nI d ∧ 1 ≤ d ∧ d ≤ 6) ∧ (∀ i, 1 ≤ i → i ≤ d → gI M 132 i = bN (te i)) ∧ frY p0 M0 M
/-- failed: the fault, and room for what is still put -/
def fY (p0 : Nat) (M0 : Mem) (e : Nat × Nat) (M : Mem) : Prop := (gI M 103 22 = nI e.1 ∧ gI M 103 23 = nI e.2 ∧ 1 ≤ e.1 ∧ e.1 < 10) ∧ (∃ top w, gI M 103 40 = nI top ∧ gI M 103 43 = nI w ∧ p0 ≤ top ∧ top + w ≤ 1398 ∧ w ≤ 940) ∧ frY p0 M0 M
theorem good_1 {M : Mem} (h : gI M 103 22 = 0) : fX13_isGood M = some 1 := by
  unfold fX13_isGood
  rw [pu_s, h, if_pos rfl]
theorem good_0 {M : Mem} {e : Nat} (h : gI M 103 22 = nI e) (h1 : 1 ≤ e) (h2 : e < 10) : fX13_isGood M = some 0 := by
  unfold fX13_isGood
  rw [pu_s, h, if_neg (nI_ne0 (by omega) (by omega))]
theorem wrong_ok {M : Mem} {e p : Nat} (h : gI M 103 22 = 0) (hp : gI M 103 28 = nI p) : fX13_wrong M (nI e) = some (sI (sI M 103 22 (nI e)) 103 23 (nI p)) := by
  unfold fX13_wrong
  rw [pu_s, h, if_pos rfl, pu_s, pu_s, gI_sj (by decide), hp, pu_s]
theorem puts_ok {M : Mem} {top : Nat} {v : Int32} (h : gI M 103 40 = nI top) (ht : top < 1400) : fX13_puts M v = some (sI (sI M 130 top v) 103 40 (nI (top + 1))) := by
  unfold fX13_puts
  rw [pu_s, h, stI_nI ht (by decide), pu_s, pu_s, gI_sa (by decide), h, nI_1]
theorem waits_ok {M : Mem} {w : Nat} {v : Int32} (h : gI M 103 43 = nI w) (hw : w < 950) : fX13_waitsFor M v = some (sI (sI M 131 w v) 103 43 (nI (w + 1))) := by
  unfold fX13_waitsFor
  rw [pu_s, h, stI_nI hw (by decide), pu_s, pu_s, gI_sa (by decide), h, nI_1]
-- failing
theorem fY.st {p0 : Nat} {M0 : Mem} {e : Nat × Nat} {M : Mem} {i : Nat} {v : Int32} (h : fY p0 M0 e M) (hi : 26 ≤ i ∧ i ≤ 31 ∨ i = 44) : fY p0 M0 e (sI M 103 i v) := by
  obtain ⟨⟨h1, h2, h3, h4⟩, ⟨top, w, h5, h6, h7⟩, h8⟩ := h
  exact ⟨⟨by rw [gI_sj (by omega)]; exact h1, by rw [gI_sj (by omega)]; exact h2, h3, h4⟩, ⟨top, w, by rw [gI_sj (by omega)]; exact h5, by rw [gI_sj (by omega)]; exact h6, h7⟩, h8.st (Or.inl ⟨rfl, by omega⟩)⟩
theorem fY.G {p0 : Nat} {M0 : Mem} {e : Nat × Nat} {M M' : Mem} (h : fY p0 M0 e M) (f : frG M M') : fY p0 M0 e M' := by
  obtain ⟨⟨h1, h2, h3, h4⟩, ⟨top, w, h5, h6, h7⟩, h8⟩ := h
  exact ⟨⟨by rw [f.1 _ _ (fun _ => by omega)]; exact h1, by rw [f.1 _ _ (fun _ => by omega)]; exact h2, h3, h4⟩, ⟨top, w, by rw [f.1 _ _ (fun _ => by omega)]; exact h5, by rw [f.1 _ _ (fun _ => by omega)]; exact h6, h7⟩, h8.tr f.Y⟩
theorem fY.pop {p0 : Nat} {M0 : Mem} {e : Nat × Nat} {least : Int32} : ∀ (w fuel : Nat) (M : Mem) (top : Nat), fY p0 M0 e M → gI M 103 43 = nI w → gI M 103 40 = nI top → p0 ≤ top → top + w ≤ 1398 → w ≤ 940 → w < fuel → ∃ M', fX13_drops_l0 fuel M least = some M' ∧ fY p0 M0 e M' := by
  intro w
  induction w with
  | zero =>
    intro fuel M top h h43 h40 hp ht hw hf
    obtain ⟨m, rfl⟩ : ∃ m, fuel = m + 1 := ⟨fuel - 1, by omega⟩
    rw [fX13_drops_l0, pu_s, h43, if_neg (by decide)]
    exact ⟨M, rfl, h⟩
  | succ w ih =>
    intro fuel M top h h43 h40 hp ht hw hf
    obtain ⟨m, rfl⟩ : ∃ m, fuel = m + 1 := ⟨fuel - 1, by omega⟩
    have go : ∃ M', (pu (gI M 103 43) fun vq8 => pu (sI M 103 43 (vq8 - 1)) fun Mq9 => pu (gI Mq9 103 43) fun vq10 => ldI Mq9 131 950 vq10 fun vq11 => b1 (fX13_puts Mq9 vq11) fun Mq12 => fX13_drops_l0 m Mq12 least) = some M' ∧ fY p0 M0 e M' := by
      rw [pu_s, pu_s, pu_s, gI_ss, h43, nI_m1 (by omega), Nat.add_sub_cancel, ldI_nI (by omega) (by decide), puts_ok (top := top) (by rw [gI_sj (by decide)]; exact h40) (by omega), b1_s]
      obtain ⟨⟨h1, h2, h3, h4⟩, -, h8⟩ := h
      refine ih m _ (top + 1) ⟨⟨?_, ?_, h3, h4⟩, ⟨top + 1, w, gI_ss, ?_, by omega, by omega, by omega⟩, ?_⟩ ?_ gI_ss (by omega) (by omega) (by omega) (by omega)
      · rw [gI_sj (by decide), gI_sa (by decide), gI_sj (by decide)]; exact h1
      · rw [gI_sj (by decide), gI_sa (by decide), gI_sj (by decide)]; exact h2
      · rw [gI_sj (by decide), gI_sa (by decide), gI_ss]
      · exact ((h8.st (Or.inl ⟨rfl, by omega⟩)).st (Or.inr (Or.inr (Or.inr ⟨rfl, hp⟩)))).st (Or.inl ⟨rfl, by omega⟩)
      · rw [gI_sj (by decide), gI_sa (by decide), gI_ss]
    have open_t : ∀ x : Int32, ∃ b, fX13_isOpen x = some b := fun x => by
      unfold fX13_isOpen
      split
      · exact ⟨_, rfl⟩
      · exact ⟨_, rfl⟩
    have str_t : ∀ x : Int32, ∃ b, fX13_strength x = some b := fun x => by
      unfold fX13_strength
      (repeat' split) <;> exact ⟨_, rfl⟩
    obtain ⟨b9, hb⟩ := open_t (gI M 131 w)
    obtain ⟨s9, hs⟩ := str_t (gI M 131 w)
    rw [fX13_drops_l0, pu_s, h43, if_pos (by rw [show (0 : Int32) = nI 0 from rfl, lt_nI (by omega) (by omega)]; omega), pu_s, nI_m1 (by omega), Nat.add_sub_cancel, ldI_nI (by omega) (by decide), hb, b1_s]
    by_cases z : b9 = 0
    · rw [if_pos z, pu_s, nI_m1 (by omega), Nat.add_sub_cancel, ldI_nI (by omega) (by decide), hs, b1_s]
      by_cases y : s9 < least
      · rw [if_pos y]; exact ⟨M, rfl, h⟩
      · rw [if_neg y]
        rw [h43] at go
        exact go
    · rw [if_neg z]; exact ⟨M, rfl, h⟩
/-- the end of an expression that failed -/
theorem fY.end {p0 : Nat} {M0 : Mem} {e : Nat × Nat} {M : Mem} (h : fY p0 M0 e M) : ∃ M', fX13_expression_b360 M = some M' ∧ (gI M' 103 22 = nI e.1 ∧ gI M' 103 23 = nI e.2 ∧ 1 ≤ e.1 ∧ e.1 < 10) ∧ frY p0 M0 M' := by
  obtain ⟨top, w, h5, h6, h7, h8, h9⟩ := h.2.1
  obtain ⟨M1, p1, p2⟩ := fY.pop (least := 0) w FU M top h h6 h5 h7 h8 h9 (by show _ < 100000; omega)
  obtain ⟨⟨g1, g2, g3, g4⟩, ⟨top1, w1, g5, g6, g7, g8, g9⟩, g10⟩ := p2
  refine ⟨sI (sI M1 130 top1 0) 103 40 (nI (top1 + 1)), ?_, ⟨?_, ?_, g3, g4⟩, (g10.st (Or.inr (Or.inr (Or.inr ⟨rfl, g7⟩)))).st (Or.inl ⟨rfl, by omega⟩)⟩
  · unfold fX13_expression_b360 fX13_drops
    rw [p1, b1_s, puts_ok g5 (by omega), b1_s]
  · rw [gI_sj (by decide), gI_sa (by decide)]; exact g1
  · rw [gI_sj (by decide), gI_sa (by decide)]; exact g2
