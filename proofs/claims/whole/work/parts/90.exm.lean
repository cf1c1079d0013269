/-! TEXTS: a whole expression of the reference -/
def frX (p0 : Nat) (M M' : Mem) : Prop := (∀ a j, (a = 103 → j ≠ 22 ∧ j ≠ 23 ∧ (j < 26 ∨ 31 < j) ∧ (j < 40 ∨ 44 < j)) → a ≠ 131 → a ≠ 132 → (a = 130 → j < p0) → gI M' a j = gI M a j) ∧ M'.2.2 = M.2.2 ∧ (gI M' 103 22 = 0 → gI M 103 22 = 0 ∧ gI M' 103 23 = gI M 103 23)
theorem kv_S : kvOk (fun w => wIS (1000 + w)) kmS 0 5 := by
  intro w hw
  exact (by decide : ∀ w, w < 23 → (wIS (1000 + w) = -1 → kwI w < nI 0 ∨ nI 5 < kwI w) ∧ (wIS (1000 + w) ≠ -1 → ¬ kwI w < nI 0 ∧ ¬ nI 5 < kwI w ∧ ((-1 : Int32) - wIS (1000 + w) < 0) ∧ ¬ ((-1 : Int32) - wIS (1000 + w) < -6) ∧ kwI w = nI (kmS ((-1) - ((-1 : Int32) - wIS (1000 + w))).toNatClampNeg))) w (by omega)
theorem kv_L : kvOk (fun w => wIL (1000 + w)) kmL 3 7 := by
  intro w hw
  exact (by decide : ∀ w, w < 23 → (wIL (1000 + w) = -1 → kwI w < nI 3 ∨ nI 7 < kwI w) ∧ (wIL (1000 + w) ≠ -1 → ¬ kwI w < nI 3 ∧ ¬ nI 7 < kwI w ∧ ((-1 : Int32) - wIL (1000 + w) < 0) ∧ ¬ ((-1 : Int32) - wIL (1000 + w) < -6) ∧ kwI w = nI (kmL ((-1) - ((-1 : Int32) - wIL (1000 + w))).toNatClampNeg))) w (by omega)
theorem exprM {c : Nat → Nat} {L : Nat} {vf : Nat → Int32} {km : Nat → Nat} {p0 lo hi q : Nat} {M : Mem} (hk : kvOk vf km lo hi) (hT : tpM c L M) (ht : tkM c L q M) (hq : q ≤ L) (hg : gI M 103 22 = 0) (h40 : gI M 103 40 = nI p0) (hp : p0 + 8 ≤ 2 * q) : match rexp c L vf 8 0 q with
    | .error e => ∃ M', fX13_expression M (nI lo) (nI hi) = some M' ∧ (gI M' 103 22 = nI e.1 ∧ gI M' 103 23 = nI e.2 ∧ 1 ≤ e.1 ∧ e.1 < 10) ∧ frX p0 M M'
    | .ok v => ∃ M' top, fX13_expression M (nI lo) (nI hi) = some M' ∧ (tpM c L M' ∧ tkM c L v.2 M' ∧ v.2 ≤ L) ∧ gI M' 103 22 = 0 ∧ gI M' 103 40 = nI (top + 1) ∧ p0 ≤ top ∧ top + 8 ≤ 2 * v.2 ∧ encP (gI M' 130) km v.1 p0 top ∧ gI M' 130 top = 0 ∧ frX p0 M M' := by
  have hL := hT.1
  let M0 := sI (sI M 103 41 (nI lo)) 103 42 (nI hi)
  have hlo : gI M0 103 41 = nI lo := by rw [gI_sj (by decide), gI_ss]
  have hhi : gI M0 103 42 = nI hi := gI_ss
  let M6 := sI (sI (sI (sI M0 103 43 0) 103 44 0) 103 44 1) 132 1 0
  have toX : ∀ M', frY p0 M0 M' → frX p0 M M' := fun M' f => ⟨fun a j x y z u => by
    rw [f.1 a j (fun e => by have := x e; omega) y z u]
    show gI (sI (sI M 103 41 (nI lo)) 103 42 (nI hi)) a j = _
    rw [gI_sI, if_neg (fun w => by have := x w.1; omega), gI_sI, if_neg (fun w => by have := x w.1; omega)], f.2.1, fun w => by
    have := f.2.2 w
    rw [gI_sj (by decide), gI_sj (by decide), gI_sj (by decide), gI_sj (by decide)] at this
    exact this⟩
  have g6 : ∀ j, (j < 41 ∨ 44 < j) → gI M6 103 j = gI M 103 j := fun j hj => by
    rw [gI_sa (by decide), gI_sj (by omega), gI_sj (by omega), gI_sj (by omega), gI_sj (by omega), gI_sj (by omega)]
  have a6 : ∀ a j, a ≠ 103 → a ≠ 132 → gI M6 a j = gI M a j := fun a j h1 h2 => by
    rw [gI_sa h2, gI_sa h1, gI_sa h1, gI_sa h1, gI_sa h1, gI_sa h1]
  have m6 : mX c L km p0 M0 0 0 [] [] 1 (fun _ => false) q M6 := by
    refine ⟨⟨hT.mv (g6 25 (by omega)) (fun j => a6 116 j (by decide) (by decide)), ht.mv (fun j j1 j2 => g6 j (by omega)) rfl, hq⟩, by rw [g6 22 (by omega)]; exact hg, ⟨p0, by rw [g6 40 (by omega)]; exact h40, rfl, by rw [List.length_nil]; omega⟩, ⟨?_, by rw [List.length_nil]; omega, True.intro, fun x hx => absurd hx List.not_mem_nil⟩, ⟨?_, by decide, by decide⟩, fun i i1 i2 => ?_, ((((frY.rf.st (Or.inl ⟨rfl, by omega⟩)).st (Or.inl ⟨rfl, by omega⟩)).st (Or.inl ⟨rfl, by omega⟩)).st (Or.inr (Or.inr (Or.inl rfl))))⟩
    · rw [gI_sa (by decide), gI_sj (by decide), gI_sj (by decide), gI_ss]; rfl
    · rw [gI_sa (by decide), gI_ss]; rfl
    · have : i = 1 := by omega
      rw [this, gI_ss]; rfl
  have key : fX13_expression M (nI lo) (nI hi) = (b1 (fX13_operand M6 1) fun Mq7 => fX13_expression_l39 FU Mq7 1) := by
    unfold fX13_expression
    rw [good_1 hg, b1_s, if_neg (by decide), pu_s, pu_s, pu_s, pu_s]
    have hd : fX13_deeper (sI (sI M0 103 43 0) 103 44 0) = some M6 := by
      unfold fX13_deeper
      rw [pu_s, gI_ss, if_pos (by decide), pu_s, pu_s, pu_s, gI_ss, show (0 : Int32) + 1 = nI 1 from rfl, stI_nI (by decide) (by decide)]
      rfl
    rw [show fX13_deeper (sI (sI (sI (sI M 103 41 (nI lo)) 103 42 (nI hi)) 103 43 0) 103 44 0) = some M6 from hd, b1_s]
  have hy := rexp_y (c := c) (vf := vf) hL hq (te := fun _ => false) rfl
  rw [key]
  -- what the yard says, the reference does
  have run : ∀ (n : Nat) (res : Except (Nat × Nat) YS), yrd c L vf n (some (true, 6), ([], [], 1, (fun _ => false), q)) = some res → ∃ M', (b1 (fX13_operand M6 1) fun Mq7 => fX13_expression_l39 FU Mq7 1) = some M' ∧ finY c L km p0 M0 res M' := by
    intro n res h
    obtain ⟨M7, p1, p2⟩ := opr hk hlo hhi (nt := true) (m := 6) (fun _ => rfl) (Nat.le_refl _) rfl h m6
    rw [show fX13_operand M6 1 = some M7 from p1, b1_s]
    rcases p2 with ⟨e, z1, z2⟩ | ⟨n', out', st', d', te', q', z1, z2, z3, z4, z5⟩
    · rw [z1]
      exact z2.l39 99999 1
    · exact mainY hk hlo hhi 1000 n' out' st' d' te' q' M7 res FU (by omega) z3 z4 z5 (by show _ < 100000; omega)
  cases hv : rexp c L vf 8 0 q with
  | error e =>
    rw [hv] at hy
    obtain ⟨k, hk2⟩ := hy
    obtain ⟨M', p1, p2, p3⟩ := run _ _ (hk2 0)
    exact ⟨M', p1, p2, toX M' p3⟩
  | ok v =>
    obtain ⟨l, q2⟩ := v
    rw [hv] at hy
    obtain ⟨h1, h2, out, st, te', k, hk2, h3⟩ := hy
    obtain ⟨M', p1, p2, p3, ⟨top, t1, t2, t3, t4⟩, p5⟩ := run _ _ (hk2 0)
    rw [show (drp 0 (out, st, 1, te', q2).1 (out, st, 1, te', q2).2.1) = (l, []) from h3] at t2
    exact ⟨M', top, p1, p2, p3, t1, encP_le _ _ _ t2, t4, t2, t3, toX M' p5⟩
