/-! THE CLASS'S values of rules -/
def frS (M M' : Mem) : Prop := (∀ a j, a ≠ 48 → gI M' a j = gI M a j) ∧ M'.2 = M.2
theorem frS.rf {M : Mem} : frS M M := ⟨fun _ _ _ => rfl, rfl⟩
theorem frS.st {M M1 M2 : Mem} {i : Nat} {v : Int32} (e : M1 = sI M 48 i v) (h : frS M1 M2) : frS M M2 := by
  subst e
  exact ⟨fun a j x => (h.1 a j x).trans (gI_sa x), h.2.trans sI_2⟩
theorem op_sw {x a b : Int32} {β : Type} {k : Int32 → Option β} {k1 k2 k3 : Int32 → Option β} {e1 e2 : Option β} (h1 : -16 < x) (h2 : x < -6) (h7 : x ≠ -7) (z1 : e1 = k 1) (z2 : e2 = k 1) (y1 : ∀ u, k1 u = k u) (y2 : ∀ u, k2 u = k u) (y3 : ∀ u, k3 u = k u) :
    (if x = (-14) then pu (a * b) fun u => k u
     else if x = (-13) then pu (a - b) fun u => k u
     else if x = (-12) then pu (a + b) fun u => k u
     else if x = (-11) then (if a = b then k1 1 else k1 0)
     else if x = (-10) then (if a < b then k2 1 else k2 0)
     else if x = (-9) then (if a = 0 then k 0 else (if b = 0 then k 0 else e1))
     else if x = (-8) then (if a = 0 then (if b = 0 then k 0 else e2) else e2)
     else (if b = 0 then k3 0 else nz b <| k3 (a / b))) = k (opV x a b) := by
  subst z1
  subst z2
  rcases op_cases h1 h2 with h | h | h | h | h | h | h | h | h <;> subst h
  · exact absurd rfl h7
  all_goals
    unfold opV
    simp only [pu_s, y1, y2, y3]
    simp
  all_goals (repeat' split) <;> simp_all [nz]
theorem wfC_bound {x : Int32} {l : List Int32} {n : Nat} (h : wfC (x :: l) n) (hx : ¬ x < -6) : n < 40 := by
  unfold wfC at h
  rw [if_neg hx] at h
  exact h.2.1
theorem eval_l {v : Nat → Int32} {x0 x1 : Nat} (hk0 : kd x0 = 7) (hk1 : x1 = 46 ∨ x1 = 47) {L : List Int32} {s : Nat} : ∀ (l : List Int32) (fuel : Nat) (M : Mem) (n p : Nat), wfC l n → n ≤ 40 → l.length < fuel → p + l.length = s + L.length → s + L.length ≤ 700 → gI M x0 2 = nI (s + L.length) → (∀ i (h : i < l.length), gI M (rcT x0) (p + i) = l[i]) → (∀ x ∈ l, -7 < x → x < 0 → ((-1) - x).toNatClampNeg < 6 ∧ gI M x1 ((-1) - x).toNatClampNeg = v ((-1) - x).toNatClampNeg) →
    ∃ M', fX8_evaluate_l8 fuel M x0 x1 48 (nI n) (nI p) = some (evF v l (gI M 48) n, M') ∧ frS M M' := by
  have hr : rcT x0 ≠ 48 := by unfold rcT; split <;> decide
  have h048 : x0 ≠ 48 := fun q => by subst q; exact absurd hk0 (by decide)
  have hx1 : kd x1 = 20 ∧ ln x1 = 6 ∧ x1 ≠ 48 := by rcases hk1 with h | h <;> subst h <;> decide
  have hk48 : kd 48 = 20 := by decide
  have hl48 : ln 48 = 40 := by decide
  intro l
  induction l with
  | nil =>
    intro fuel M n p hw hn hf hp hs hto hc hv
    obtain ⟨m, rfl⟩ : ∃ m, fuel = m + 1 := ⟨fuel - 1, by simp at hf; omega⟩
    refine ⟨M, ?_, frS.rf⟩
    unfold wfC at hw
    subst hw
    simp at hp
    rw [fX8_evaluate_l8, ck_t hk0, ck_t hx1.1, ck_t hk48, pu_s, hto, if_neg (by rw [lt_nI (by omega) (by omega)]; omega), if_pos (by decide), hl48]
    rw [show (0 : Int32) = nI 0 from rfl, ldI_nI (by decide) (by decide)]
    rfl
  | cons x l ih =>
    intro fuel M n p hw hn hf hp hs hto hc hv
    obtain ⟨m, rfl⟩ : ∃ m, fuel = m + 1 := ⟨fuel - 1, by simp at hf; omega⟩
    have hf2 : l.length < m := by simp at hf; omega
    have hp2 : p + 1 + l.length = s + L.length := by simp at hp; omega
    have hv2 : ∀ y ∈ l, -7 < y → y < 0 → ((-1) - y).toNatClampNeg < 6 ∧ gI M x1 ((-1) - y).toNatClampNeg = v ((-1) - y).toNatClampNeg := fun y hy => hv y (List.mem_cons_of_mem _ hy)
    have hc2 : ∀ i (h : i < l.length), gI M (rcT x0) (p + 1 + i) = l[i] := fun i h => by
      have := hc (i + 1) (by simp; omega)
      rw [show p + 1 + i = p + (i + 1) by omega, this]; rfl
    have hc0 : gI M (rcT x0) p = x := hc 0 (by simp)
    -- behind a write to the stack
    have go : ∀ (i : Nat) (u : Int32) (n2 : Nat), wfC l n2 → n2 ≤ 40 → ∃ M', fX8_evaluate_b299 (fX8_evaluate_l8 m) (sI M 48 i u) x0 x1 48 (nI n2) (nI p) = some (evF v l (upd (gI M 48) i u) n2, M') ∧ frS M M' := by
      intro i u n2 hw2 hn2
      obtain ⟨M', h1, h2⟩ := ih m (sI M 48 i u) n2 (p + 1) hw2 hn2 hf2 hp2 hs (by rw [gI_sa h048]; exact hto) (fun j hj => by rw [gI_sa hr]; exact hc2 j hj) (fun y hy q1 q2 => by rw [gI_sa hx1.2.2]; exact hv2 y hy q1 q2)
      refine ⟨M', ?_, frS.st rfl h2⟩
      unfold fX8_evaluate_b299
      rw [ck_t hk0, ck_t hx1.1, ck_t hk48, pu_s, nI_1, h1, show gI (sI M 48 i u) 48 = upd (gI M 48) i u from by funext j; rw [gI_sI, upd_a]; simp]
    rw [fX8_evaluate_l8, ck_t hk0, ck_t hx1.1, ck_t hk48, pu_s, hto, if_pos (by rw [lt_nI (by omega) (by omega)]; simp at hp; omega), ldI_nI (by simp at hp; omega) (by decide), hc0]
    have hw0 := hw
    unfold wfC at hw
    unfold evF
    by_cases hx : x < -6
    · rw [if_pos hx] at hw
      rw [if_pos hx, if_pos hx]
      obtain ⟨hx2, hw⟩ := hw
      by_cases h7 : x = -7
      · rw [if_pos h7] at hw
        rw [if_pos h7, if_pos h7, if_neg (by rw [show (1 : Int32) = nI 1 from rfl, lt_nI (by omega) (by decide)]; omega), nI_m1 hw.1, hl48, ldI_nI (by omega) (by decide)]
        have key : ∀ u : Int32, ∃ M', fX8_evaluate_b97 (fX8_evaluate_l8 m) M x0 x1 48 (nI n) (nI p) u (nI (n - 1)) 48 = some (evF v l (upd (gI M 48) (n - 1) u) n, M') ∧ frS M M' := by
          intro u
          unfold fX8_evaluate_b97
          rw [ck_t hk0, ck_t hx1.1, ck_t hk48, ck_t hk48, hl48, stI_nI (by omega) (by decide)]
          exact go _ _ _ hw.2 hn
        by_cases h0 : gI M 48 (n - 1) = 0
        · rw [if_pos h0, if_pos h0]; exact key 1
        · rw [if_neg h0, if_neg h0]; exact key 0
      · rw [if_neg h7] at hw
        rw [if_neg h7, if_neg h7, if_neg (by rw [show (2 : Int32) = nI 2 from rfl, lt_nI (by omega) (by decide)]; omega), nI_n1 (by omega), pu_s, nI_m1 (by omega), hl48, ldI_nI (by omega) (by decide), ldI_nI (by omega) (by decide)]
        have k0 : ∀ u, fX8_evaluate_b292 (fX8_evaluate_l8 m) M x0 x1 48 (nI (n - 1)) (nI p) u = fX8_evaluate_b299 (fX8_evaluate_l8 m) (sI M 48 (n - 1 - 1) u) x0 x1 48 (nI (n - 1)) (nI p) := fun u => by
          unfold fX8_evaluate_b292
          rw [ck_t hk0, ck_t hx1.1, ck_t hk48, hl48, nI_m1 (by omega), stI_nI (by omega) (by decide)]
        have e1 : fX8_evaluate_b207 (fX8_evaluate_l8 m) M x0 x1 48 (nI (n - 1)) (nI p) 1 = fX8_evaluate_b292 (fX8_evaluate_l8 m) M x0 x1 48 (nI (n - 1)) (nI p) 1 := by
          unfold fX8_evaluate_b207
          rw [ck_t hk0, ck_t hx1.1, ck_t hk48]
        have e0 : fX8_evaluate_b206 (fX8_evaluate_l8 m) M x0 x1 48 (nI (n - 1)) (nI p) = fX8_evaluate_b292 (fX8_evaluate_l8 m) M x0 x1 48 (nI (n - 1)) (nI p) 0 := by
          unfold fX8_evaluate_b206 fX8_evaluate_b207
          rw [ck_t hk0, ck_t hx1.1, ck_t hk48, ck_t hk0, ck_t hx1.1, ck_t hk48]
        have e2 : ∀ u, fX8_evaluate_b187 (fX8_evaluate_l8 m) M x0 x1 48 (nI (n - 1)) (nI p) u = fX8_evaluate_b292 (fX8_evaluate_l8 m) M x0 x1 48 (nI (n - 1)) (nI p) u := fun u => by
          unfold fX8_evaluate_b187
          rw [ck_t hk0, ck_t hx1.1, ck_t hk48]
        have e3 : fX8_evaluate_b182 (fX8_evaluate_l8 m) M x0 x1 48 (nI (n - 1)) (nI p) = fX8_evaluate_b292 (fX8_evaluate_l8 m) M x0 x1 48 (nI (n - 1)) (nI p) 1 := by
          unfold fX8_evaluate_b182
          rw [ck_t hk0, ck_t hx1.1, ck_t hk48, e2]
        have e4 : ∀ u, fX8_evaluate_b241 (fX8_evaluate_l8 m) M x0 x1 48 (nI (n - 1)) (nI p) u = fX8_evaluate_b292 (fX8_evaluate_l8 m) M x0 x1 48 (nI (n - 1)) (nI p) u := fun u => by
          unfold fX8_evaluate_b241
          rw [ck_t hk0, ck_t hx1.1, ck_t hk48]
        have e5 : ∀ u, fX8_evaluate_b224 (fX8_evaluate_l8 m) M x0 x1 48 (nI (n - 1)) (nI p) u = fX8_evaluate_b292 (fX8_evaluate_l8 m) M x0 x1 48 (nI (n - 1)) (nI p) u := fun u => by
          unfold fX8_evaluate_b224
          rw [ck_t hk0, ck_t hx1.1, ck_t hk48]
        have e6 : ∀ u, fX8_evaluate_b290 (fX8_evaluate_l8 m) M x0 x1 48 (nI (n - 1)) (nI p) u = fX8_evaluate_b292 (fX8_evaluate_l8 m) M x0 x1 48 (nI (n - 1)) (nI p) u := fun u => by
          unfold fX8_evaluate_b290
          rw [ck_t hk0, ck_t hx1.1, ck_t hk48]
        rw [e0, e2 0]
        rw [op_sw (k := fX8_evaluate_b292 (fX8_evaluate_l8 m) M x0 x1 48 (nI (n - 1)) (nI p)) hx2 hx h7 e1 e3 e4 e5 e6, k0]
        exact go _ _ _ hw.2 (by omega)
    · rw [if_neg hx] at hw
      rw [if_neg hx, if_neg hx, hl48, show Int32.ofNat 40 = nI 40 from rfl, if_pos (by rw [lt_nI (by omega) (by decide)]; exact hw.2.1)]
      have key : ∀ u : Int32, ∃ M', fX8_evaluate_b59 (fX8_evaluate_l8 m) M x0 x1 48 (nI n) (nI p) u (nI n) 48 = some (evF v l (upd (gI M 48) n u) (n + 1), M') ∧ frS M M' := by
        intro u
        unfold fX8_evaluate_b59
        rw [ck_t hk0, ck_t hx1.1, ck_t hk48, ck_t hk48, hl48, stI_nI (by omega) (by decide), pu_s, nI_1]
        exact go _ _ _ hw.2.2 (by omega)
      unfold itV
      by_cases h0 : x < 0
      · have hx7 : -7 < x := by
          have a1 := Int32.not_lt.mp hx
          have a2 := Int32.le_iff_toInt_le.mp a1
          rw [show ((-6 : Int32)).toInt = -6 from by decide] at a2
          rw [Int32.lt_iff_toInt_lt, show ((-7 : Int32)).toInt = -7 from by decide]
          omega
        obtain ⟨hi6, hg⟩ := hv x List.mem_cons_self hx7 h0
        rw [if_pos h0, if_pos h0, hx1.2.1]
        have hld : ∀ {β : Type} (kf : Int32 → Option β), ldI M x1 6 ((-1) - x) kf = kf (v ((-1) - x).toNatClampNeg) := fun kf => by
          unfold ldI
          rw [if_neg, hg]
          rintro (q | q)
          · rw [Int32.lt_iff_toInt_lt] at q h0 hx7
            rw [show ((-7 : Int32)).toInt = -7 from by decide] at hx7
            rw [show ((0 : Int32)).toInt = 0 from by decide] at h0 q
            rw [Int32.toInt_sub, show ((-1 : Int32)).toInt = -1 from by decide, Int.bmod_eq_of_le (by omega) (by omega)] at q
            omega
          · omega
        rw [hld]
        exact key _
      · rw [if_neg h0, if_neg h0]
        exact key _
theorem eval_ok {v : Nat → Int32} {x0 x1 : Nat} (hk0 : kd x0 = 7) (hk1 : x1 = 46 ∨ x1 = 47) {l : List Int32} {s : Nat} {M : Mem} (hw : wfC l 0) (hs : s + l.length ≤ 700) (hfr : gI M x0 1 = nI s) (hto : gI M x0 2 = nI (s + l.length)) (hc : ∀ i (h : i < l.length), gI M (rcT x0) (s + i) = l[i]) (hv : ∀ x ∈ l, -7 < x → x < 0 → ((-1) - x).toNatClampNeg < 6 ∧ gI M x1 ((-1) - x).toNatClampNeg = v ((-1) - x).toNatClampNeg) :
    ∃ M', fX8_evaluate M x0 x1 48 = some (evL l v, M') ∧ frS M M' := by
  have hx1 : kd x1 = 20 := by rcases hk1 with h | h <;> subst h <;> decide
  obtain ⟨M', h1, h2⟩ := eval_l (v := v) hk0 hk1 (L := l) (s := s) l FU M 0 s hw (by decide) (by show l.length < 100000; omega) rfl hs hto hc hv
  refine ⟨M', ?_, h2⟩
  unfold fX8_evaluate evL
  rw [ck_t hk0, ck_t hx1, ck_t (by decide), pu_s, hfr, show fX8_evaluate_l8 FU M x0 x1 48 0 (nI s) = _ from h1, evF_congr v l (gI M 48) (fun _ => 0) 0 hw (fun j hj => absurd hj (by omega))]
