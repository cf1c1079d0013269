/-! THE REFERENCE'S values of rules -/
def opM (x : Int32) : Int32 := if x = -7 then 3 else if x = -8 then 5 else if x = -9 then 4 else (-4) - x
def encM (f : Nat → Int32) (km : Nat → Nat) : List Int32 → Nat → Prop
  | [], p => p < 1400 ∧ f p = 0
  | x :: l, p => p < 1400 ∧ if x < -6 then f p = opM x ∧ encM f km l (p + 1) else p + 1 < 1400 ∧ (if x < 0 then f p = 2 ∧ f (p + 1) = nI (km ((-1) - x).toNatClampNeg) else f p = 1 ∧ f (p + 1) = x) ∧ encM f km l (p + 2)
theorem encM_congr {f g : Nat → Int32} {km : Nat → Nat} : ∀ (l : List Int32) (p : Nat), encM f km l p → (∀ i, f i = g i) → encM g km l p := by
  intro l p h hi
  have : f = g := funext hi
  rwa [← this]
theorem op_cases {x : Int32} (h1 : -16 < x) (h2 : x < -6) : x = -7 ∨ x = -8 ∨ x = -9 ∨ x = -10 ∨ x = -11 ∨ x = -12 ∨ x = -13 ∨ x = -14 ∨ x = -15 := by
  have a1 := Int32.lt_iff_toInt_lt.mp h1
  have a2 := Int32.lt_iff_toInt_lt.mp h2
  rw [show ((-16 : Int32)).toInt = -16 from by decide] at a1
  rw [show ((-6 : Int32)).toInt = -6 from by decide] at a2
  have : x.toInt = -7 ∨ x.toInt = -8 ∨ x.toInt = -9 ∨ x.toInt = -10 ∨ x.toInt = -11 ∨ x.toInt = -12 ∨ x.toInt = -13 ∨ x.toInt = -14 ∨ x.toInt = -15 := by omega
  rcases this with h | h | h | h | h | h | h | h | h
  · exact Or.inl (Int32.toInt_inj.mp h)
  · exact Or.inr (Or.inl (Int32.toInt_inj.mp h))
  · exact Or.inr (Or.inr (Or.inl (Int32.toInt_inj.mp h)))
  · exact Or.inr (Or.inr (Or.inr (Or.inl (Int32.toInt_inj.mp h))))
  · exact Or.inr (Or.inr (Or.inr (Or.inr (Or.inl (Int32.toInt_inj.mp h)))))
  · exact Or.inr (Or.inr (Or.inr (Or.inr (Or.inr (Or.inl (Int32.toInt_inj.mp h))))))
  · exact Or.inr (Or.inr (Or.inr (Or.inr (Or.inr (Or.inr (Or.inl (Int32.toInt_inj.mp h)))))))
  · exact Or.inr (Or.inr (Or.inr (Or.inr (Or.inr (Or.inr (Or.inr (Or.inl (Int32.toInt_inj.mp h))))))))
  · exact Or.inr (Or.inr (Or.inr (Or.inr (Or.inr (Or.inr (Or.inr (Or.inr (Int32.toInt_inj.mp h))))))))
theorem works_eq {x a b : Int32} (h1 : -16 < x) (h2 : x < -6) (h7 : x ≠ -7) : fX13_works (opM x) a b = some (opV x a b) := by
  have : ∀ c : Int32, nz b (some c) = if b = 0 then none else some c := fun c => rfl
  rcases op_cases h1 h2 with h | h | h | h | h | h | h | h | h <;> subst h
  · exact absurd rfl h7
  all_goals
    unfold fX13_works opV
    simp only [show opM (-8) = 5 from by decide, show opM (-9) = 4 from by decide, show opM (-10) = 6 from by decide, show opM (-11) = 7 from by decide, show opM (-12) = 8 from by decide, show opM (-13) = 9 from by decide, show opM (-14) = 10 from by decide, show opM (-15) = 11 from by decide]
    simp
  all_goals (repeat' split) <;> simp_all [nz]
theorem opM_ne {x : Int32} (h1 : -16 < x) (h2 : x < -6) (h7 : x ≠ -7) : opM x ≠ 0 ∧ opM x ≠ 1 ∧ opM x ≠ 2 ∧ opM x ≠ 3 := by
  rcases op_cases h1 h2 with h | h | h | h | h | h | h | h | h <;> subst h
  · exact absurd rfl h7
  all_goals decide
/-- what reckoning leaves as it was -/
def frP (M M' : Mem) : Prop := (∀ a j, a ≠ 136 → gI M' a j = gI M a j) ∧ M'.2 = M.2
theorem frP.rf {M : Mem} : frP M M := ⟨fun _ _ _ => rfl, rfl⟩
theorem frP.st {M M1 M2 : Mem} {i : Nat} {v : Int32} (e : M1 = sI M 136 i v) (h : frP M1 M2) : frP M M2 := by
  subst e
  exact ⟨fun a j x => (h.1 a j x).trans (gI_sa x), h.2.trans sI_2⟩
theorem nI_p1 (n : Nat) : nI n + 1 = nI (n + 1) := nI_1 n
theorem nI_m1 {n : Nat} (h : 1 ≤ n) : nI n - 1 = nI (n - 1) := pk_sub (a := n) (b := 1) h
theorem nI_n1 {n : Nat} (h : 1 ≤ n) : nI n + (-1) = nI (n - 1) := by
  obtain ⟨m, rfl⟩ : ∃ m, n = m + 1 := ⟨n - 1, by omega⟩
  rw [pk_m1]; rfl
theorem reckons_l {v : Nat → Int32} {km : Nat → Nat} (hkm : ∀ i, km i < 8) : ∀ (l : List Int32) (fuel : Nat) (M : Mem) (n p : Nat), wfC l n → n ≤ 40 → l.length < fuel → encM (gI M 115) km l p → (∀ x ∈ l, -7 < x → x < 0 → gI M 135 (km ((-1) - x).toNatClampNeg) = v ((-1) - x).toNatClampNeg) →
    ∃ M', fX13_reckons_l4 fuel M (nI n) (nI p) = some (evF v l (gI M 136) n, M') ∧ frP M M' := by
  intro l
  induction l with
  | nil =>
    intro fuel M n p hw hn hf he hv
    obtain ⟨m, rfl⟩ : ∃ m, fuel = m + 1 := ⟨fuel - 1, by simp at hf; omega⟩
    refine ⟨M, ?_, frP.rf⟩
    rw [fX13_reckons_l4, ldI_nI he.1 (by decide), if_pos he.2]
    rw [show (0 : Int32) = nI 0 from rfl, ldI_nI (by decide) (by decide)]
    rfl
  | cons x l ih =>
    intro fuel M n p hw hn hf he hv
    obtain ⟨m, rfl⟩ : ∃ m, fuel = m + 1 := ⟨fuel - 1, by simp at hf; omega⟩
    have hf2 : l.length < m := by simp at hf; omega
    have hv2 : ∀ y ∈ l, -7 < y → y < 0 → gI M 135 (km ((-1) - y).toNatClampNeg) = v ((-1) - y).toNatClampNeg := fun y hy => hv y (List.mem_cons_of_mem _ hy)
    rw [fX13_reckons_l4]
    unfold wfC at hw
    unfold encM at he
    unfold evF
    obtain ⟨hp, he⟩ := he
    rw [ldI_nI hp (by decide)]
    by_cases hx : x < -6
    · rw [if_pos hx] at hw he
      rw [if_pos hx]
      obtain ⟨hx2, hw⟩ := hw
      obtain ⟨he1, he2⟩ := he
      by_cases h7 : x = -7
      · rw [if_pos h7] at hw
        rw [if_pos h7]
        subst h7
        have hv9 : gI M 115 p = 3 := he1
        rw [hv9, if_neg (by decide), ldI_nI hp (by decide), hv9, pu_s, if_neg (by decide), if_neg (by decide), if_pos rfl, nI_m1 hw.1, ldI_nI (by omega) (by decide), nI_1]
        have key : ∀ u : Int32, ∃ M', fX13_reckons_b106 (fX13_reckons_l4 m) M (nI n) (nI (p + 1)) u (nI (n - 1)) = some (evF v l (upd (gI M 136) (n - 1) u) n, M') ∧ frP M M' := by
          intro u
          unfold fX13_reckons_b106 fX13_reckons_b140
          rw [stI_nI (by omega) (by decide)]
          obtain ⟨M', h1, h2⟩ := ih m (sI M 136 (n - 1) u) n (p + 1) hw.2 hn hf2 (encM_congr _ _ he2 (fun i => by rw [gI_sa (by decide)])) (fun y hy h1 h2 => by rw [gI_sa (by decide)]; exact hv2 y hy h1 h2)
          refine ⟨M', ?_, frP.st rfl h2⟩
          rw [h1, show gI (sI M 136 (n - 1) u) 136 = upd (gI M 136) (n - 1) u from by funext j; rw [gI_sI, upd_a]; simp]
        by_cases h0 : gI M 136 (n - 1) = 0
        · rw [if_pos h0, if_pos h0]; exact key 1
        · rw [if_neg h0, if_neg h0]; exact key 0
      · rw [if_neg h7] at hw
        rw [if_neg h7]
        obtain ⟨o0, o1, o2, o3⟩ := opM_ne hx2 hx h7
        rw [he1, if_neg o0, ldI_nI hp (by decide), he1, pu_s, if_neg o1, if_neg o2, if_neg o3, nI_n1 (by omega), pu_s, nI_m1 (by omega), ldI_nI (by omega) (by decide), ldI_nI (by omega) (by decide), works_eq hx2 hx h7, b1_s, stI_nI (by omega) (by decide), nI_1]
        unfold fX13_reckons_b140
        obtain ⟨M', h1, h2⟩ := ih m (sI M 136 (n - 1 - 1) (opV x (gI M 136 (n - 1 - 1)) (gI M 136 (n - 1)))) (n - 1) (p + 1) hw.2 (by omega) hf2 (encM_congr _ _ he2 (fun i => by rw [gI_sa (by decide)])) (fun y hy h1 h2 => by rw [gI_sa (by decide)]; exact hv2 y hy h1 h2)
        refine ⟨M', ?_, frP.st rfl h2⟩
        rw [h1, show n - 2 = n - 1 - 1 from rfl]
        congr 3
    · rw [if_neg hx] at hw he
      rw [if_neg hx]
      obtain ⟨he1, he2, he3⟩ := he
      have key : ∀ u : Int32, ∃ M', fX13_reckons_b67 (fX13_reckons_l4 m) M (nI n) (nI (p + 1)) u (nI n) = some (evF v l (upd (gI M 136) n u) (n + 1), M') ∧ frP M M' := by
        intro u
        unfold fX13_reckons_b67 fX13_reckons_b140
        rw [stI_nI (by omega) (by decide), pu_s, pu_s, nI_1, nI_1]
        obtain ⟨M', h1, h2⟩ := ih m (sI M 136 n u) (n + 1) (p + 2) hw.2.2 (by omega) hf2 (encM_congr _ _ he3 (fun i => by rw [gI_sa (by decide)])) (fun y hy h1 h2 => by rw [gI_sa (by decide)]; exact hv2 y hy h1 h2)
        refine ⟨M', ?_, frP.st rfl h2⟩
        rw [h1, show gI (sI M 136 n u) 136 = upd (gI M 136) n u from by funext j; rw [gI_sI, upd_a]; simp]
      unfold fX13_reckons_b36
      unfold itV
      by_cases h0 : x < 0
      · rw [if_pos h0] at he2
        rw [if_pos h0]
        have hx7 : -7 < x := by
          have a1 := Int32.not_lt.mp hx
          have a2 := Int32.le_iff_toInt_le.mp a1
          rw [show ((-6 : Int32)).toInt = -6 from by decide] at a2
          rw [Int32.lt_iff_toInt_lt, show ((-7 : Int32)).toInt = -7 from by decide]
          omega
        rw [he2.1, if_neg (by decide), ldI_nI hp (by decide), he2.1, pu_s, if_neg (by decide), if_pos rfl, if_neg (by decide), nI_1, ldI_nI he1 (by decide), he2.2, ldI_nI (hkm _) (by decide), hv x List.mem_cons_self hx7 h0]
        exact key _
      · rw [if_neg h0] at he2
        rw [if_neg h0]
        rw [he2.1, if_neg (by decide), ldI_nI hp (by decide), he2.1, pu_s, if_pos rfl, if_pos rfl, nI_1, ldI_nI he1 (by decide), he2.2]
        exact key _
theorem reckons_ok {v : Nat → Int32} {km : Nat → Nat} (hkm : ∀ i, km i < 8) {l : List Int32} {M : Mem} {p : Nat} (hw : wfC l 0) (hl : l.length < 2000) (he : encM (gI M 115) km l p) (hv : ∀ x ∈ l, -7 < x → x < 0 → gI M 135 (km ((-1) - x).toNatClampNeg) = v ((-1) - x).toNatClampNeg) :
    ∃ M', fX13_reckons M (nI p) = some (evL l v, M') ∧ frP M M' := by
  obtain ⟨M', h1, h2⟩ := reckons_l hkm l FU M 0 p hw (by decide) (Nat.lt_trans hl (by decide)) he hv
  refine ⟨M', ?_, h2⟩
  unfold fX13_reckons evL
  rw [show fX13_reckons_l4 FU M 0 (nI p) = _ from h1, evF_congr v l (gI M 136) (fun _ => 0) 0 hw (fun j hj => absurd hj (by omega))]
