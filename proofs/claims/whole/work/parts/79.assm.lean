/-! QUESTIONS: the assault. The reference -/
/-- the free gates where those taken are t -/
def fre (G t : Nat) : Nat := t ^^^ (2 ^ G - 1)
theorem fre_1 : ∀ G, G < 8 → ∀ t, t < 128 → t < 2 ^ G → fre G t < 2 ^ G := by decide +kernel
theorem fre_2 : ∀ G, G < 8 → ∀ t, t < 128 → ∀ g, g < 7 → g < G → (fre G t).testBit g = !t.testBit g := by decide +kernel
theorem fre_3 : ∀ G, G < 8 → ∀ t, t < 128 → ∀ g, g < 7 → t.testBit g = false → fre G (t ||| 2 ^ g) = fre G t ^^^ 2 ^ g := by decide +kernel
theorem fre_4 : ∀ G, G < 8 → ∀ t, t < 128 → ∀ g, g < 7 → t < 2 ^ G → g < G → t ||| 2 ^ g < 2 ^ G := by decide +kernel
theorem fre_f (G : Nat) (hG : G < 8) (t : Nat) (h1 : t < 128) (h2 : t < 2 ^ G) : fre G t < 2 ^ G ∧ ∀ g, g < 7 → g < G → ((fre G t).testBit g = !t.testBit g) ∧ (t.testBit g = false → fre G (t ||| 2 ^ g) = fre G t ^^^ 2 ^ g ∧ t ||| 2 ^ g < 2 ^ G) :=
  ⟨fre_1 G hG t h1 h2, fun g g1 g2 => ⟨fre_2 G hG t h1 g g1 g2, fun h => ⟨fre_3 G hG t h1 g g1 h, fre_4 G hG t h1 g g1 h2 g2⟩⟩⟩
theorem fre_a : ∀ G, G < 8 → fre G 0 = 2 ^ G - 1 := by decide +kernel
def frMo (M M' : Mem) : Prop := (∀ a j, a ≠ 137 → gI M' a j = gI M a j) ∧ M'.2 = M.2
theorem frMo.RO {M M' : Mem} (h : frMo M M') : RO M M' := ⟨fun a j x => h.1 a j (fun e => x (by unfold scr; omega)), by rw [h.2]⟩
/-- the table so far: champions from c on -/
def moS (A : LA) (r : Nat → Int32) (c : Nat) (M : Mem) : Prop := ∀ k, c ≤ k → k < aN A 3 → ∀ t, t < 2 ^ aN A 4 → gI M 137 (128 * k + t) = nI (mxV (winR A r) (aN A 4) (aN A 3 - k) k (fre (aN A 4) t))
theorem most_ok {A : LA} {M : Mem} {r : Nat → Int32} {c k t : Nat} (hA : okA A) (hL : LandM A M) (h : moS A r c M) (hc : c ≤ k) (hk : k ≤ aN A 3) (ht : t < 2 ^ aN A 4) : fX13_mostOf M (nI k) (nI t) = some (nI (mxV (winR A r) (aN A 4) (aN A 3 - k) k (fre (aN A 4) t))) := by
  have hC := hA.2.2.2.1
  have h128 := G_128 hA
  unfold fX13_mostOf
  rw [pu_s, hL.2.2.2.1]
  by_cases q : k = aN A 3
  · rw [if_pos (by rw [q]), q, Nat.sub_self]
    rfl
  · rw [if_neg (by rw [eq_nI (by omega) (by omega)]; exact q), show (128 : Int32) = nI 128 from rfl, pk_mul, nI_add, ldI_nI (by omega) (by decide), h k hc (by omega) t ht]
theorem moS.st {A : LA} {M : Mem} {r : Nat → Int32} {c i : Nat} {v : Int32} (h : moS A r c M) (hi : i < 128 * c) : moS A r c (sI M 137 i v) := fun k hk hk2 t ht => by
  rw [gI_sj (by omega)]
  exact h k hk hk2 t ht
theorem asm69 {A : LA} {M0 : Mem} {r : Nat → Int32} {Y Z c t : Nat} {x1 : Int32} (hA : okA A) (hL : LandM A M0) (hr : rB M0 0 = r) (hR : okR A Y Z r) (hc : c < aN A 3) (ht : t < 2 ^ aN A 4) (h : moS A r (c + 1) M0) (a40 : Mem → Int32 → Int32 → Option (Int32 × Mem)) (a46 : Mem → Int32 → Int32 → Int32 → Option (Int32 × Mem)) : ∀ (d g fuel : Nat), g + d = aN A 4 → d < fuel → fX13_assault_l69 a40 a46 fuel M0 x1 (nI c) (nI t) (nI (mxG (winR A r) (mxV (winR A r) (aN A 4) (aN A 3 - (c + 1)) (c + 1)) c (fre (aN A 4) t) g)) (nI g) = a46 (sI M0 137 (128 * c + t) (nI (mxV (winR A r) (aN A 4) (aN A 3 - c) c (fre (aN A 4) t)))) x1 (nI c) (nI (t + 1)) := by
  have hC := hA.2.2.2.1
  have hG := hA.2.2.2.2.1
  have h128 := G_128 hA
  obtain ⟨ff1, ff2⟩ := fre_f (aN A 4) (by omega) t (by omega) ht
  have hp : ∀ s, mxV (winR A r) (aN A 4) (aN A 3 - (c + 1)) (c + 1) s ≤ 7 := fun s => Nat.le_trans (mxV_le _ _ s) (by omega)
  intro d
  induction d with
  | zero =>
    intro g fuel hg hf
    obtain ⟨m, rfl⟩ : ∃ m, fuel = m + 1 := ⟨fuel - 1, by omega⟩
    have e : g = aN A 4 := by omega
    subst e
    rw [fX13_assault_l69, pu_s, hL.2.2.2.2.1, if_neg (by rw [lt_nI (by omega) (by omega)]; omega), show (128 : Int32) = nI 128 from rfl, pk_mul, nI_add, stI_nI (by omega) (by decide), pu_s, nI_1, show aN A 3 - c = aN A 3 - (c + 1) + 1 by omega]
    rfl
  | succ d ih =>
    intro g fuel hg hf
    obtain ⟨m, rfl⟩ : ∃ m, fuel = m + 1 := ⟨fuel - 1, by omega⟩
    have hg4 : g < aN A 4 := by omega
    obtain ⟨u1, u2⟩ := ff2 g (by omega) hg4
    have hmx := mxG_le (W := winR A r) (k := c) (s := fre (aN A 4) t) hp g
    have b134 : fX13_assault_b134 a40 a46 (fX13_assault_l69 a40 a46 m) M0 x1 (nI c) (nI t) (nI (mxG (winR A r) (mxV (winR A r) (aN A 4) (aN A 3 - (c + 1)) (c + 1)) c (fre (aN A 4) t) (g + 1))) (nI g) = a46 (sI M0 137 (128 * c + t) (nI (mxV (winR A r) (aN A 4) (aN A 3 - c) c (fre (aN A 4) t)))) x1 (nI c) (nI (t + 1)) := by
      unfold fX13_assault_b134
      rw [pu_s, nI_1]
      exact ih (g + 1) m (by omega) (by omega)
    rw [fX13_assault_l69, pu_s, hL.2.2.2.2.1, if_pos (by rw [lt_nI (by omega) (by omega)]; omega), bt_nI (by omega) (by omega)]
    by_cases q1 : t.testBit g = true
    · have hs : (fre (aN A 4) t).testBit g = false := by rw [u1, q1]; rfl
      rw [mxG, if_neg (fun z => by rw [hs] at z; exact absurd z.1 (by decide))] at b134
      rw [if_neg (fun z => bt0.mp z q1)]
      exact b134
    · have q1' : t.testBit g = false := by cases z : t.testBit g with
        | true => exact absurd z q1
        | false => rfl
      have hs : (fre (aN A 4) t).testBit g = true := by rw [u1, q1']; rfl
      obtain ⟨v1, v2⟩ := u2 q1'
      rw [if_pos (bt0.mpr q1), isWin_ok hL hA hr hR hc hg4, b1_s]
      by_cases q2 : winR A r c g = true
      · rw [if_pos q2, if_neg (show ¬ (1 : Int32) = 0 by decide), shl_nI g (by omega), or_nI (by omega) (Nat.lt_of_lt_of_le (Nat.pow_lt_pow_right (by decide) (show g < 31 by omega)) (Nat.le_refl _)), nI_1, most_ok hA hL h (Nat.le_refl _) (by omega) v2, b1_s, v1, show (1 : Int32) + nI (mxV (winR A r) (aN A 4) (aN A 3 - (c + 1)) (c + 1) (fre (aN A 4) t ^^^ 2 ^ g)) = nI (mxV (winR A r) (aN A 4) (aN A 3 - (c + 1)) (c + 1) (fre (aN A 4) t ^^^ 2 ^ g) + 1) from by rw [Int32.add_comm, nI_1]]
        have hpx := hp (fre (aN A 4) t ^^^ 2 ^ g)
        by_cases q3 : mxG (winR A r) (mxV (winR A r) (aN A 4) (aN A 3 - (c + 1)) (c + 1)) c (fre (aN A 4) t) g < mxV (winR A r) (aN A 4) (aN A 3 - (c + 1)) (c + 1) (fre (aN A 4) t ^^^ 2 ^ g) + 1
        · rw [mxG, if_pos ⟨hs, q2, q3⟩] at b134
          rw [if_pos (by rw [lt_nI (by omega) (by omega)]; exact q3), b1_s, pu_s, show (1 : Int32) + nI (mxV (winR A r) (aN A 4) (aN A 3 - (c + 1)) (c + 1) (fre (aN A 4) t ^^^ 2 ^ g)) = nI (mxV (winR A r) (aN A 4) (aN A 3 - (c + 1)) (c + 1) (fre (aN A 4) t ^^^ 2 ^ g) + 1) from by rw [Int32.add_comm, nI_1]]
          exact b134
        · rw [mxG, if_neg (fun z => q3 z.2.2)] at b134
          rw [if_neg (by rw [lt_nI (by omega) (by omega)]; exact q3)]
          exact b134
      · rw [mxG, if_neg (fun z => q2 z.2.1)] at b134
        rw [if_neg q2, if_pos (show (0 : Int32) = 0 from rfl)]
        exact b134
theorem asm46 {A : LA} {M : Mem} {r : Nat → Int32} {Y Z c : Nat} {x1 : Int32} (hA : okA A) (hL : LandM A M) (hr : rB M 0 = r) (hR : okR A Y Z r) (hc : c < aN A 3) (a40 : Mem → Int32 → Int32 → Option (Int32 × Mem)) : ∀ (d t fuel : Nat) (M1 : Mem), frMo M M1 → moS A r (c + 1) M1 → (∀ u, u < t → gI M1 137 (128 * c + u) = nI (mxV (winR A r) (aN A 4) (aN A 3 - c) c (fre (aN A 4) u))) → t + d = 2 ^ aN A 4 → d < fuel → ∃ M2, fX13_assault_l46 a40 fuel M1 x1 (nI c) (nI t) = a40 M2 x1 (pd c) ∧ frMo M M2 ∧ moS A r c M2 := by
  have hC := hA.2.2.2.1
  have hG := hA.2.2.2.2.1
  have h128 := G_128 hA
  intro d
  induction d with
  | zero =>
    intro t fuel M1 f ho hn ht hf
    obtain ⟨m, rfl⟩ : ∃ m, fuel = m + 1 := ⟨fuel - 1, by omega⟩
    have hL1 : LandM A M1 := hL.mv fun a j x y => f.1 a j (by omega)
    rw [fX13_assault_l46, pu_s, hL1.2.2.2.2.1, shl_nI _ (by omega), if_neg (by rw [lt_nI (by omega) (by omega)]; omega), pu_s, pd_n]
    refine ⟨M1, rfl, f, fun k hk hk2 u hu => ?_⟩
    by_cases q : k = c
    · rw [q]; exact hn u (by omega)
    · exact ho k (by omega) hk2 u hu
  | succ d ih =>
    intro t fuel M1 f ho hn ht hf
    obtain ⟨m, rfl⟩ : ∃ m, fuel = m + 1 := ⟨fuel - 1, by omega⟩
    have hL1 : LandM A M1 := hL.mv fun a j x y => f.1 a j (by omega)
    have hr1 : rB M1 0 = r := by
      rw [← hr]
      funext j
      unfold rB
      rw [f.1 133 _ (by decide)]
    have e := asm69 (x1 := x1) hA hL1 hr1 hR hc (t := t) (by omega) ho a40 (fX13_assault_l46 a40 m) (aN A 4) 0 FU (by omega) (by show _ < 100000; omega)
    rw [fX13_assault_l46, pu_s, hL1.2.2.2.2.1, shl_nI _ (by omega), if_pos (by rw [lt_nI (by omega) (by omega)]; omega), nI_1, most_ok hA hL1 ho (Nat.le_refl _) (by omega) (by omega), b1_s]
    rw [mxG] at e
    rw [show fX13_assault_l69 a40 (fX13_assault_l46 a40 m) FU M1 x1 (nI c) (nI t) (nI (mxV (winR A r) (aN A 4) (aN A 3 - (c + 1)) (c + 1) (fre (aN A 4) t))) 0 = _ from e]
    refine ih (t + 1) m _ ⟨fun a j x => (gI_sa x).trans (f.1 a j x), f.2⟩ (ho.st (by omega)) (fun u hu => ?_) (by omega) (by omega)
    by_cases q : u = t
    · rw [q, gI_ss]
    · rw [gI_sj (by omega)]; exact hn u (by omega)
theorem asm40 {A : LA} {M : Mem} {r : Nat → Int32} {Y Z : Nat} {x1 : Int32} (hA : okA A) (hL : LandM A M) (hr : rB M 0 = r) (hR : okR A Y Z r) : ∀ (c fuel : Nat) (M1 : Mem), c ≤ aN A 3 → frMo M M1 → moS A r c M1 → c < fuel → ∃ M2, fX13_assault_l40 fuel M1 x1 (pd c) = (if x1 = -1 then some (nI (mxV (winR A r) (aN A 4) (aN A 3) 0 (2 ^ aN A 4 - 1)), M2) else fX13_assault_l185 FU M2 x1 0 (-1) 0) ∧ frMo M M2 ∧ moS A r 0 M2 := by
  have hC := hA.2.2.2.1
  have hG := hA.2.2.2.2.1
  have h128 := G_128 hA
  have hpos : 0 < 2 ^ aN A 4 := Nat.two_pow_pos _
  intro c
  induction c with
  | zero =>
    intro fuel M1 hc f ho hf
    obtain ⟨m, rfl⟩ : ∃ m, fuel = m + 1 := ⟨fuel - 1, by omega⟩
    have hL1 : LandM A M1 := hL.mv fun a j x y => f.1 a j (by omega)
    refine ⟨M1, ?_, f, ho⟩
    rw [fX13_assault_l40, if_pos (by decide)]
    by_cases q : x1 = -1
    · rw [if_pos q, if_pos q, show fX13_mostOf M1 0 0 = _ from most_ok (k := 0) (t := 0) hA hL1 ho (Nat.le_refl _) (Nat.zero_le _) hpos, b1_s, fre_a _ (by omega), Nat.sub_zero]
    · rw [if_neg q, if_neg q]
  | succ c ih =>
    intro fuel M1 hc f ho hf
    obtain ⟨m, rfl⟩ : ∃ m, fuel = m + 1 := ⟨fuel - 1, by omega⟩
    obtain ⟨M2, p1, p2, p3⟩ := asm46 (x1 := x1) hA hL hr hR (c := c) (by omega) (fX13_assault_l40 m) (2 ^ aN A 4) 0 FU M1 f ho (fun u q => absurd q (by omega)) (by omega) (by show _ < 100000; omega)
    rw [fX13_assault_l40, pd_s, if_neg (nI_pos (by omega)), show fX13_assault_l46 (fX13_assault_l40 m) FU M1 x1 (nI c) 0 = _ from p1]
    exact ih m M2 (by omega) p2 p3 (by omega)
theorem asm201 {A : LA} {M : Mem} {r : Nat → Int32} {Y Z k t : Nat} {x1 : Int32} (hA : okA A) (hL : LandM A M) (hr : rB M 0 = r) (hR : okR A Y Z r) (ho : moS A r 0 M) (hk : k < aN A 3) (ht : t < 2 ^ aN A 4) (a185 : Mem → Int32 → Int32 → Int32 → Int32 → Option (Int32 × Mem)) : ∀ (g fuel : Nat) (x : Int32), g ≤ aN A 4 → g < fuel → (x = -1 ∨ ∃ j, j < aN A 4 ∧ x = nI j) →
    fX13_assault_l201 a185 fuel M x1 (nI t) x (nI k) (pd g) = (let y := itF (winR A r) (mxV (winR A r) (aN A 4) (aN A 3 - (k + 1)) (k + 1)) k (fre (aN A 4) t) (mxV (winR A r) (aN A 4) (aN A 3 - k) k (fre (aN A 4) t)) g x; a185 M x1 (nI (if y = -1 then t else t ||| 2 ^ y.toNatClampNeg)) y (nI (k + 1))) := by
  have hC := hA.2.2.2.1
  have hG := hA.2.2.2.2.1
  have h128 := G_128 hA
  obtain ⟨ff1, ff2⟩ := fre_f (aN A 4) (by omega) t (by omega) ht
  have hp : ∀ n k s, n ≤ 7 → mxV (winR A r) (aN A 4) n k s ≤ 7 := fun n k s hn => Nat.le_trans (mxV_le n k s) hn
  intro g
  induction g with
  | zero =>
    intro fuel x hg hf hx
    obtain ⟨m, rfl⟩ : ∃ m, fuel = m + 1 := ⟨fuel - 1, by omega⟩
    rw [fX13_assault_l201, if_pos (by decide)]
    dsimp only
    rw [itF]
    unfold fX13_assault_b272
    rcases hx with e | ⟨j, hj, e⟩
    · rw [if_pos e, if_pos e, pu_s, nI_1]
    · have : ¬ x = -1 := by rw [e]; exact nI_neg1 (by omega)
      rw [if_neg this, if_neg this, e, shl_nI j (by omega), or_nI (by omega) (Nat.lt_of_lt_of_le (Nat.pow_lt_pow_right (by decide) (show j < 31 by omega)) (Nat.le_refl _)), pu_s, pu_s, nI_1, nI_clamp (by omega)]
  | succ g ih =>
    intro fuel x hg hf hx
    obtain ⟨m, rfl⟩ : ∃ m, fuel = m + 1 := ⟨fuel - 1, by omega⟩
    have hg4 : g < aN A 4 := by omega
    obtain ⟨u1, u2⟩ := ff2 g (by omega) hg4
    have b255 : ∀ x', (x' = -1 ∨ ∃ j, j < aN A 4 ∧ x' = nI j) → fX13_assault_b255 a185 (fX13_assault_l201 a185 m) M x1 (nI t) x' (nI k) (nI g) = (let y := itF (winR A r) (mxV (winR A r) (aN A 4) (aN A 3 - (k + 1)) (k + 1)) k (fre (aN A 4) t) (mxV (winR A r) (aN A 4) (aN A 3 - k) k (fre (aN A 4) t)) g x'; a185 M x1 (nI (if y = -1 then t else t ||| 2 ^ y.toNatClampNeg)) y (nI (k + 1))) := by
      intro x' hx'
      unfold fX13_assault_b255
      rw [pu_s, pd_n]
      exact ih m x' (by omega) (by omega) hx'
    rw [fX13_assault_l201, pd_s, if_neg (nI_pos (by omega)), bt_nI (by omega) (by omega), itF]
    by_cases q1 : t.testBit g = true
    · have hs : (fre (aN A 4) t).testBit g = false := by rw [u1, q1]; rfl
      rw [if_neg (fun z => bt0.mp z q1), b255 x hx, if_neg (fun z => by rw [hs] at z; exact absurd z.1 (by decide))]
    · have q1' : t.testBit g = false := by cases z : t.testBit g with
        | true => exact absurd z q1
        | false => rfl
      have hs : (fre (aN A 4) t).testBit g = true := by rw [u1, q1']; rfl
      obtain ⟨v1, v2⟩ := u2 q1'
      rw [if_pos (bt0.mpr q1), isWin_ok hL hA hr hR hk hg4, b1_s]
      by_cases q2 : winR A r k g = true
      · rw [if_pos q2, if_neg (show ¬ (1 : Int32) = 0 by decide), shl_nI g (by omega), or_nI (by omega) (Nat.lt_of_lt_of_le (Nat.pow_lt_pow_right (by decide) (show g < 31 by omega)) (Nat.le_refl _)), nI_1, most_ok hA hL ho (Nat.zero_le _) (by omega) v2, b1_s, most_ok hA hL ho (Nat.zero_le _) (by omega) ht, b1_s, v1, show (1 : Int32) + nI (mxV (winR A r) (aN A 4) (aN A 3 - (k + 1)) (k + 1) (fre (aN A 4) t ^^^ 2 ^ g)) = nI (mxV (winR A r) (aN A 4) (aN A 3 - (k + 1)) (k + 1) (fre (aN A 4) t ^^^ 2 ^ g) + 1) from by rw [Int32.add_comm, nI_1]]
        have w1 := hp (aN A 3 - (k + 1)) (k + 1) (fre (aN A 4) t ^^^ 2 ^ g) (by omega)
        have w2 := hp (aN A 3 - k) k (fre (aN A 4) t) (by omega)
        by_cases q3 : mxV (winR A r) (aN A 4) (aN A 3 - (k + 1)) (k + 1) (fre (aN A 4) t ^^^ 2 ^ g) + 1 = mxV (winR A r) (aN A 4) (aN A 3 - k) k (fre (aN A 4) t)
        · rw [if_pos (by rw [q3]), b255 (nI g) (Or.inr ⟨g, hg4, rfl⟩), if_pos ⟨hs, q2, q3⟩]
        · rw [if_neg (by rw [eq_nI (by omega) (by omega)]; exact q3), b255 x hx, if_neg (fun z => q3 z.2.2)]
      · rw [if_neg q2, if_pos (show (0 : Int32) = 0 from rfl), b255 x hx, if_neg (fun z => q2 z.2.1)]
theorem asm185 {A : LA} {M : Mem} {r : Nat → Int32} {Y Z N : Nat} (hA : okA A) (hL : LandM A M) (hr : rB M 0 = r) (hR : okR A Y Z r) (ho : moS A r 0 M) (hN : N < aN A 3) : ∀ (d k fuel t : Nat) (x : Int32), t < 2 ^ aN A 4 → k + d = N + 1 → d < fuel → fX13_assault_l185 fuel M (nI N) (nI t) x (nI k) = some (asF A r d k (fre (aN A 4) t) x, M) := by
  have hC := hA.2.2.2.1
  have hG := hA.2.2.2.2.1
  have h128 := G_128 hA
  intro d
  induction d with
  | zero =>
    intro k fuel t x ht hk hf
    obtain ⟨m, rfl⟩ : ∃ m, fuel = m + 1 := ⟨fuel - 1, by omega⟩
    rw [fX13_assault_l185, if_pos (by rw [lt_nI (by omega) (by omega)]; omega)]
    rfl
  | succ d ih =>
    intro k fuel t x ht hk hf
    obtain ⟨m, rfl⟩ : ∃ m, fuel = m + 1 := ⟨fuel - 1, by omega⟩
    obtain ⟨ff1, ff2⟩ := fre_f (aN A 4) (by omega) t (by omega) ht
    have e := asm201 (x1 := nI N) (k := k) hA hL hr hR ho (by omega) ht (fX13_assault_l185 m) (aN A 4) FU (-1) (Nat.le_refl _) (by show _ < 100000; omega) (Or.inl rfl)
    dsimp only at e
    rw [show itF (winR A r) (mxV (winR A r) (aN A 4) (aN A 3 - (k + 1)) (k + 1)) k (fre (aN A 4) t) (mxV (winR A r) (aN A 4) (aN A 3 - k) k (fre (aN A 4) t)) (aN A 4) (-1) = itG A r k (fre (aN A 4) t) from rfl] at e
    rw [fX13_assault_l185, if_neg (by rw [lt_nI (by omega) (by omega)]; omega), pu_s, hL.2.2.2.2.1, pu_s, show nI (aN A 4) - 1 = pd (aN A 4) from rfl, e, asF]
    rcases itG_c (A := A) (r := r) (k := k) (s := fre (aN A 4) t) with q | ⟨g, q1, q2, q3⟩
    · rw [if_pos q, show asN (fre (aN A 4) t) (itG A r k (fre (aN A 4) t)) = fre (aN A 4) t from if_pos q]
      exact ih (k + 1) m t _ ht (by omega) (by omega)
    · have hn : ¬ itG A r k (fre (aN A 4) t) = -1 := by rw [q3]; exact nI_neg1 (by omega)
      obtain ⟨u1, u2⟩ := ff2 g (by omega) q1
      have q1' : t.testBit g = false := by
        rw [u1] at q2
        cases z : t.testBit g with
        | true => rw [z] at q2; exact absurd q2 (by decide)
        | false => rfl
      obtain ⟨v1, v2⟩ := u2 q1'
      have ec : (itG A r k (fre (aN A 4) t)).toNatClampNeg = g := by rw [q3, nI_clamp (by omega)]
      rw [if_neg hn, show asN (fre (aN A 4) t) (itG A r k (fre (aN A 4) t)) = fre (aN A 4) (t ||| 2 ^ g) from by unfold asN; rw [if_neg hn, ec, v1], ec]
      exact ih (k + 1) m _ _ v2 (by omega) (by omega)
theorem assault_q {A : LA} {M : Mem} (h : Rel A M) (x : Int32) : qC (fX12_assault M x) (fun M1 => fX13_assault M1 x) M := by
  have hC := h.1.2.2.2.1
  have hG := h.1.2.2.2.2.1
  have h128 := G_128 h.1
  have hpos : 0 < 2 ^ aN A 4 := Nat.two_pow_pos _
  have hL := h.2.1
  have clsS : fX12_assault M x = if x = -1 then (b1 (fX12_fillReach M 0) fun Mq8 => ldI Mq8 102 128 (nI (2 ^ aN A 4 - 1)) fun vq9 => some (.ok (vq9, Mq8))) else (bE (fX12_needChampion M x) fun _ => fX12_assault_l45 FU M x (nI (2 ^ aN A 4 - 1)) (-1) 0) := by
    unfold fX12_assault
    rw [pu_s, ck_t hL.1, pu_s, hL.2.2.2.2.2.1, shl_nI _ (by omega), nI_m1 hpos, pu_s]
  -- the reference, called rightly
  have refS : ∀ M1, RO M M1 → ¬ x < -1 → x < nI (aN A 3) → ∃ M2, fX13_assault M1 x = (if x = -1 then some (nI (mxV (winR A (rB M 0)) (aN A 4) (aN A 3) 0 (2 ^ aN A 4 - 1)), M2) else fX13_assault_l185 FU M2 x 0 (-1) 0) ∧ RO M1 M2 ∧ gI M2 103 0 = 0 ∧ LandM A M2 ∧ rB M2 0 = rB M 0 ∧ moS A (rB M 0) 0 M2 := by
    intro M1 f h1 h2
    have hL1 : LandM A (sI M1 103 0 0) := m0L (h.ro f).2.2.1
    have eB : rB (sI M1 103 0 0) 0 = rB M 0 := by rw [m0B, f.rB]
    obtain ⟨D2, d1, d2, d3⟩ := asm40 (x1 := x) h.1 hL1 eB h.okR (aN A 3) FU (sI M1 103 0 0) (Nat.le_refl _) ⟨fun _ _ _ => rfl, rfl⟩ (fun k q1 q2 => absurd q1 (by omega)) (by show _ < 100000; omega)
    refine ⟨D2, ?_, M0_ro.tr d2.RO, by rw [d2.1 _ _ (by decide)]; exact m00, hL1.mv (fun a j q1 q2 => d2.1 a j (by omega)), ?_, d3⟩
    · unfold fX13_assault
      rw [pu_s, if_neg h1, pu_s, hL1.2.2.2.1, if_pos h2]
      unfold fX13_assault_b24
      rw [right_eq m00 _ _ (by decide), if_neg (by decide), b2_s, if_neg (by decide), pu_s, hL1.2.2.2.1, pu_s]
      exact d1
    · rw [d2.RO.rB, eB]
  by_cases hx : x = -1
  · refine ⟨.ok (nI (mxV (winR A (rB M 0)) (aN A 4) (aN A 3) 0 (2 ^ aN A 4 - 1))), ?_, fun M1 f => ?_⟩
    · obtain ⟨C1, c1, c2, c3⟩ := fill_ok (first := 0) h RO.rf (Nat.zero_le _)
      refine ⟨C1, ?_, c2⟩
      show fX12_assault M x = _
      rw [clsS, if_pos hx, show fX12_fillReach M 0 = _ from c1, b1_s, ldI_nI (by omega) (by decide), c3 _ (by omega), Nat.sub_zero]
    · show simM (fX13_assault M1 _) M1 _
      obtain ⟨D2, d1, d2, d3, -⟩ := refS M1 f (by rw [hx]; decide) (by
        rw [hx, Int32.lt_iff_toInt_lt, nI_toInt (by omega), show ((-1 : Int32)).toInt = -1 from by decide]
        omega)
      rw [d1, if_pos hx]
      exact sM_ok d2 d3
  · by_cases hc : x < 0 ∨ ¬ x < nI (aN A 3)
    · refine ⟨.error 1, ?_, fun M1 f => ?_⟩
      · show fX12_assault M x = _
        rw [clsS, if_neg hx, needChampion_eq hL, if_pos hc, bE_er]
      · show simM (fX13_assault M1 _) M1 _
        have hL1 : LandM A (sI M1 103 0 0) := m0L (h.ro f).2.2.1
        have b23 : simM (fX13_assault_b23 (sI M1 103 0 0) x) M1 (.error 1) := by
          unfold fX13_assault_b23 fX13_assault_b24
          rw [right_eq m00 _ _ (by decide), if_pos rfl, b2_s, if_pos rfl]
          exact sM_er M0_ro
        unfold fX13_assault
        rw [pu_s]
        by_cases h1 : x < -1
        · rw [if_pos h1]; exact b23
        · rw [if_neg h1, pu_s, hL1.2.2.2.1]
          rcases hc with q | q
          · exfalso
            rw [Int32.lt_iff_toInt_lt] at q h1
            rw [show ((-1 : Int32)).toInt = -1 from by decide] at h1
            rw [show ((0 : Int32)).toInt = 0 from by decide] at q
            exact hx (Int32.toInt_inj.mp (by rw [show ((-1 : Int32)).toInt = -1 from by decide]; omega))
          · rw [if_neg q]; exact b23
    · obtain ⟨N, hN, eN⟩ := in_of hc (by omega)
      refine ⟨.ok (asF A (rB M 0) (N + 1) 0 (2 ^ aN A 4 - 1) (-1)), ?_, fun M1 f => ?_⟩
      · obtain ⟨C2, c1, c2⟩ := asC_l h hN (N + 1) 0 FU (2 ^ aN A 4 - 1) (-1) M RO.rf (by omega) (by omega) (by show _ < 100000; omega)
        refine ⟨C2, ?_, c2⟩
        show fX12_assault M x = _
        rw [clsS, if_neg hx, needChampion_eq hL, if_neg hc, bE_ok, eN]
        exact c1
      · show simM (fX13_assault M1 _) M1 _
        obtain ⟨D2, d1, d2, d3, d4, d5, d6⟩ := refS M1 f (by
          rw [eN, Int32.lt_iff_toInt_lt, nI_toInt (by omega), show ((-1 : Int32)).toInt = -1 from by decide]
          omega) (by rw [eN, lt_nI (by omega) (by omega)]; exact hN)
        have e := asm185 h.1 d4 d5 h.okR d6 hN (N + 1) 0 FU 0 (-1) hpos (by omega) (by show _ < 100000; omega)
        rw [fre_a _ (by omega)] at e
        rw [d1, if_neg hx, eN, show fX13_assault_l185 FU D2 (nI N) 0 (-1) 0 = _ from e]
        exact sM_ok d2 d3
