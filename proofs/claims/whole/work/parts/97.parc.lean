/-! TEXTS: faults have a number; the class's parse -/
theorem yrd_e {c : Nat → Nat} {L : Nat} {vf : Nat → Int32} {e : Nat × Nat} : ∀ n x, yrd c L vf n x = some (.error e) → 1 ≤ e.1 := by
  intro n
  induction n with
  | zero => intro x h; unfold yrd at h; cases h
  | succ n ih =>
    intro x h
    obtain ⟨md, out, st, d, te, q⟩ := x
    cases md with
    | some nm =>
      obtain ⟨nt, m⟩ := nm
      unfold yrd at h
      repeat' split at h
      all_goals first
        | exact ih _ h
        | (injection h with h; injection h with h; rw [← h]; first | exact Nat.le_refl 1 | exact (by decide : 1 ≤ 2) | exact (by decide : 1 ≤ 3))
    | none =>
      unfold yrd at h
      repeat' split at h
      all_goals first
        | exact ih _ h
        | (injection h with h; injection h with h; rw [← h]; first | exact Nat.le_refl 1 | exact (by decide : 1 ≤ 2) | exact (by decide : 1 ≤ 3))
        | (injection h with h; cases h)
theorem rexp_e {c : Nat → Nat} {L : Nat} {vf : Nat → Int32} {e : Nat × Nat} (hL : L ≤ 700) {q : Nat} (hq : q ≤ L) (h : rexp c L vf 8 0 q = .error e) : 1 ≤ e.1 := by
  have y := rexp_y (c := c) (vf := vf) hL hq (te := fun _ => false) rfl
  rw [h] at y
  obtain ⟨k, hk⟩ := y
  exact yrd_e _ _ (hk 0)
theorem eb_e {α β : Type} {x : Except (Nat × Nat) α} {k : α → Except (Nat × Nat) β} {e : Nat × Nat} (h : eb x k = .error e) : x = .error e ∨ ∃ a, x = .ok a ∧ k a = .error e := by
  cases x with
  | error e' => exact Or.inl (by injection h with h; rw [h])
  | ok a => exact Or.inr ⟨a, rfl, h⟩
theorem numR_e {c : Nat → Nat} {L lo hi q : Nat} {e : Nat × Nat} (h : numR c L lo hi q = .error e) : 1 ≤ e.1 := by
  unfold numR at h
  repeat' split at h
  all_goals first
    | (injection h with h; rw [← h]; first | exact Nat.le_refl 1 | exact (by decide : 1 ≤ 2))
    | cases h
theorem sgnR_e {c : Nat → Nat} {L m q : Nat} {e : Nat × Nat} (h : sgnR c L m q = .error e) : 1 ≤ e.1 := by
  unfold sgnR at h
  split at h
  · rcases eb_e h with h | ⟨a, -, h⟩
    · exact numR_e h
    · cases h
  · rcases eb_e h with h | ⟨a, -, h⟩
    · exact numR_e h
    · cases h
theorem closeR_e {c : Nat → Nat} {L q : Nat} {S : LNS} {e : Nat × Nat} (h : closeR c L S q = .error e) : 1 ≤ e.1 := by
  unfold closeR at h
  split at h
  · cases h
  · injection h with h; rw [← h]; exact Nat.le_refl 1
theorem wayL_e {c : Nat → Nat} {L b D : Nat} {e : Nat × Nat} : ∀ n i row q, n + i = 8 → i ≤ 6 → wayL c L b D n i row q = .error e → 1 ≤ e.1 := by
  intro n
  induction n with
  | zero => intro i row q h1 h2; omega
  | succ n ih =>
    intro i row q h1 h2 h
    unfold wayL at h
    split at h
    · cases h
    · split at h
      · split at h
        · injection h with h; rw [← h]; exact (by decide : 1 ≤ 2)
        · next z =>
          split at h
          · exact ih (i + 1) _ _ (by omega) (by omega) h
          · injection h with h; rw [← h]; exact (by decide : 1 ≤ 3)
      · injection h with h; rw [← h]; exact (by decide : 1 ≤ 1)
theorem harL_e {c : Nat → Nat} {L : Nat} {e : Nat × Nat} : ∀ n i A q, n + i = 12 → i ≤ 10 → harL c L n i A q = .error e → 1 ≤ e.1 := by
  intro n
  induction n with
  | zero => intro i A q h1 h2; omega
  | succ n ih =>
    intro i A q h1 h2 h
    unfold harL at h
    split at h
    · cases h
    · split at h
      · injection h with h; rw [← h]; exact (by decide : 1 ≤ 2)
      · next z =>
        rcases eb_e h with h | ⟨a, h0, h⟩
        · exact numR_e h
        · have k2 : tK c L q = 2 := by
            unfold numR at h0
            by_cases y : tK c L q = 2
            · exact y
            · rw [if_neg y] at h0; cases h0
          have : ¬ i = 10 := fun y => z ⟨y, k2⟩
          exact ih (i + 1) _ _ (by omega) (by omega) h
theorem onceR_e {c : Nat → Nat} {L i q : Nat} {k : LNS → Nat → RLN} {S : LNS} {e : Nat × Nat} (h : onceR c L i k S q = .error e) (hk : k (S.1, S.2.1, S.2.2 ||| 2 ^ i) (tN c L q) = .error e → 1 ≤ e.1) : 1 ≤ e.1 := by
  unfold onceR at h
  split at h
  · injection h with h; rw [← h]; exact (by decide : 1 ≤ 5)
  · exact hk h
theorem belR_e {c : Nat → Nat} {L i most q : Nat} {k : LNS → Nat → RLN} {S : LNS} {e : Nat × Nat} (h : belR c L i most k S q = .error e) (hk : k S (tN c L q) = .error e → 1 ≤ e.1) : 1 ≤ e.1 := by
  unfold belR at h
  split at h
  · exact hk h
  · injection h with h; rw [← h]; exact (by decide : 1 ≤ 2)
theorem rulR_e {c : Nat → Nat} {L i q : Nat} {vf : Nat → Int32} {S : LNS} {e : Nat × Nat} (hL : L ≤ 700) (hq : q ≤ L) (h : rulR c L i vf S q = .error e) : 1 ≤ e.1 := by
  rcases eb_e h with h | ⟨a, -, h⟩
  · exact rexp_e hL hq h
  · exact closeR_e h
theorem wayLR_e {c : Nat → Nat} {L b q : Nat} {S : LNS} {e : Nat × Nat} (h : wayLR c L b S q = .error e) : 1 ≤ e.1 := by
  rcases eb_e h with h | ⟨a, -, h⟩
  · exact wayL_e 8 0 _ _ rfl (by decide) h
  · exact closeR_e h
theorem figR_e {c : Nat → Nat} {L g q : Nat} {S : LNS} {e : Nat × Nat} (h : figR c L g S q = .error e) : 1 ≤ e.1 := by
  rcases eb_e h with h | ⟨a, -, h⟩
  · exact numR_e h
  · rcases eb_e h with h | ⟨a, -, h⟩
    · exact numR_e h
    · exact closeR_e h
theorem lineR_e {c : Nat → Nat} {L q : Nat} {S : LNS} {e : Nat × Nat} (hL : L ≤ 700) (hq : q ≤ L) (h : lineR c L S q = .error e) : 1 ≤ e.1 := by
  have n4 := (tN_le (c := c) hq).2
  unfold lineR at h
  split at h
  · refine onceR_e h fun h => ?_
    rcases eb_e h with h | ⟨a, -, h⟩
    · exact numR_e h
    · rcases eb_e h with h | ⟨a, -, h⟩
      · exact numR_e h
      · rcases eb_e h with h | ⟨a, -, h⟩
        · exact numR_e h
        · exact closeR_e h
  · split at h
    · refine belR_e h fun h => ?_
      rcases eb_e h with h | ⟨a, -, h⟩
      · exact numR_e h
      · rcases eb_e h with h | ⟨a, -, h⟩
        · exact sgnR_e h
        · rcases eb_e h with h | ⟨a, -, h⟩
          · exact sgnR_e h
          · rcases eb_e h with h | ⟨a, -, h⟩
            · exact sgnR_e h
            · exact closeR_e h
    · split at h
      · exact onceR_e h wayLR_e
      · split at h
        · exact onceR_e h wayLR_e
        · split at h
          · refine onceR_e h fun h => ?_
            rcases eb_e h with h | ⟨a, -, h⟩
            · exact harL_e 12 0 _ _ rfl (by decide) h
            · exact closeR_e h
          · split at h
            · refine onceR_e h fun h => ?_
              rcases eb_e h with h | ⟨a, -, h⟩
              · exact numR_e h
              · exact closeR_e h
            · split at h
              · refine belR_e h fun h => ?_
                rcases eb_e h with h | ⟨a, -, h⟩
                · exact sgnR_e h
                · rcases eb_e h with h | ⟨a, -, h⟩
                  · exact numR_e h
                  · exact closeR_e h
              · split at h
                · exact belR_e h figR_e
                · split at h
                  · exact belR_e h figR_e
                  · split at h
                    · exact onceR_e h (rulR_e hL n4)
                    · split at h
                      · exact onceR_e h (rulR_e hL n4)
                      · injection h with h; rw [← h]; exact (by decide : 1 ≤ 1)
theorem landR_e {c : Nat → Nat} {L : Nat} {e : Nat × Nat} (hL : L ≤ 700) : ∀ n S q, q ≤ L → invS S → landR c L n S q = .error e → 1 ≤ e.1 := by
  intro n
  induction n with
  | zero => intro S q _ _ h; unfold landR at h; cases h
  | succ n ih =>
    intro S q hq hS h
    unfold landR at h
    split at h
    · cases h
    · rcases eb_e h with h | ⟨a, h0, h⟩
      · exact lineR_e hL hq h
      · obtain ⟨z1, z2, z3⟩ := lineR_ok hq hS h0
        exact ih _ _ z3 z1 h
theorem prsC_l {c : Nat → Nat} {L P : Nat} {M0 : Mem} (hP : HP P M0) : ∀ n x S q M fuel, n + x = 701 → n < fuel → invS S → pC c L P M0 S q M → match landR c L n S q with
    | .error e => ∃ M', fX6_parse_l34 fuel M (nI x) = some (nI e.1, M') ∧ frQ P M0 M' ∧ gI M' 3 4 = nI e.2
    | .ok S' => ∃ M' q', fX6_parse_l34 fuel M (nI x) = some (0, M') ∧ pC c L P M0 S' q' M' ∧ invS S' := by
  intro n
  induction n with
  | zero =>
    intro x S q M fuel h1 h2 hS h
    obtain ⟨fuel, rfl⟩ : ∃ f, fuel = f + 1 := ⟨fuel - 1, by omega⟩
    refine ⟨M, q, ?_, h, hS⟩
    rw [fX6_parse_l34, if_pos (by rw [show (700 : Int32) = nI 700 from rfl, lt_nI (by omega) (by omega)]; omega)]
  | succ n ih =>
    intro x S q M fuel h1 h2 hS h
    have e4 : gI M 27 4 = nI (tK c L q) := h.2.1.2.2.2.1
    have kle : tK c L q ≤ 61 := by rcases tK_cases (c := c) (L := L) (q := q) with z | z | z | z | z <;> omega
    obtain ⟨fuel, rfl⟩ : ∃ f, fuel = f + 1 := ⟨fuel - 1, by omega⟩
    have hx : fX6_parse_l34 (fuel + 1) M (nI x) = if nI (tK c L q) = 0 then some (0, M) else b2 (fX6_line M) fun vq8 Mq9 => if vq8 = 0 then some (gI Mq9 3 3, Mq9) else fX6_parse_l34 fuel Mq9 (nI (x + 1)) := by
      rw [fX6_parse_l34, if_neg (by rw [show (700 : Int32) = nI 700 from rfl, lt_nI (by omega) (by omega)]; omega), pu_s, e4]
      simp only [pu_s, nI_1]
    rw [hx, landR]
    by_cases k0 : tK c L q = 0
    · rw [if_pos k0, if_pos (by rw [k0]; rfl)]
      exact ⟨M, q, rfl, h, hS⟩
    · rw [if_neg k0, if_neg (nI_ne0 (by omega) (by omega))]
      have hl := lineC hP hS h
      cases hr : lineR c L S q with
      | error e =>
        rw [hr] at hl
        obtain ⟨M', y1, y2, y3, y4⟩ := hl
        exact ⟨M', by rw [y1, b2_s, if_pos rfl, y3], y2, y4⟩
      | ok v =>
        rw [hr] at hl
        obtain ⟨M', y1, y2⟩ := hl
        rw [y1, b2_s, if_neg (by decide)]
        exact ih (x + 1) v.1 v.2 M' fuel (by omega) (by omega) (lineR_ok h.2.2.1 hS hr).1 y2
