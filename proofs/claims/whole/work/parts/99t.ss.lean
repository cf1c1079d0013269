/-! WHAT HOLDS OF THE STATE: the words -/
def FLc : List Cond := flatC (Jvm.Cond.and given_1 narrow_1)
def wSt (i : Nat) : Term := .static "TurnBrothers$Word" (wNm.getD i "") "LTurnBrothers$Word;"
theorem w_lay : ∀ i, i < 23 → Cond.laysStatic "TurnBrothers$Word" (wNm.getD i "") "LTurnBrothers$Word;" ∈ lw_tbl := by decide +kernel
theorem w_ini : Cond.initialized "TurnBrothers$Word" ∈ lw_tbl := by decide +kernel
theorem w_exa : ∀ i, i < 23 → Cond.exactly (wSt i) "TurnBrothers$Word" ∈ FLc := by decide +kernel
theorem w_fld : ∀ q ∈ wFl, ∀ i, i < 23 → Cond.eq (.field (wSt i) q.1 q.2.1 q.2.2.1) (.int (q.2.2.2.getD i 0)) ∈ FLc := by decide +kernel
def oW : List Nat := [22, 13, 19, 12, 11, 0, 1, 2, 3, 4, 5, 6, 7, 8, 9, 10, 14, 15, 16, 17, 18, 20, 21]
def wPr : List Cond := (List.range 23).flatMap fun b => (List.range b).map fun a => Cond.not (.eq (wSt (oW.getD a 0)) (wSt (oW.getD b 0)))
def subE : List Cond → List Cond → Bool
  | [], _ => true
  | _ :: _, [] => false
  | a :: l, b :: m => if a = b then subE l m else subE (a :: l) m
theorem subE_ok : ∀ (m l : List Cond), subE l m = true → ∀ c ∈ l, c ∈ m := by
  intro m
  induction m with
  | nil =>
    intro l h c hc
    cases l with
    | nil => cases hc
    | cons a l => unfold subE at h; cases h
  | cons b m ih =>
    intro l h c hc
    cases l with
    | nil => cases hc
    | cons a l =>
      unfold subE at h
      by_cases e : a = b
      · rw [if_pos e] at h
        rcases List.mem_cons.mp hc with q | q
        · rw [q, e]; exact List.mem_cons_self
        · exact List.mem_cons_of_mem _ (ih l h c q)
      · rw [if_neg e] at h
        exact List.mem_cons_of_mem _ (ih (a :: l) h c hc)
theorem w_pr : subE wPr FLc = true := by decide +kernel
theorem oW_p : ∀ i, i < 23 → ∃ a, a < 23 ∧ oW.getD a 0 = i := by decide +kernel
theorem w_dis {i j : Nat} (hi : i < 23) (hj : j < 23) (h : i ≠ j) : Cond.not (.eq (wSt i) (wSt j)) ∈ FLc ∨ Cond.not (.eq (wSt j) (wSt i)) ∈ FLc := by
  obtain ⟨a, ha, ea⟩ := oW_p i hi
  obtain ⟨b, hb, eb⟩ := oW_p j hj
  have key : ∀ a b, b < 23 → a < b → Cond.not (.eq (wSt (oW.getD a 0)) (wSt (oW.getD b 0))) ∈ FLc := fun a b hb hab => subE_ok _ _ w_pr _ (List.mem_flatMap.mpr ⟨b, List.mem_range.mpr hb, List.mem_map.mpr ⟨a, List.mem_range.mpr hab, rfl⟩⟩)
  rcases Nat.lt_trichotomy a b with q | q | q
  · have := key a b hb q
    rw [ea, eb] at this
    exact Or.inl this
  · exact absurd (ea.symm.trans (by rw [q]; exact eb)) h
  · have := key b a ha q
    rw [ea, eb] at this
    exact Or.inr this
