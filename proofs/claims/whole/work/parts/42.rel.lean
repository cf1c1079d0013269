/-! WHAT HOLDS BETWEEN CALLS, of both sides at once -/
def wr (j : Nat) : Nat := if j < 6 then j else if j < 8 then j + 5 else if j < 10 then j - 2 else if j < 12 then j - 1 else if j < 13 then 8 else j
def rW (M : Mem) (a p j : Nat) : Int32 := if j < 31 then gI M a (p + wr j) else 0
def rA (M : Mem) (a p j : Nat) : Int32 := if j < 31 then gI M a (p + j) else 0
def okC (A : LA) (r : Nat → Int32) : Prop := ∃ y : Nat, y ≤ 999 ∧ r 3 = nI y ∧ okR A y (20 * y) r
def actsR (A : LA) (M : Mem) (oc f am : Nat) : Prop := ∃ n : Nat, n ≤ 40 ∧ gI M oc 0 = nI n ∧ gI M 103 f = nI n ∧ ∀ i, i < n → rW M (oc + 1) (31 * i) = rA M am (31 * i) ∧ okC A (rA M am (31 * i))
def seenR (M : Mem) (oc f am : Nat) : Prop := ∃ n : Nat, n ≤ 8 ∧ gI M oc 0 = nI n ∧ gI M 103 f = nI n ∧ ∀ i, i < n → ∃ y s : Nat, 1 ≤ y ∧ y ≤ 30 ∧ s ≤ 999 ∧ gI M (oc + 1) i = nI y ∧ gI M (oc + 2) i = nI s ∧ gI M am (2 * i) = nI y ∧ gI M am (2 * i + 1) = nI s
def tapeR (M : Mem) : Prop := ∃ n : Nat, n ≤ 700 ∧ gI M 0 1 = nI n ∧ gI M 103 21 = nI n ∧ ∀ i, i < n → ∃ c : Nat, c < 256 ∧ gI M 116 i = nI c ∧ gI M 1 i = (nI c).toInt8.toInt32
def imagR (A : LA) (M : Mem) : Prop := gI M 0 11 = 0 ∧ gI M 103 74 = 0 ∨ gI M 0 11 = 1 ∧ gI M 103 74 = 1 ∧ rW M 96 0 = rA M 141 0 ∧ okC A (rA M 141 0) ∧ actsR A M 97 75 142 ∧ seenR M 99 76 143
def parsR (M : Mem) : Prop := kd (gR M 3 1) = 4 ∧ gR M 3 1 ≠ gR M 28 0 ∧ kd (gR M 3 7) = 7
def Rel (A : LA) (M : Mem) : Prop := okA A ∧ LandC A M ∧ LandM A M ∧ rC M 81 = rB M 0 ∧ okC A (rB M 0) ∧ actsR A M 91 64 134 ∧ seenR M 93 69 138 ∧ tapeR M ∧ (∀ i, i < 3 → gI M 2 i = gI M 117 i) ∧ gI M 0 2 = gI M 103 23 ∧ imagR A M ∧ parsR M
/-- what questions may write over -/
def scr (a j : Nat) : Prop := (46 ≤ a ∧ a ≤ 48) ∨ (50 ≤ a ∧ a ≤ 80) ∨ (a = 49 ∧ j = 3) ∨ (86 ≤ a ∧ a ≤ 90) ∨ a = 102 ∨ (a = 133 ∧ 31 ≤ j) ∨ (135 ≤ a ∧ a ≤ 137) ∨ a = 139 ∨ a = 140 ∨ (a = 103 ∧ (j = 0 ∨ j = 67 ∨ j = 73))
def RO (M M' : Mem) : Prop := (∀ a j, ¬ scr a j → gI M' a j = gI M a j) ∧ M'.2.2 = M.2.2
theorem RO.rf {M : Mem} : RO M M := ⟨fun _ _ _ => rfl, rfl⟩
theorem RO.tr {M M1 M2 : Mem} (h : RO M M1) (h2 : RO M1 M2) : RO M M2 := ⟨fun a j x => (h2.1 a j x).trans (h.1 a j x), h2.2.trans h.2⟩
theorem RO.st {M M1 : Mem} {a i : Nat} {v : Int32} (h : RO M M1) (hs : scr a i) : RO M (sI M1 a i v) := ⟨fun c j x => by
  rw [gI_sI, if_neg]
  · exact h.1 c j x
  · rintro ⟨q1, q2⟩
    subst q1; subst q2
    exact x hs, h.2⟩
theorem RO.sL {M M1 : Mem} {a i : Nat} {v : Int64} (h : RO M M1) : RO M (sL M1 a i v) := ⟨fun c j x => h.1 c j x, h.2⟩
theorem frM.RO {M M' : Mem} {b : Nat} (h : frM b M M') (hb : 31 ≤ b) : RO M M' := ⟨fun a j x => h.1 a j (fun e => by
    rcases Nat.lt_or_ge j b with q | q
    · exact Or.inl q
    · exact absurd (Or.inr (Or.inr (Or.inr (Or.inr (Or.inr (Or.inl ⟨e, by omega⟩)))))) x) (fun e => x (by unfold scr; omega)) (fun e => x (by unfold scr; omega)), by rw [h.2]⟩
theorem frC.RO {M M' : Mem} {k : Nat} (h : frC k M M') (hk : (50 ≤ k ∧ k + 4 ≤ 80) ∨ k = 86) : RO M M' := ⟨fun a j x => h.1 a j (by
    rcases Nat.lt_or_ge a k with q | q
    · exact Or.inl q
    · rcases Nat.lt_or_ge (k + 4) a with q2 | q2
      · exact Or.inr q2
      · exact absurd (by unfold scr; omega) x) (fun e => x (by unfold scr; omega)) (fun e => x (by unfold scr; omega)) (fun e => x (by unfold scr; omega)), by rw [h.2]⟩
theorem frT.RO {M M' : Mem} (h : frT M M') : RO M M' := ⟨fun a j x => h.1 a j (fun e => x (by unfold scr; omega)) (fun e => x (by unfold scr; omega)), by rw [h.2]⟩
theorem frK.RO {M M' : Mem} (h : frK M M') : RO M M' := ⟨fun a j x => h.1 a j (fun e => x (by unfold scr; omega)) (fun e => x (by unfold scr; omega)) (fun e => x (by unfold scr; omega)), by rw [h.2]⟩
theorem RO.gR {M M' : Mem} (h : RO M M') (a j : Nat) : gR M' a j = gR M a j := by unfold Jvm.Pilot.CTurnBrothersLaw_law_r6653_622c5a.gR; rw [h.2]
theorem RO.C {A : LA} {M M' : Mem} (h : RO M M') (hL : LandC A M) : LandC A M' := hL.mv (h.gR _ _) fun a j x => h.1 a j (by unfold scr; omega)
theorem RO.M {A : LA} {M M' : Mem} (h : RO M M') (hL : LandM A M) : LandM A M' := hL.mv fun a j x y => h.1 a j (by unfold scr; omega)
theorem RO.rC {M M' : Mem} {k : Nat} (h : RO M M') (hk : k = 81) : rC M' k = rC M k := by
  subst hk
  funext j
  unfold Jvm.Pilot.CTurnBrothersLaw_law_r6653_622c5a.rC
  by_cases hj : j < 31
  · have := pl_4 j hj
    rw [if_pos hj, if_pos hj, h.1 _ _ (by unfold scr; omega)]
  · rw [if_neg hj, if_neg hj]
theorem RO.rB {M M' : Mem} (h : RO M M') : rB M' 0 = rB M 0 := by
  funext j
  unfold Jvm.Pilot.CTurnBrothersLaw_law_r6653_622c5a.rB
  by_cases hj : j < 31
  · rw [if_pos hj, if_pos hj, h.1 _ _ (by unfold scr; omega)]
  · rw [if_neg hj, if_neg hj]
theorem rA_mv {M M' : Mem} {a p : Nat} (h : ∀ j, gI M' a j = gI M a j) : rA M' a p = rA M a p := by
  funext j
  unfold rA
  rw [h]
theorem rW_mv {M M' : Mem} {a p : Nat} (h : ∀ j, gI M' a j = gI M a j) : rW M' a p = rW M a p := by
  funext j
  unfold rW
  rw [h]
theorem actsR.mv {A : LA} {M M' : Mem} {oc f am : Nat} (h : actsR A M oc f am) (h1 : gI M' oc 0 = gI M oc 0) (h2 : gI M' 103 f = gI M 103 f) (h3 : ∀ j, gI M' (oc + 1) j = gI M (oc + 1) j) (h4 : ∀ j, gI M' am j = gI M am j) : actsR A M' oc f am := by
  obtain ⟨n, q1, q2, q3, q4⟩ := h
  refine ⟨n, q1, h1.trans q2, h2.trans q3, fun i hi => ?_⟩
  rw [rW_mv h3, rA_mv h4]
  exact q4 i hi
theorem seenR.mv {M M' : Mem} {oc f am : Nat} (h : seenR M oc f am) (h1 : gI M' oc 0 = gI M oc 0) (h2 : gI M' 103 f = gI M 103 f) (h3 : ∀ j, gI M' (oc + 1) j = gI M (oc + 1) j) (h5 : ∀ j, gI M' (oc + 2) j = gI M (oc + 2) j) (h4 : ∀ j, gI M' am j = gI M am j) : seenR M' oc f am := by
  obtain ⟨n, q1, q2, q3, q4⟩ := h
  refine ⟨n, q1, h1.trans q2, h2.trans q3, fun i hi => ?_⟩
  obtain ⟨y, s, p1, p2, p3, p4, p5, p6, p7⟩ := q4 i hi
  exact ⟨y, s, p1, p2, p3, (h3 i).trans p4, (h5 i).trans p5, (h4 _).trans p6, (h4 _).trans p7⟩
theorem tapeR.mv {M M' : Mem} (h : tapeR M) (h1 : gI M' 0 1 = gI M 0 1) (h2 : gI M' 103 21 = gI M 103 21) (h3 : ∀ j, gI M' 1 j = gI M 1 j) (h4 : ∀ j, gI M' 116 j = gI M 116 j) : tapeR M' := by
  obtain ⟨n, q1, q2, q3, q4⟩ := h
  refine ⟨n, q1, h1.trans q2, h2.trans q3, fun i hi => ?_⟩
  obtain ⟨c, p1, p2, p3⟩ := q4 i hi
  exact ⟨c, p1, (h4 i).trans p2, (h3 i).trans p3⟩
theorem imagR.mv {A : LA} {M M' : Mem} (h : imagR A M) (h1 : gI M' 0 11 = gI M 0 11) (h2 : ∀ j, 74 ≤ j → j ≤ 76 → gI M' 103 j = gI M 103 j) (h3 : ∀ a j, 96 ≤ a → a ≤ 101 → gI M' a j = gI M a j) (h4 : ∀ a j, 141 ≤ a → a ≤ 143 → gI M' a j = gI M a j) : imagR A M' := by
  rcases h with ⟨q1, q2⟩ | ⟨q1, q2, q3, q4, q5, q6⟩
  · exact Or.inl ⟨h1.trans q1, (h2 74 (by decide) (by decide)).trans q2⟩
  · have e1 : rA M' 141 0 = rA M 141 0 := rA_mv fun j => h4 141 j (by decide) (by decide)
    have e2 : rW M' 96 0 = rW M 96 0 := rW_mv fun j => h3 96 j (by decide) (by decide)
    refine Or.inr ⟨h1.trans q1, (h2 74 (by decide) (by decide)).trans q2, by rw [e1, e2]; exact q3, by rw [e1]; exact q4, q5.mv (h3 _ _ (by decide) (by decide)) (h2 _ (by decide) (by decide)) (fun j => h3 _ _ (by decide) (by decide)) (fun j => h4 _ _ (by decide) (by decide)), q6.mv (h3 _ _ (by decide) (by decide)) (h2 _ (by decide) (by decide)) (fun j => h3 _ _ (by decide) (by decide)) (fun j => h3 _ _ (by decide) (by decide)) (fun j => h4 _ _ (by decide) (by decide))⟩
theorem parsR.mv {M M' : Mem} (h : parsR M) (e : M'.2.2 = M.2.2) : parsR M' := by
  unfold parsR gR at h ⊢
  rw [e]
  exact h
theorem Rel.ro {A : LA} {M M' : Mem} (h : Rel A M) (f : RO M M') : Rel A M' := by
  obtain ⟨h1, h2, h3, h4, h5, h6, h7, h8, h9, h10, h11, h12⟩ := h
  have g : ∀ a j, ¬ scr a j → gI M' a j = gI M a j := f.1
  refine ⟨h1, f.C h2, f.M h3, by rw [f.rC rfl, f.rB]; exact h4, by rw [f.rB]; exact h5, h6.mv (g _ _ (by unfold scr; omega)) (g _ _ (by unfold scr; omega)) (fun j => g _ _ (by unfold scr; omega)) (fun j => g _ _ (by unfold scr; omega)), h7.mv (g _ _ (by unfold scr; omega)) (g _ _ (by unfold scr; omega)) (fun j => g _ _ (by unfold scr; omega)) (fun j => g _ _ (by unfold scr; omega)) (fun j => g _ _ (by unfold scr; omega)), h8.mv (g _ _ (by unfold scr; omega)) (g _ _ (by unfold scr; omega)) (fun j => g _ _ (by unfold scr; omega)) (fun j => g _ _ (by unfold scr; omega)), fun i hi => ?_, ?_, h11.mv (g _ _ (by unfold scr; omega)) (fun j q1 q2 => g _ _ (by unfold scr; omega)) (fun a j q1 q2 => g _ _ (by unfold scr; omega)) (fun a j q1 q2 => g _ _ (by unfold scr; omega)), h12.mv f.2⟩
  · rw [g 2 i (by unfold scr; omega), g 117 i (by unfold scr; omega)]; exact h9 i hi
  · rw [g 0 2 (by unfold scr; omega), g 103 23 (by unfold scr; omega)]; exact h10
-- needs
theorem needWhat_eq (M : Mem) (x y : Int32) : fX12_needWhat M x y = some (if x < 0 ∨ y < x then .error 1 else .ok ()) := by
  unfold fX12_needWhat fX12_needWhat_b9
  by_cases h1 : x < 0
  · rw [if_pos h1, if_pos (Or.inl h1)]
  · rw [if_neg h1]
    by_cases h2 : y < x
    · rw [if_pos h2, if_pos (Or.inr h2)]
    · rw [if_neg h2, if_neg (by rintro (q | q); exact h1 q; exact h2 q)]
theorem needWithin_eq (M : Mem) (x lo hi : Int32) : fX12_needWithin M x lo hi = some (if x < lo ∨ hi < x then .error 2 else .ok ()) := by
  unfold fX12_needWithin fX12_needWithin_b10
  by_cases h1 : x < lo
  · rw [if_pos h1, if_pos (Or.inl h1)]
  · rw [if_neg h1]
    by_cases h2 : hi < x
    · rw [if_pos h2, if_pos (Or.inr h2)]
    · rw [if_neg h2, if_neg (by rintro (q | q); exact h1 q; exact h2 q)]
theorem needBrother_eq (M : Mem) (x : Int32) : fX12_needBrother M x = some (if x = 0 ∨ x = 1 then .ok () else .error 1) := by
  unfold fX12_needBrother
  by_cases h1 : x = 0
  · rw [if_pos h1, if_pos (Or.inl h1)]
  · rw [if_neg h1]
    by_cases h2 : x = 1
    · rw [if_pos h2, if_pos (Or.inr h2)]
    · rw [if_neg h2, if_neg (by rintro (q | q); exact h1 q; exact h2 q)]
theorem needDeed_eq {A : LA} {M : Mem} (hL : LandC A M) (x : Int32) : fX12_needDeed M x = some (if x < 0 ∨ ¬ x < nI (aN A 0) then .error 1 else .ok ()) := by
  unfold fX12_needDeed fX12_needDeed_b18
  simp only [pu_s, ck_t hL.1]
  rw [hL.2.1]
  by_cases h1 : x < 0
  · rw [if_pos h1, if_pos (Or.inl h1)]
  · rw [if_neg h1]
    by_cases h2 : x < nI (aN A 0)
    · rw [if_pos h2, if_neg (by rintro (q | q); exact h1 q; exact q h2)]
    · rw [if_neg h2, if_pos (Or.inr h2)]
theorem needFriend_eq {A : LA} {M : Mem} (hL : LandC A M) (x : Int32) : fX12_needFriend M x = some (if x < 0 ∨ ¬ x < nI (aN A 2) then .error 1 else .ok ()) := by
  unfold fX12_needFriend fX12_needFriend_b18
  simp only [pu_s, ck_t hL.1]
  rw [hL.2.2.2.1]
  by_cases h1 : x < 0
  · rw [if_pos h1, if_pos (Or.inl h1)]
  · rw [if_neg h1]
    by_cases h2 : x < nI (aN A 2)
    · rw [if_pos h2, if_neg (by rintro (q | q); exact h1 q; exact q h2)]
    · rw [if_neg h2, if_pos (Or.inr h2)]
theorem needChampion_eq {A : LA} {M : Mem} (hL : LandC A M) (x : Int32) : fX12_needChampion M x = some (if x < 0 ∨ ¬ x < nI (aN A 3) then .error 1 else .ok ()) := by
  unfold fX12_needChampion fX12_needChampion_b21
  simp only [pu_s, ck_t hL.1]
  rw [hL.2.2.2.2.1]
  by_cases h1 : x < 0
  · rw [if_pos h1, if_pos (Or.inl h1)]
  · rw [if_neg h1]
    by_cases h2 : x < nI (aN A 3)
    · rw [if_pos h2, if_neg (by rintro (q | q); exact h1 q; exact q h2)]
    · rw [if_neg h2, if_pos (Or.inr h2)]
theorem needGate_eq {A : LA} {M : Mem} (hL : LandC A M) (x : Int32) : fX12_needGate M x = some (if x < 0 ∨ ¬ x < nI (aN A 4) then .error 1 else .ok ()) := by
  unfold fX12_needGate fX12_needGate_b21
  simp only [pu_s, ck_t hL.1]
  rw [hL.2.2.2.2.2.1]
  by_cases h1 : x < 0
  · rw [if_pos h1, if_pos (Or.inl h1)]
  · rw [if_neg h1]
    by_cases h2 : x < nI (aN A 4)
    · rw [if_pos h2, if_neg (by rintro (q | q); exact h1 q; exact q h2)]
    · rw [if_neg h2, if_pos (Or.inr h2)]
-- the reference's
theorem right_eq {M : Mem} (h : gI M 103 0 = 0) (x k : Int32) (hk : k ≠ 0) : fX13_right M x k = some (if x = 0 then (0, sI M 103 0 k) else (1, M)) := by
  unfold fX13_right fX13_right_b16
  simp only [pu_s]
  rw [h, if_pos rfl]
  by_cases hx : x = 0
  · rw [if_pos hx, if_pos hx, gI_ss, if_neg hk]
  · rw [if_neg hx, if_neg hx, if_pos rfl]
theorem within_eq (x lo hi : Int32) : fX13_within x lo hi = some (if x < lo ∨ hi < x then 0 else 1) := by
  unfold fX13_within
  by_cases h1 : x < lo
  · rw [if_pos h1, if_pos (Or.inl h1)]
  · rw [if_neg h1]
    by_cases h2 : hi < x
    · rw [if_pos h2, if_pos (Or.inr h2)]
    · rw [if_neg h2, if_neg (by rintro (q | q); exact h1 q; exact h2 q)]
theorem isWhat_eq {M : Mem} (h : gI M 103 0 = 0) (x y : Int32) : fX13_isWhat M x y = some (if x < 0 ∨ y < x then (0, sI M 103 0 1) else (1, M)) := by
  unfold fX13_isWhat
  rw [within_eq, b1_s, right_eq h _ _ (by decide)]
  by_cases h1 : x < 0 ∨ y < x
  · rw [if_pos h1, if_pos rfl, if_pos h1, b2_s, zz0]
  · rw [if_neg h1, if_neg (by decide), if_neg h1, b2_s, zz1]
theorem bro_iff (x : Int32) : (x < 0 ∨ 1 < x) ↔ ¬ (x = 0 ∨ x = 1) := by
  rw [Int32.lt_iff_toInt_lt, Int32.lt_iff_toInt_lt, ← Int32.toInt_inj, ← Int32.toInt_inj, show ((0 : Int32)).toInt = 0 from by decide, show ((1 : Int32)).toInt = 1 from by decide]
  omega
theorem isBrother_eq {M : Mem} (h : gI M 103 0 = 0) (x : Int32) : fX13_isBrother M x = some (if x = 0 ∨ x = 1 then (1, M) else (0, sI M 103 0 1)) := by
  unfold fX13_isBrother
  rw [within_eq, b1_s, right_eq h _ _ (by decide)]
  by_cases h1 : x = 0 ∨ x = 1
  · rw [if_neg (fun q => (bro_iff x).mp q h1), if_neg (by decide), if_pos h1, b2_s, zz1]
  · rw [if_pos ((bro_iff x).mpr h1), if_pos rfl, if_neg h1, b2_s, zz0]
theorem isDeed_eq {A : LA} {M : Mem} (hL : LandM A M) (h : gI M 103 0 = 0) (x : Int32) : fX13_isDeed M x = some (if x < 0 ∨ ¬ x < nI (aN A 0) then (0, sI M 103 0 1) else (1, M)) := by
  unfold fX13_isDeed fX13_isDeed_b17 fX13_isDeed_b18
  rw [right_eq h _ _ (by decide), right_eq h _ _ (by decide), pu_s, hL.1, if_pos rfl, if_neg (show ¬ (1 : Int32) = 0 from by decide), b2_s, b2_s, zz0, zz1]
  by_cases h1 : x < 0
  · rw [if_pos h1, if_pos (Or.inl h1)]
  · rw [if_neg h1]
    by_cases h2 : x < nI (aN A 0)
    · rw [if_pos h2, if_neg (by rintro (q | q); exact h1 q; exact q h2)]
    · rw [if_neg h2, if_pos (Or.inr h2)]
theorem isFriend_eq {A : LA} {M : Mem} (hL : LandM A M) (h : gI M 103 0 = 0) (x : Int32) : fX13_isFriend M x = some (if x < 0 ∨ ¬ x < nI (aN A 2) then (0, sI M 103 0 1) else (1, M)) := by
  unfold fX13_isFriend fX13_isFriend_b17 fX13_isFriend_b18
  rw [right_eq h _ _ (by decide), right_eq h _ _ (by decide), pu_s, hL.2.2.1, if_pos rfl, if_neg (show ¬ (1 : Int32) = 0 from by decide), b2_s, b2_s, zz0, zz1]
  by_cases h1 : x < 0
  · rw [if_pos h1, if_pos (Or.inl h1)]
  · rw [if_neg h1]
    by_cases h2 : x < nI (aN A 2)
    · rw [if_pos h2, if_neg (by rintro (q | q); exact h1 q; exact q h2)]
    · rw [if_neg h2, if_pos (Or.inr h2)]
/-- a question of the class that throws or answers; one of the reference's -/
def simC (o : Option (Except Nat (Int32 × Mem))) (M : Mem) (sp : Except Nat Int32) : Prop := match sp with
  | .error e => o = some (.error e)
  | .ok v => ∃ M1, o = some (.ok (v, M1)) ∧ RO M M1
def simR (o : Option (Except Nat Int32)) (sp : Except Nat Int32) : Prop := o = some sp
def simM (o : Option (Int32 × Mem)) (M : Mem) (sp : Except Nat Int32) : Prop := ∃ b M2, o = some (b, M2) ∧ RO M M2 ∧ match sp with
  | .error e => gI M2 103 0 = nI e
  | .ok v => gI M2 103 0 = 0 ∧ b = v
theorem bE_ok {α β : Type} {a : α} {k : α → Option (Except Nat β)} : bE (some (.ok a)) k = k a := Eq.trans rfl rfl
theorem bE_er {α β : Type} {e : Nat} {k : α → Option (Except Nat β)} : bE (some (.error e)) k = some (.error e) := Eq.trans rfl rfl
theorem M0_ro {M : Mem} : RO M (sI M 103 0 0) := RO.rf.st (by unfold scr; omega)
