/-! THE LAW UP TO ITS LOOP -/
theorem b3_s {β : Type} {n : Nat} {M : Mem} {k : Nat → Mem → Option β} : b3 (some (n, M)) k = k n M := Eq.trans rfl rfl
theorem ini_12 : qX12_init 1 (z3 M00 0) 0 = some (103, get2 ini12) := get2_eq ini12_n
theorem ini_13 : qX13_init (103 + 1) (z3 (get2 ini12) 103) 103 = some (144, get2 ini13) := by
  have h := get2_eq ini13_n
  have e : ini13 = b3 ini12 fun n M => qX13_init (n + 1) (z3 M n) n := by unfold ini13; exact Eq.refl _
  rw [show ini12 = some (103, get2 ini12) from ini_12, b3_s] at e
  exact e.symm.trans h
theorem ini_X : MI = z3 (get2 ini13) 144 := by
  have h := get2_eq ini13_n
  have e : iniX = b3 ini13 fun n M => some (n + 1, z3 M n) := by unfold iniX; exact Eq.refl _
  rw [h, b3_s] at e
  unfold MI
  rw [e]
  unfold get2
  exact Eq.refl _
theorem GC_GG {G : GX} {Q : State → Prop} {kc ks pc : Nat} {lv : List (Nat × Value)} {st : List Value} (k : GG G Q kc ks pc lv st MF) : GC G Q 145 kc ks pc lv st MI := by
  obtain ⟨w, p, l, e, R, s, m, args, below, meth, c⟩ := G
  exact fun H locs ls hl hP hS => k H locs ls hl (WC_Wd hP) hS
theorem walk {G : GX} {Q : State → Prop} {zb : Nat} (h : OKm G cL_law RL 7 (some .boolean) { frames := 2048, cells := 601024, slots := 7293034, locals := 84000 }) (kk : ∀ kc ks, kc ≤ 1000 → ks ≤ 100000 → GG G Q kc ks 23 [(0, Value.ref zb), (1, rv G.1 0), (2, rv G.1 103), (3, rv G.1 144), (4, .int 0)] [] MF) : GC G Q 0 0 0 0 [(0, Value.ref zb)] [] M00 := by
  refine h_new h inW12 tyX12_ok clL_8 instX12 iniX12 rfl (fun j hj => vpV_range hj) (by decide) (by rfl) (Nat.le_of_ble_eq_true rfl) (Nat.le_of_ble_eq_true rfl) dL_law_0 ?_
  refine h_dup h rfl dL_law_3 ?_
  refine h_callI (As := []) (rest := [rv G.1 0]) h ceX12_init mlL_95 imX12_init rfl (by decide) rfl rfl ⟨Nat.le_of_ble_eq_true rfl, Nat.le_of_ble_eq_true rfl⟩ ⟨Nat.le_of_ble_eq_true rfl, Nat.le_of_ble_eq_true rfl⟩ rfl dL_law_4 rfl (Nat.le_of_ble_eq_true rfl) (ccX12_init ini_12) (fun zn1 zM1 zp => ?_)
  obtain ⟨z1, z2⟩ := zp
  replace z1 := z1.symm
  replace z2 := z2.symm
  subst z1
  subst z2
  refine h_astore_n h rfl [(1, rv G.1 0), (0, Value.ref zb)] (by decide) rfl dL_law_7 ?_
  refine h_new h inW13 tyX13_ok clL_96 instX13 iniX13 rfl (fun j hj => vpV_range hj) (by decide) (by rfl) (Nat.le_of_ble_eq_true rfl) (Nat.le_of_ble_eq_true rfl) dL_law_8 ?_
  refine h_dup h rfl dL_law_11 ?_
  refine h_callI (As := []) (rest := [rv G.1 103]) h ceX13_init mlL_98 imX13_init rfl (by decide) rfl rfl ⟨Nat.le_of_ble_eq_true rfl, Nat.le_of_ble_eq_true rfl⟩ ⟨Nat.le_of_ble_eq_true rfl, Nat.le_of_ble_eq_true rfl⟩ rfl dL_law_12 rfl (Nat.le_of_ble_eq_true rfl) (ccX13_init ini_13) (fun zn1 zM1 zp => ?_)
  obtain ⟨z1, z2⟩ := zp
  replace z1 := z1.symm
  replace z2 := z2.symm
  subst z1
  subst z2
  refine h_astore_n h rfl [(2, rv G.1 103), (1, rv G.1 0), (0, Value.ref zb)] (by decide) rfl dL_law_15 ?_
  refine h_iconst h 1 (v := 1) (by decide) dL_law_16 ?_
  refine h_newJ h 1 (by decide) (by decide) (by decide) (by decide) (by decide) (by decide) arr_long (Nat.le_of_ble_eq_true rfl) (Nat.le_of_ble_eq_true rfl) dL_law_17 ?_
  refine h_astore_n h rfl [(3, rv G.1 144), (2, rv G.1 103), (1, rv G.1 0), (0, Value.ref zb)] (by decide) rfl dL_law_19 ?_
  refine h_iconst h 0 (v := 0) (by decide) dL_law_20 ?_
  refine h_istore h [(4, .int 0), (3, rv G.1 144), (2, rv G.1 103), (1, rv G.1 0), (0, Value.ref zb)] (by decide) rfl dL_law_21 ?_
  rw [← ini_X]
  refine GC_GG (g_sub h [4, 3, 2, 1, 0] rfl (kk _ _ (Nat.le_of_ble_eq_true rfl) (Nat.le_of_ble_eq_true rfl)))
