-- X3_clearRow
def qX3_clearRow_l2 : Nat → Nat → Mem → Nat → Int32 → Option (Nat × Mem)
  | 0, _, _, _, _ => none
  | n + 1, nn, M, x0, x1 =>
    ck (kd x0 = 20 ∧ x0 < nn) <|
    if x1 < Int32.ofNat (ln x0) then
      stI M x0 (ln x0) x1 0 fun M1 =>
      qX3_clearRow_l2 n nn M1 x0 (x1 + 1)
    else
      some (nn, M)
def qX3_clearRow (nn : Nat) (M : Mem) (x0 : Nat) : Option (Nat × Mem) := qX3_clearRow_l2 20 nn M x0 0
theorem kcX3_clearRow_l2 {G : GX} (h : OKm G cX3_clearRow RX3 2 none { frames := 0, cells := 0, slots := 0, locals := 0 }) : ∀ (n nn : Nat) (M : Mem) (x0 : Nat) (x1 : Int32) (res : Nat × Mem), qX3_clearRow_l2 n nn M x0 x1 = some res → GC G (QmC G (Pcc res.1 res.2) 0 0) nn 0 0 2 [(1, .int x1), (0, rv G.1 x0)] [] M := by
  intro n
  induction n with
  | zero => intro nn M x0 x1 res zf; rw [qX3_clearRow_l2] at zf; cases zf
  | succ n ih =>
    intro nn M x0 x1 res zf
    rw [qX3_clearRow_l2] at zf
    obtain ⟨⟨zk, zl⟩, zf⟩ := pre_ck zf
    refine h_iload_n h 0 rfl dX3_clearRow_2 ?_
    refine h_aload_n h 1 rfl dX3_clearRow_3 ?_
    refine h_ilen h (ln x0) (z := Int32.ofNat (ln x0)) zk zl rfl rfl dX3_clearRow_4 ?_
    refine h_ic_ge h 18 (by decide) zf dX3_clearRow_5 (fun zf => ?_) (fun zf => ?_)
    · obtain rfl := Option.some.inj zf
      exact h_vret h rfl ⟨rfl, rfl⟩ (Nat.le_of_ble_eq_true rfl) (Nat.le_of_ble_eq_true rfl) dX3_clearRow_18
    · refine h_aload_n h 1 rfl dX3_clearRow_8 ?_
      refine h_iload_n h 0 rfl dX3_clearRow_9 ?_
      refine h_iconst h 0 (v := 0) (by decide) dX3_clearRow_10 ?_
      refine h_iast h (ln x0) zk zl rfl zf dX3_clearRow_11 (fun M1 zf => ?_)
      refine h_iinc h 1 0 rfl (v := x1 + 1) (congrArg (fun z => x1 + z) (by decide : Int32.ofInt (1) = (1 : Int32))) [(1, .int (x1 + 1)), (0, rv G.1 x0)] (by decide) rfl dX3_clearRow_12 ?_
      refine h_goto h 2 (by decide) dX3_clearRow_15 ?_
      exact ih nn M1 x0 _ _ zf
theorem kcX3_clearRow {G : GX} (h : OKm G cX3_clearRow RX3 2 none { frames := 0, cells := 0, slots := 0, locals := 0 }) (hi : G.2.2.2.2.2.2.2.2.2.1.name = yX3_clearRow.name) {nn : Nat} {M : Mem} {x0 : Nat} {res : Nat × Mem} (zf : qX3_clearRow nn M x0 = some res) : GC G (QmC G (Pcc res.1 res.2) 0 0) nn 0 0 0 [(0, rv G.1 x0)] [] M := by
  refine h_iconst h 0 (v := 0) (by decide) dX3_clearRow_0 ?_
  refine h_istore_n h rfl [(1, .int 0), (0, rv G.1 x0)] (by decide) rfl dX3_clearRow_1 ?_
  exact kcX3_clearRow_l2 h 20 _ _ _ _ _ zf
theorem ccX3_clearRow {l : Launch} {w : WX} {nn : Nat} {M : Mem} {x0 : Nat} {res : Nat × Mem} (zf : qX3_clearRow nn M x0 = some res) : CC l w yX3_clearRow cX3_clearRow 2 { frames := 0, cells := 0, slots := 0, locals := 0 } 0 0 [rv w x0] nn M (Pcc res.1 res.2) := by
  refine CC_of (by decide) (Nat.le_of_ble_eq_true rfl) (fun G hw hl h hi => ?_)
  subst hw
  exact kcX3_clearRow h hi zf

-- X3_found
def qX3_found (nn : Nat) (M : Mem) (x0 : Nat) : Option (Nat × Mem) :=
  ck (kd x0 = 2 ∧ x0 < nn) <|
  pu (sI M x0 0 50) fun M1 =>
  ck (kd x0 = 2 ∧ x0 < nn) <|
  pu (sI M1 x0 1 20) fun M2 =>
  ck (kd x0 = 2 ∧ x0 < nn) <|
  pu (sI M2 x0 2 0) fun M3 =>
  ck (kd x0 = 2 ∧ x0 < nn) <|
  pu (sI M3 x0 3 0) fun M4 =>
  ck (kd x0 = 2 ∧ x0 < nn) <|
  pu (sI M4 x0 4 0) fun M5 =>
  ck (kd x0 = 2 ∧ x0 < nn) <|
  pu (sI M5 x0 5 0) fun M6 =>
  ck (kd x0 = 2 ∧ x0 < nn) <|
  pu (sI M6 x0 6 0) fun M7 =>
  ck (kd x0 = 2 ∧ x0 < nn) <|
  pu (sI M7 x0 7 0) fun M8 =>
  ck (kd x0 = 2 ∧ x0 < nn) <|
  pu (sI M8 x0 8 1) fun M9 =>
  ck (kd x0 = 2 ∧ x0 < nn) <|
  ldR M9 x0 9 fun o10 =>
  b3 (qX3_clearRow nn M9 o10) fun n11 M12 =>
  ck (kd x0 = 2 ∧ x0 < n11) <|
  ldR M12 x0 10 fun o13 =>
  b3 (qX3_clearRow n11 M12 o13) fun n14 M15 =>
  ck (kd x0 = 2 ∧ x0 < n14) <|
  ldR M15 x0 11 fun o16 =>
  b3 (qX3_clearRow n14 M15 o16) fun n17 M18 =>
  ck (kd x0 = 2 ∧ x0 < n17) <|
  ldR M18 x0 12 fun o19 =>
  b3 (qX3_clearRow n17 M18 o19) fun n20 M21 =>
  some (n20, M21)
theorem kcX3_found {G : GX} (h : OKm G cX3_found RX3 1 none { frames := 1, cells := 0, slots := 0, locals := 21 }) (hi : G.2.2.2.2.2.2.2.2.2.1.name = yX3_found.name) {nn : Nat} {M : Mem} {x0 : Nat} {res : Nat × Mem} (zf : qX3_found nn M x0 = some res) : GC G (QmC G (Pcc res.1 res.2) 0 0) nn 0 0 0 [(0, rv G.1 x0)] [] M := by
  unfold qX3_found at zf
  refine h_aload_n h 0 rfl dX3_found_0 ?_
  refine h_bipush h 50 (v := 50) (by decide) dX3_found_1 ?_
  obtain ⟨⟨zk, zl⟩, zf⟩ := pre_ck zf
  refine hpX3_27 h zk zl dX3_found_3 ?_
  refine h_nmM zf (fun M1 zf => ?_)
  refine h_aload_n h 0 rfl dX3_found_6 ?_
  refine h_bipush h 20 (v := 20) (by decide) dX3_found_7 ?_
  obtain ⟨⟨zk, zl⟩, zf⟩ := pre_ck zf
  refine hpX3_31 h zk zl dX3_found_9 ?_
  refine h_nmM zf (fun M2 zf => ?_)
  refine h_aload_n h 0 rfl dX3_found_12 ?_
  refine h_iconst h 0 (v := 0) (by decide) dX3_found_13 ?_
  obtain ⟨⟨zk, zl⟩, zf⟩ := pre_ck zf
  refine hpX3_34 h zk zl dX3_found_14 ?_
  refine h_nmM zf (fun M3 zf => ?_)
  refine h_aload_n h 0 rfl dX3_found_17 ?_
  refine h_iconst h 0 (v := 0) (by decide) dX3_found_18 ?_
  obtain ⟨⟨zk, zl⟩, zf⟩ := pre_ck zf
  refine hpX3_37 h zk zl dX3_found_19 ?_
  refine h_nmM zf (fun M4 zf => ?_)
  refine h_aload_n h 0 rfl dX3_found_22 ?_
  refine h_iconst h 0 (v := 0) (by decide) dX3_found_23 ?_
  obtain ⟨⟨zk, zl⟩, zf⟩ := pre_ck zf
  refine hpX3_40 h zk zl dX3_found_24 ?_
  refine h_nmM zf (fun M5 zf => ?_)
  refine h_aload_n h 0 rfl dX3_found_27 ?_
  refine h_iconst h 0 (v := 0) (by decide) dX3_found_28 ?_
  obtain ⟨⟨zk, zl⟩, zf⟩ := pre_ck zf
  refine hpX3_43 h zk zl dX3_found_29 ?_
  refine h_nmM zf (fun M6 zf => ?_)
  refine h_aload_n h 0 rfl dX3_found_32 ?_
  refine h_iconst h 0 (v := 0) (by decide) dX3_found_33 ?_
  obtain ⟨⟨zk, zl⟩, zf⟩ := pre_ck zf
  refine hpX3_46 h zk zl dX3_found_34 ?_
  refine h_nmM zf (fun M7 zf => ?_)
  refine h_aload_n h 0 rfl dX3_found_37 ?_
  refine h_iconst h 0 (v := 0) (by decide) dX3_found_38 ?_
  obtain ⟨⟨zk, zl⟩, zf⟩ := pre_ck zf
  refine hpX3_49 h zk zl dX3_found_39 ?_
  refine h_nmM zf (fun M8 zf => ?_)
  refine h_aload_n h 0 rfl dX3_found_42 ?_
  refine h_iconst h 1 (v := 1) (by decide) dX3_found_43 ?_
  obtain ⟨⟨zk, zl⟩, zf⟩ := pre_ck zf
  refine hpX3_52 h zk zl dX3_found_44 ?_
  refine h_nmM zf (fun M9 zf => ?_)
  refine h_aload_n h 0 rfl dX3_found_47 ?_
  obtain ⟨⟨zk, zl⟩, zf⟩ := pre_ck zf
  refine hgX3_9 h zk zl zf dX3_found_48 (fun o10 zf => ?_)
  obtain ⟨n11, M12, zq, zf⟩ := b3_some zf
  refine h_callS (As := [rv G.1 o10]) (rest := []) h ceX3_clearRow mlX3_55 smX3_clearRow rfl rfl ⟨Nat.le_of_ble_eq_true rfl, Nat.le_of_ble_eq_true rfl⟩ ⟨Nat.le_of_ble_eq_true rfl, Nat.le_of_ble_eq_true rfl⟩ rfl dX3_found_51 rfl (Nat.le_of_ble_eq_true rfl) (ccX3_clearRow zq) (fun zn1 zM1 zp => ?_)
  obtain ⟨z1, z2⟩ := zp
  replace z1 := z1.symm
  replace z2 := z2.symm
  subst z1
  subst z2
  clear zq
  refine h_aload_n h 0 rfl dX3_found_54 ?_
  obtain ⟨⟨zk, zl⟩, zf⟩ := pre_ck zf
  refine hgX3_15 h zk zl zf dX3_found_55 (fun o13 zf => ?_)
  obtain ⟨n14, M15, zq, zf⟩ := b3_some zf
  refine h_callS (As := [rv G.1 o13]) (rest := []) h ceX3_clearRow mlX3_55 smX3_clearRow rfl rfl ⟨Nat.le_of_ble_eq_true rfl, Nat.le_of_ble_eq_true rfl⟩ ⟨Nat.le_of_ble_eq_true rfl, Nat.le_of_ble_eq_true rfl⟩ rfl dX3_found_58 rfl (Nat.le_of_ble_eq_true rfl) (ccX3_clearRow zq) (fun zn1 zM1 zp => ?_)
  obtain ⟨z1, z2⟩ := zp
  replace z1 := z1.symm
  replace z2 := z2.symm
  subst z1
  subst z2
  clear zq
  refine h_aload_n h 0 rfl dX3_found_61 ?_
  obtain ⟨⟨zk, zl⟩, zf⟩ := pre_ck zf
  refine hgX3_18 h zk zl zf dX3_found_62 (fun o16 zf => ?_)
  obtain ⟨n17, M18, zq, zf⟩ := b3_some zf
  refine h_callS (As := [rv G.1 o16]) (rest := []) h ceX3_clearRow mlX3_55 smX3_clearRow rfl rfl ⟨Nat.le_of_ble_eq_true rfl, Nat.le_of_ble_eq_true rfl⟩ ⟨Nat.le_of_ble_eq_true rfl, Nat.le_of_ble_eq_true rfl⟩ rfl dX3_found_65 rfl (Nat.le_of_ble_eq_true rfl) (ccX3_clearRow zq) (fun zn1 zM1 zp => ?_)
  obtain ⟨z1, z2⟩ := zp
  replace z1 := z1.symm
  replace z2 := z2.symm
  subst z1
  subst z2
  clear zq
  refine h_aload_n h 0 rfl dX3_found_68 ?_
  obtain ⟨⟨zk, zl⟩, zf⟩ := pre_ck zf
  refine hgX3_21 h zk zl zf dX3_found_69 (fun o19 zf => ?_)
  obtain ⟨n20, M21, zq, zf⟩ := b3_some zf
  refine h_callS (As := [rv G.1 o19]) (rest := []) h ceX3_clearRow mlX3_55 smX3_clearRow rfl rfl ⟨Nat.le_of_ble_eq_true rfl, Nat.le_of_ble_eq_true rfl⟩ ⟨Nat.le_of_ble_eq_true rfl, Nat.le_of_ble_eq_true rfl⟩ rfl dX3_found_72 rfl (Nat.le_of_ble_eq_true rfl) (ccX3_clearRow zq) (fun zn1 zM1 zp => ?_)
  obtain ⟨z1, z2⟩ := zp
  replace z1 := z1.symm
  replace z2 := z2.symm
  subst z1
  subst z2
  clear zq
  obtain rfl := Option.some.inj zf
  exact h_vret h rfl ⟨rfl, rfl⟩ (Nat.le_of_ble_eq_true rfl) (Nat.le_of_ble_eq_true rfl) dX3_found_75
theorem ccX3_found {l : Launch} {w : WX} {nn : Nat} {M : Mem} {x0 : Nat} {res : Nat × Mem} (zf : qX3_found nn M x0 = some res) : CC l w yX3_found cX3_found 1 { frames := 1, cells := 0, slots := 0, locals := 21 } 0 0 [rv w x0] nn M (Pcc res.1 res.2) := by
  refine CC_of (by decide) (Nat.le_of_ble_eq_true rfl) (fun G hw hl h hi => ?_)
  subst hw
  exact kcX3_found h hi zf

-- X3_init
def qX3_init (nn : Nat) (M : Mem) (x0 : Nat) : Option (Nat × Mem) :=
  ck (x0 < KN) <|
  ck (kd nn = 20 ∧ ln nn = 2 ∧ nn < KN) <|
  pu (z3 M nn) fun M1 =>
  ck (kd x0 = 2 ∧ x0 < nn + 1) <|
  pu (sR M1 x0 9 (nn + 1)) fun M2 =>
  ck (kd (nn + 1) = 20 ∧ ln (nn + 1) = 2 ∧ (nn + 1) < KN) <|
  pu (z3 M2 (nn + 1)) fun M3 =>
  ck (kd x0 = 2 ∧ x0 < nn + 1 + 1) <|
  pu (sR M3 x0 10 ((nn + 1) + 1)) fun M4 =>
  ck (kd (nn + 1 + 1) = 20 ∧ ln (nn + 1 + 1) = 12 ∧ (nn + 1 + 1) < KN) <|
  pu (z3 M4 (nn + 1 + 1)) fun M5 =>
  ck (kd x0 = 2 ∧ x0 < nn + 1 + 1 + 1) <|
  pu (sR M5 x0 11 ((nn + 1 + 1) + 1)) fun M6 =>
  ck (kd (nn + 1 + 1 + 1) = 20 ∧ ln (nn + 1 + 1 + 1) = 6 ∧ (nn + 1 + 1 + 1) < KN) <|
  pu (z3 M6 (nn + 1 + 1 + 1)) fun M7 =>
  ck (kd x0 = 2 ∧ x0 < nn + 1 + 1 + 1 + 1) <|
  pu (sR M7 x0 12 ((nn + 1 + 1 + 1) + 1)) fun M8 =>
  ck (kd x0 = 2 ∧ x0 < nn + 1 + 1 + 1 + 1 ∧ x0 < KN) <|
  b3 (qX3_found (nn + 1 + 1 + 1 + 1) M8 x0) fun n9 M10 =>
  some (n9, M10)
theorem kcX3_init {G : GX} (h : OKm G cX3_init RX3 1 none { frames := 2, cells := 4, slots := 22, locals := 41 }) (hi : G.2.2.2.2.2.2.2.2.2.1.name = yX3_init.name) {nn : Nat} {M : Mem} {x0 : Nat} {res : Nat × Mem} (zf : qX3_init nn M x0 = some res) : GC G (QmC G (Pcc res.1 res.2) 4 22) nn 0 0 0 [(0, rv G.1 x0)] [] M := by
  unfold qX3_init at zf
  refine h_aload_n h 0 rfl dX3_init_0 ?_
  obtain ⟨zl, zf⟩ := pre_ck zf
  refine h_obj h zl mlX3_3 imObj ceObj (Nat.le_of_ble_eq_true rfl) (Nat.le_of_ble_eq_true rfl) dX3_init_1 ?_
  refine h_aload_n h 0 rfl dX3_init_4 ?_
  refine h_iconst h 2 (v := 2) (by decide) dX3_init_5 ?_
  obtain ⟨⟨zk, zn, zl⟩, zf⟩ := pre_ck zf
  refine h_newI h 2 zl zk zn (by decide) (by decide) (by decide) arr_int (Nat.le_of_ble_eq_true rfl) (Nat.le_of_ble_eq_true rfl) dX3_init_6 ?_
  refine h_nmM zf (fun M1 zf => ?_)
  obtain ⟨⟨zk, zl⟩, zf⟩ := pre_ck zf
  refine hpX3_9 h zk zl hi dX3_init_8 ?_
  refine h_nmM zf (fun M2 zf => ?_)
  refine h_aload_n h 0 rfl dX3_init_11 ?_
  refine h_iconst h 2 (v := 2) (by decide) dX3_init_12 ?_
  obtain ⟨⟨zk, zn, zl⟩, zf⟩ := pre_ck zf
  refine h_newI h 2 zl zk zn (by decide) (by decide) (by decide) arr_int (Nat.le_of_ble_eq_true rfl) (Nat.le_of_ble_eq_true rfl) dX3_init_13 ?_
  refine h_nmM zf (fun M3 zf => ?_)
  obtain ⟨⟨zk, zl⟩, zf⟩ := pre_ck zf
  refine hpX3_15 h zk zl hi dX3_init_15 ?_
  refine h_nmM zf (fun M4 zf => ?_)
  refine h_aload_n h 0 rfl dX3_init_18 ?_
  refine h_bipush h 12 (v := 12) (by decide) dX3_init_19 ?_
  obtain ⟨⟨zk, zn, zl⟩, zf⟩ := pre_ck zf
  refine h_newI h 12 zl zk zn (by decide) (by decide) (by decide) arr_int (Nat.le_of_ble_eq_true rfl) (Nat.le_of_ble_eq_true rfl) dX3_init_21 ?_
  refine h_nmM zf (fun M5 zf => ?_)
  obtain ⟨⟨zk, zl⟩, zf⟩ := pre_ck zf
  refine hpX3_18 h zk zl hi dX3_init_23 ?_
  refine h_nmM zf (fun M6 zf => ?_)
  refine h_aload_n h 0 rfl dX3_init_26 ?_
  refine h_bipush h 6 (v := 6) (by decide) dX3_init_27 ?_
  obtain ⟨⟨zk, zn, zl⟩, zf⟩ := pre_ck zf
  refine h_newI h 6 zl zk zn (by decide) (by decide) (by decide) arr_int (Nat.le_of_ble_eq_true rfl) (Nat.le_of_ble_eq_true rfl) dX3_init_29 ?_
  refine h_nmM zf (fun M7 zf => ?_)
  obtain ⟨⟨zk, zl⟩, zf⟩ := pre_ck zf
  refine hpX3_21 h zk zl hi dX3_init_31 ?_
  refine h_nmM zf (fun M8 zf => ?_)
  refine h_aload_n h 0 rfl dX3_init_34 ?_
  obtain ⟨⟨zk, zl, zl2⟩, zf⟩ := pre_ck zf
  obtain ⟨n9, M10, zq, zf⟩ := b3_some zf
  refine h_callV (As := []) (rest := []) h ceX3_found mlX3_24 imX3_found seX3_found (by rfl) zl zl2 (entC_2 zk) rfl rfl ⟨Nat.le_of_ble_eq_true rfl, Nat.le_of_ble_eq_true rfl⟩ ⟨Nat.le_of_ble_eq_true rfl, Nat.le_of_ble_eq_true rfl⟩ rfl dX3_init_35 rfl (Nat.le_of_ble_eq_true rfl) (ccX3_found zq) (fun zn1 zM1 zp => ?_)
  obtain ⟨z1, z2⟩ := zp
  replace z1 := z1.symm
  replace z2 := z2.symm
  subst z1
  subst z2
  clear zq
  obtain rfl := Option.some.inj zf
  exact h_vret h rfl ⟨rfl, rfl⟩ (Nat.le_of_ble_eq_true rfl) (Nat.le_of_ble_eq_true rfl) dX3_init_38
theorem ccX3_init {l : Launch} {w : WX} {nn : Nat} {M : Mem} {x0 : Nat} {res : Nat × Mem} (zf : qX3_init nn M x0 = some res) : CC l w yX3_init cX3_init 1 { frames := 2, cells := 4, slots := 22, locals := 41 } 4 22 [rv w x0] nn M (Pcc res.1 res.2) := by
  refine CC_of (by decide) (Nat.le_of_ble_eq_true rfl) (fun G hw hl h hi => ?_)
  subst hw
  exact kcX3_init h hi zf

-- X4_init
def qX4_init (nn : Nat) (M : Mem) (x0 : Nat) : Option (Nat × Mem) :=
  ck (x0 < KN) <|
  ck (kd x0 = 3 ∧ x0 < nn) <|
  pu (sI M x0 0 0) fun M1 =>
  ck (kd nn = 20 ∧ ln nn = 7 ∧ nn < KN) <|
  pu (z3 M1 nn) fun M2 =>
  ck (kd x0 = 3 ∧ x0 < nn + 1) <|
  pu (sR M2 x0 1 (nn + 1)) fun M3 =>
  ck (kd (nn + 1) = 20 ∧ ln (nn + 1) = 7 ∧ (nn + 1) < KN) <|
  pu (z3 M3 (nn + 1)) fun M4 =>
  ck (kd x0 = 3 ∧ x0 < nn + 1 + 1) <|
  pu (sR M4 x0 2 ((nn + 1) + 1)) fun M5 =>
  some (nn + 1 + 1, M5)
theorem kcX4_init {G : GX} (h : OKm G cX4_init RX4 1 none { frames := 1, cells := 2, slots := 14, locals := 40 }) (hi : G.2.2.2.2.2.2.2.2.2.1.name = yX4_init.name) {nn : Nat} {M : Mem} {x0 : Nat} {res : Nat × Mem} (zf : qX4_init nn M x0 = some res) : GC G (QmC G (Pcc res.1 res.2) 2 14) nn 0 0 0 [(0, rv G.1 x0)] [] M := by
  unfold qX4_init at zf
  refine h_aload_n h 0 rfl dX4_init_0 ?_
  obtain ⟨zl, zf⟩ := pre_ck zf
  refine h_obj h zl mlX4_3 imObj ceObj (Nat.le_of_ble_eq_true rfl) (Nat.le_of_ble_eq_true rfl) dX4_init_1 ?_
  refine h_aload_n h 0 rfl dX4_init_4 ?_
  refine h_iconst h 0 (v := 0) (by decide) dX4_init_5 ?_
  obtain ⟨⟨zk, zl⟩, zf⟩ := pre_ck zf
  refine hpX4_9 h zk zl dX4_init_6 ?_
  refine h_nmM zf (fun M1 zf => ?_)
  refine h_aload_n h 0 rfl dX4_init_9 ?_
  refine h_bipush h 7 (v := 7) (by decide) dX4_init_10 ?_
  obtain ⟨⟨zk, zn, zl⟩, zf⟩ := pre_ck zf
  refine h_newI h 7 zl zk zn (by decide) (by decide) (by decide) arr_int (Nat.le_of_ble_eq_true rfl) (Nat.le_of_ble_eq_true rfl) dX4_init_12 ?_
  refine h_nmM zf (fun M2 zf => ?_)
  obtain ⟨⟨zk, zl⟩, zf⟩ := pre_ck zf
  refine hpX4_15 h zk zl hi dX4_init_14 ?_
  refine h_nmM zf (fun M3 zf => ?_)
  refine h_aload_n h 0 rfl dX4_init_17 ?_
  refine h_bipush h 7 (v := 7) (by decide) dX4_init_18 ?_
  obtain ⟨⟨zk, zn, zl⟩, zf⟩ := pre_ck zf
  refine h_newI h 7 zl zk zn (by decide) (by decide) (by decide) arr_int (Nat.le_of_ble_eq_true rfl) (Nat.le_of_ble_eq_true rfl) dX4_init_20 ?_
  refine h_nmM zf (fun M4 zf => ?_)
  obtain ⟨⟨zk, zl⟩, zf⟩ := pre_ck zf
  refine hpX4_19 h zk zl hi dX4_init_22 ?_
  refine h_nmM zf (fun M5 zf => ?_)
  obtain rfl := Option.some.inj zf
  exact h_vret h rfl ⟨rfl, rfl⟩ (Nat.le_of_ble_eq_true rfl) (Nat.le_of_ble_eq_true rfl) dX4_init_25
theorem ccX4_init {l : Launch} {w : WX} {nn : Nat} {M : Mem} {x0 : Nat} {res : Nat × Mem} (zf : qX4_init nn M x0 = some res) : CC l w yX4_init cX4_init 1 { frames := 1, cells := 2, slots := 14, locals := 40 } 2 14 [rv w x0] nn M (Pcc res.1 res.2) := by
  refine CC_of (by decide) (Nat.le_of_ble_eq_true rfl) (fun G hw hl h hi => ?_)
  subst hw
  exact kcX4_init h hi zf

-- X8_init
def qX8_init (nn : Nat) (M : Mem) (x0 : Nat) (x1 : Nat) : Option (Nat × Mem) :=
  ck (x0 < KN) <|
  ck (kd x0 = 7 ∧ x0 < nn) <|
  pu (sI M x0 1 0) fun M1 =>
  ck (kd x0 = 7 ∧ x0 < nn) <|
  pu (sI M1 x0 2 0) fun M2 =>
  ck (kd x0 = 7 ∧ x0 < nn) <|
  pu (sI M2 x0 3 0) fun M3 =>
  ck (kd x0 = 7 ∧ x0 < nn) <|
  pu (sR M3 x0 0 (x1 + 1)) fun M4 =>
  some (nn, M4)
theorem kcX8_init {G : GX} (h : OKm G cX8_init RX8 2 none { frames := 1, cells := 0, slots := 0, locals := 40 }) (hi : G.2.2.2.2.2.2.2.2.2.1.name = yX8_init.name) {nn : Nat} {M : Mem} {x0 : Nat} {x1 : Nat} {res : Nat × Mem} (zf : qX8_init nn M x0 x1 = some res) : GC G (QmC G (Pcc res.1 res.2) 0 0) nn 0 0 0 [(0, rv G.1 x0), (1, rv G.1 x1)] [] M := by
  unfold qX8_init at zf
  refine h_aload_n h 0 rfl dX8_init_0 ?_
  obtain ⟨zl, zf⟩ := pre_ck zf
  refine h_obj h zl mlX8_1 imObj ceObj (Nat.le_of_ble_eq_true rfl) (Nat.le_of_ble_eq_true rfl) dX8_init_1 ?_
  refine h_aload_n h 0 rfl dX8_init_4 ?_
  refine h_iconst h 0 (v := 0) (by decide) dX8_init_5 ?_
  obtain ⟨⟨zk, zl⟩, zf⟩ := pre_ck zf
  refine hpX8_7 h zk zl dX8_init_6 ?_
  refine h_nmM zf (fun M1 zf => ?_)
  refine h_aload_n h 0 rfl dX8_init_9 ?_
  refine h_iconst h 0 (v := 0) (by decide) dX8_init_10 ?_
  obtain ⟨⟨zk, zl⟩, zf⟩ := pre_ck zf
  refine hpX8_13 h zk zl dX8_init_11 ?_
  refine h_nmM zf (fun M2 zf => ?_)
  refine h_aload_n h 0 rfl dX8_init_14 ?_
  refine h_iconst h 0 (v := 0) (by decide) dX8_init_15 ?_
  obtain ⟨⟨zk, zl⟩, zf⟩ := pre_ck zf
  refine hpX8_16 h zk zl (by decide) dX8_init_16 ?_
  refine h_nmM zf (fun M3 zf => ?_)
  refine h_aload_n h 0 rfl dX8_init_19 ?_
  refine h_aload_n h 1 rfl dX8_init_20 ?_
  obtain ⟨⟨zk, zl⟩, zf⟩ := pre_ck zf
  refine hpX8_20 h zk zl hi dX8_init_21 ?_
  refine h_nmM zf (fun M4 zf => ?_)
  obtain rfl := Option.some.inj zf
  exact h_vret h rfl ⟨rfl, rfl⟩ (Nat.le_of_ble_eq_true rfl) (Nat.le_of_ble_eq_true rfl) dX8_init_24
theorem ccX8_init {l : Launch} {w : WX} {nn : Nat} {M : Mem} {x0 : Nat} {x1 : Nat} {res : Nat × Mem} (zf : qX8_init nn M x0 x1 = some res) : CC l w yX8_init cX8_init 2 { frames := 1, cells := 0, slots := 0, locals := 40 } 0 0 [rv w x0, rv w x1] nn M (Pcc res.1 res.2) := by
  refine CC_of (by decide) (Nat.le_of_ble_eq_true rfl) (fun G hw hl h hi => ?_)
  subst hw
  exact kcX8_init h hi zf

-- X5_init
def qX5_init (nn : Nat) (M : Mem) (x0 : Nat) : Option (Nat × Mem) :=
  ck (x0 < KN) <|
  ck (kd x0 = 4 ∧ x0 < nn) <|
  pu (sI M x0 0 0) fun M1 =>
  ck (kd nn = 20 ∧ ln nn = 7 ∧ nn < KN) <|
  pu (z3 M1 nn) fun M2 =>
  ck (kd x0 = 4 ∧ x0 < nn + 1) <|
  pu (sR M2 x0 1 (nn + 1)) fun M3 =>
  ck (kd (nn + 1) = 20 ∧ ln (nn + 1) = 7 ∧ (nn + 1) < KN) <|
  pu (z3 M3 (nn + 1)) fun M4 =>
  ck (kd x0 = 4 ∧ x0 < nn + 1 + 1) <|
  pu (sR M4 x0 2 ((nn + 1) + 1)) fun M5 =>
  ck (kd (nn + 1 + 1) = 20 ∧ ln (nn + 1 + 1) = 7 ∧ (nn + 1 + 1) < KN) <|
  pu (z3 M5 (nn + 1 + 1)) fun M6 =>
  ck (kd x0 = 4 ∧ x0 < nn + 1 + 1 + 1) <|
  pu (sR M6 x0 3 ((nn + 1 + 1) + 1)) fun M7 =>
  ck (kd (nn + 1 + 1 + 1) = 20 ∧ ln (nn + 1 + 1 + 1) = 7 ∧ (nn + 1 + 1 + 1) < KN) <|
  pu (z3 M7 (nn + 1 + 1 + 1)) fun M8 =>
  ck (kd x0 = 4 ∧ x0 < nn + 1 + 1 + 1 + 1) <|
  pu (sR M8 x0 4 ((nn + 1 + 1 + 1) + 1)) fun M9 =>
  ck (kd (nn + 1 + 1 + 1 + 1) = 20 ∧ ln (nn + 1 + 1 + 1 + 1) = 2 ∧ (nn + 1 + 1 + 1 + 1) < KN) <|
  pu (z3 M9 (nn + 1 + 1 + 1 + 1)) fun M10 =>
  ck (kd x0 = 4 ∧ x0 < nn + 1 + 1 + 1 + 1 + 1) <|
  pu (sR M10 x0 5 ((nn + 1 + 1 + 1 + 1) + 1)) fun M11 =>
  ck (kd x0 = 4 ∧ x0 < nn + 1 + 1 + 1 + 1 + 1) <|
  pu (sI M11 x0 6 0) fun M12 =>
  ck (kd (nn + 1 + 1 + 1 + 1 + 1) = 20 ∧ ln (nn + 1 + 1 + 1 + 1 + 1) = 10 ∧ (nn + 1 + 1 + 1 + 1 + 1) < KN) <|
  pu (z3 M12 (nn + 1 + 1 + 1 + 1 + 1)) fun M13 =>
  ck (kd x0 = 4 ∧ x0 < nn + 1 + 1 + 1 + 1 + 1 + 1) <|
  pu (sR M13 x0 7 ((nn + 1 + 1 + 1 + 1 + 1) + 1)) fun M14 =>
  ck (kd x0 = 4 ∧ x0 < nn + 1 + 1 + 1 + 1 + 1 + 1) <|
  pu (sI M14 x0 8 0) fun M15 =>
  ck (kd (nn + 1 + 1 + 1 + 1 + 1 + 1) = 20 ∧ ln (nn + 1 + 1 + 1 + 1 + 1 + 1) = 6 ∧ (nn + 1 + 1 + 1 + 1 + 1 + 1) < KN) <|
  pu (z3 M15 (nn + 1 + 1 + 1 + 1 + 1 + 1)) fun M16 =>
  ck (kd x0 = 4 ∧ x0 < nn + 1 + 1 + 1 + 1 + 1 + 1 + 1) <|
  pu (sR M16 x0 9 ((nn + 1 + 1 + 1 + 1 + 1 + 1) + 1)) fun M17 =>
  ck (kd (nn + 1 + 1 + 1 + 1 + 1 + 1 + 1) = 3 ∧ (nn + 1 + 1 + 1 + 1 + 1 + 1 + 1) < KN) <|
  pu (z3 M17 (nn + 1 + 1 + 1 + 1 + 1 + 1 + 1)) fun M18 =>
  ck (kd (nn + 1 + 1 + 1 + 1 + 1 + 1 + 1) = 3 ∧ (nn + 1 + 1 + 1 + 1 + 1 + 1 + 1) < nn + 1 + 1 + 1 + 1 + 1 + 1 + 1 + 1 ∧ (nn + 1 + 1 + 1 + 1 + 1 + 1 + 1) < KN) <|
  b3 (qX4_init (nn + 1 + 1 + 1 + 1 + 1 + 1 + 1 + 1) M18 (nn + 1 + 1 + 1 + 1 + 1 + 1 + 1)) fun n19 M20 =>
  ck (kd x0 = 4 ∧ x0 < n19) <|
  pu (sR M20 x0 10 ((nn + 1 + 1 + 1 + 1 + 1 + 1 + 1) + 1)) fun M21 =>
  ck (kd n19 = 3 ∧ n19 < KN) <|
  pu (z3 M21 n19) fun M22 =>
  ck (kd n19 = 3 ∧ n19 < n19 + 1 ∧ n19 < KN) <|
  b3 (qX4_init (n19 + 1) M22 n19) fun n23 M24 =>
  ck (kd x0 = 4 ∧ x0 < n23) <|
  pu (sR M24 x0 11 (n19 + 1)) fun M25 =>
  ck (kd n23 = 20 ∧ ln n23 = 700 ∧ n23 < KN) <|
  pu (z3 M25 n23) fun M26 =>
  ck (kd (n23 + 1) = 7 ∧ (n23 + 1) < KN) <|
  pu (z3 M26 (n23 + 1)) fun M27 =>
  ck (kd (n23 + 1) = 7 ∧ (n23 + 1) < n23 + 1 + 1 ∧ (n23 + 1) < KN) <|
  b3 (qX8_init (n23 + 1 + 1) M27 (n23 + 1) n23) fun n28 M29 =>
  ck (kd x0 = 4 ∧ x0 < n28) <|
  pu (sR M29 x0 12 ((n23 + 1) + 1)) fun M30 =>
  ck (kd n28 = 7 ∧ n28 < KN) <|
  pu (z3 M30 n28) fun M31 =>
  ck (kd n28 = 7 ∧ n28 < n28 + 1 ∧ n28 < KN) <|
  b3 (qX8_init (n28 + 1) M31 n28 n23) fun n32 M33 =>
  ck (kd x0 = 4 ∧ x0 < n32) <|
  pu (sR M33 x0 13 (n28 + 1)) fun M34 =>
  some (n32, M34)
theorem kcX5_init {G : GX} (h : OKm G cX5_init RX5 2 none { frames := 2, cells := 16, slots := 788, locals := 61 }) (hi : G.2.2.2.2.2.2.2.2.2.1.name = yX5_init.name) {nn : Nat} {M : Mem} {x0 : Nat} {res : Nat × Mem} (zf : qX5_init nn M x0 = some res) : GC G (QmC G (Pcc res.1 res.2) 16 788) nn 0 0 0 [(0, rv G.1 x0)] [] M := by
  unfold qX5_init at zf
  refine h_aload_n h 0 rfl dX5_init_0 ?_
  obtain ⟨zl, zf⟩ := pre_ck zf
  refine h_obj h zl mlX5_3 imObj ceObj (Nat.le_of_ble_eq_true rfl) (Nat.le_of_ble_eq_true rfl) dX5_init_1 ?_
  refine h_aload_n h 0 rfl dX5_init_4 ?_
  refine h_iconst h 0 (v := 0) (by decide) dX5_init_5 ?_
  obtain ⟨⟨zk, zl⟩, zf⟩ := pre_ck zf
  refine hpX5_9 h zk zl dX5_init_6 ?_
  refine h_nmM zf (fun M1 zf => ?_)
  refine h_aload_n h 0 rfl dX5_init_9 ?_
  refine h_bipush h 7 (v := 7) (by decide) dX5_init_10 ?_
  obtain ⟨⟨zk, zn, zl⟩, zf⟩ := pre_ck zf
  refine h_newI h 7 zl zk zn (by decide) (by decide) (by decide) arr_int (Nat.le_of_ble_eq_true rfl) (Nat.le_of_ble_eq_true rfl) dX5_init_12 ?_
  refine h_nmM zf (fun M2 zf => ?_)
  obtain ⟨⟨zk, zl⟩, zf⟩ := pre_ck zf
  refine hpX5_15 h zk zl hi dX5_init_14 ?_
  refine h_nmM zf (fun M3 zf => ?_)
  refine h_aload_n h 0 rfl dX5_init_17 ?_
  refine h_bipush h 7 (v := 7) (by decide) dX5_init_18 ?_
  obtain ⟨⟨zk, zn, zl⟩, zf⟩ := pre_ck zf
  refine h_newI h 7 zl zk zn (by decide) (by decide) (by decide) arr_int (Nat.le_of_ble_eq_true rfl) (Nat.le_of_ble_eq_true rfl) dX5_init_20 ?_
  refine h_nmM zf (fun M4 zf => ?_)
  obtain ⟨⟨zk, zl⟩, zf⟩ := pre_ck zf
  refine hpX5_19 h zk zl hi dX5_init_22 ?_
  refine h_nmM zf (fun M5 zf => ?_)
  refine h_aload_n h 0 rfl dX5_init_25 ?_
  refine h_bipush h 7 (v := 7) (by decide) dX5_init_26 ?_
  obtain ⟨⟨zk, zn, zl⟩, zf⟩ := pre_ck zf
  refine h_newI h 7 zl zk zn (by decide) (by decide) (by decide) arr_int (Nat.le_of_ble_eq_true rfl) (Nat.le_of_ble_eq_true rfl) dX5_init_28 ?_
  refine h_nmM zf (fun M6 zf => ?_)
  obtain ⟨⟨zk, zl⟩, zf⟩ := pre_ck zf
  refine hpX5_22 h zk zl hi dX5_init_30 ?_
  refine h_nmM zf (fun M7 zf => ?_)
  refine h_aload_n h 0 rfl dX5_init_33 ?_
  refine h_bipush h 7 (v := 7) (by decide) dX5_init_34 ?_
  obtain ⟨⟨zk, zn, zl⟩, zf⟩ := pre_ck zf
  refine h_newI h 7 zl zk zn (by decide) (by decide) (by decide) arr_int (Nat.le_of_ble_eq_true rfl) (Nat.le_of_ble_eq_true rfl) dX5_init_36 ?_
  refine h_nmM zf (fun M8 zf => ?_)
  obtain ⟨⟨zk, zl⟩, zf⟩ := pre_ck zf
  refine hpX5_25 h zk zl hi dX5_init_38 ?_
  refine h_nmM zf (fun M9 zf => ?_)
  refine h_aload_n h 0 rfl dX5_init_41 ?_
  refine h_iconst h 2 (v := 2) (by decide) dX5_init_42 ?_
  obtain ⟨⟨zk, zn, zl⟩, zf⟩ := pre_ck zf
  refine h_newI h 2 zl zk zn (by decide) (by decide) (by decide) arr_int (Nat.le_of_ble_eq_true rfl) (Nat.le_of_ble_eq_true rfl) dX5_init_43 ?_
  refine h_nmM zf (fun M10 zf => ?_)
  obtain ⟨⟨zk, zl⟩, zf⟩ := pre_ck zf
  refine hpX5_28 h zk zl hi dX5_init_45 ?_
  refine h_nmM zf (fun M11 zf => ?_)
  refine h_aload_n h 0 rfl dX5_init_48 ?_
  refine h_iconst h 0 (v := 0) (by decide) dX5_init_49 ?_
  obtain ⟨⟨zk, zl⟩, zf⟩ := pre_ck zf
  refine hpX5_31 h zk zl dX5_init_50 ?_
  refine h_nmM zf (fun M12 zf => ?_)
  refine h_aload_n h 0 rfl dX5_init_53 ?_
  refine h_bipush h 10 (v := 10) (by decide) dX5_init_54 ?_
  obtain ⟨⟨zk, zn, zl⟩, zf⟩ := pre_ck zf
  refine h_newI h 10 zl zk zn (by decide) (by decide) (by decide) arr_int (Nat.le_of_ble_eq_true rfl) (Nat.le_of_ble_eq_true rfl) dX5_init_56 ?_
  refine h_nmM zf (fun M13 zf => ?_)
  obtain ⟨⟨zk, zl⟩, zf⟩ := pre_ck zf
  refine hpX5_34 h zk zl hi dX5_init_58 ?_
  refine h_nmM zf (fun M14 zf => ?_)
  refine h_aload_n h 0 rfl dX5_init_61 ?_
  refine h_iconst h 0 (v := 0) (by decide) dX5_init_62 ?_
  obtain ⟨⟨zk, zl⟩, zf⟩ := pre_ck zf
  refine hpX5_37 h zk zl dX5_init_63 ?_
  refine h_nmM zf (fun M15 zf => ?_)
  refine h_aload_n h 0 rfl dX5_init_66 ?_
  refine h_bipush h 6 (v := 6) (by decide) dX5_init_67 ?_
  obtain ⟨⟨zk, zn, zl⟩, zf⟩ := pre_ck zf
  refine h_newI h 6 zl zk zn (by decide) (by decide) (by decide) arr_int (Nat.le_of_ble_eq_true rfl) (Nat.le_of_ble_eq_true rfl) dX5_init_69 ?_
  refine h_nmM zf (fun M16 zf => ?_)
  obtain ⟨⟨zk, zl⟩, zf⟩ := pre_ck zf
  refine hpX5_40 h zk zl hi dX5_init_71 ?_
  refine h_nmM zf (fun M17 zf => ?_)
  refine h_aload_n h 0 rfl dX5_init_74 ?_
  obtain ⟨⟨zk, zl⟩, zf⟩ := pre_ck zf
  refine hnX5_43 h zl zk (Nat.le_of_ble_eq_true rfl) (Nat.le_of_ble_eq_true rfl) dX5_init_75 ?_
  refine h_nmM zf (fun M18 zf => ?_)
  refine h_dup h rfl dX5_init_78 ?_
  obtain ⟨⟨zk, zl, zl2⟩, zf⟩ := pre_ck zf
  obtain ⟨n19, M20, zq, zf⟩ := b3_some zf
  refine h_callIN (As := []) (rest := [rv G.1 (nn + 1 + 1 + 1 + 1 + 1 + 1 + 1), rv G.1 x0]) h ceX4_init "TurnBrothers" (by decide +kernel) imX4_init rfl zl2 rfl rfl ⟨Nat.le_of_ble_eq_true rfl, Nat.le_of_ble_eq_true rfl⟩ ⟨Nat.le_of_ble_eq_true rfl, Nat.le_of_ble_eq_true rfl⟩ rfl dX5_init_79 rfl (Nat.le_of_ble_eq_true rfl) (ccX4_init zq) (fun zn1 zM1 zp => ?_)
  obtain ⟨z1, z2⟩ := zp
  replace z1 := z1.symm
  replace z2 := z2.symm
  subst z1
  subst z2
  clear zq
  obtain ⟨⟨zk, zl⟩, zf⟩ := pre_ck zf
  refine hpX5_46 h zk zl hi dX5_init_82 ?_
  refine h_nmM zf (fun M21 zf => ?_)
  refine h_aload_n h 0 rfl dX5_init_85 ?_
  obtain ⟨⟨zk, zl⟩, zf⟩ := pre_ck zf
  refine hnX5_43 h zl zk (Nat.le_of_ble_eq_true rfl) (Nat.le_of_ble_eq_true rfl) dX5_init_86 ?_
  refine h_nmM zf (fun M22 zf => ?_)
  refine h_dup h rfl dX5_init_89 ?_
  obtain ⟨⟨zk, zl, zl2⟩, zf⟩ := pre_ck zf
  obtain ⟨n23, M24, zq, zf⟩ := b3_some zf
  refine h_callIN (As := []) (rest := [rv G.1 n19, rv G.1 x0]) h ceX4_init "TurnBrothers" (by decide +kernel) imX4_init rfl zl2 rfl rfl ⟨Nat.le_of_ble_eq_true rfl, Nat.le_of_ble_eq_true rfl⟩ ⟨Nat.le_of_ble_eq_true rfl, Nat.le_of_ble_eq_true rfl⟩ rfl dX5_init_90 rfl (Nat.le_of_ble_eq_true rfl) (ccX4_init zq) (fun zn1 zM1 zp => ?_)
  obtain ⟨z1, z2⟩ := zp
  replace z1 := z1.symm
  replace z2 := z2.symm
  subst z1
  subst z2
  clear zq
  obtain ⟨⟨zk, zl⟩, zf⟩ := pre_ck zf
  refine hpX5_50 h zk zl hi dX5_init_93 ?_
  refine h_nmM zf (fun M25 zf => ?_)
  refine h_sipush h 700 (v := 700) (by decide) dX5_init_96 ?_
  obtain ⟨⟨zk, zn, zl⟩, zf⟩ := pre_ck zf
  refine h_newI h 700 zl zk zn (by decide) (by decide) (by decide) arr_int (Nat.le_of_ble_eq_true rfl) (Nat.le_of_ble_eq_true rfl) dX5_init_99 ?_
  refine h_nmM zf (fun M26 zf => ?_)
  refine h_astore_n h rfl [(1, rv G.1 n23), (0, rv G.1 x0)] (by decide) rfl dX5_init_101 ?_
  refine h_aload_n h 1 rfl dX5_init_102 ?_
  obtain ⟨⟨zk, zl⟩, zf⟩ := pre_ck zf
  refine hnX5_53 h zl zk (Nat.le_of_ble_eq_true rfl) (Nat.le_of_ble_eq_true rfl) dX5_init_103 ?_
  refine h_nmM zf (fun M27 zf => ?_)
  refine h_dup h rfl dX5_init_106 ?_
  refine h_aload_n h 0 rfl dX5_init_107 ?_
  obtain ⟨⟨zk, zl, zl2⟩, zf⟩ := pre_ck zf
  obtain ⟨n28, M29, zq, zf⟩ := b3_some zf
  refine h_callI (As := [rv G.1 n23]) (rest := [rv G.1 (n23 + 1), rv G.1 x0]) h ceX8_init mlX5_55 imX8_init rfl zl2 rfl rfl ⟨Nat.le_of_ble_eq_true rfl, Nat.le_of_ble_eq_true rfl⟩ ⟨Nat.le_of_ble_eq_true rfl, Nat.le_of_ble_eq_true rfl⟩ rfl dX5_init_108 rfl (Nat.le_of_ble_eq_true rfl) (ccX8_init zq) (fun zn1 zM1 zp => ?_)
  obtain ⟨z1, z2⟩ := zp
  replace z1 := z1.symm
  replace z2 := z2.symm
  subst z1
  subst z2
  clear zq
  obtain ⟨⟨zk, zl⟩, zf⟩ := pre_ck zf
  refine hpX5_58 h zk zl hi dX5_init_111 ?_
  refine h_nmM zf (fun M30 zf => ?_)
  refine h_aload_n h 1 rfl dX5_init_114 ?_
  obtain ⟨⟨zk, zl⟩, zf⟩ := pre_ck zf
  refine hnX5_53 h zl zk (Nat.le_of_ble_eq_true rfl) (Nat.le_of_ble_eq_true rfl) dX5_init_115 ?_
  refine h_nmM zf (fun M31 zf => ?_)
  refine h_dup h rfl dX5_init_118 ?_
  refine h_aload_n h 0 rfl dX5_init_119 ?_
  obtain ⟨⟨zk, zl, zl2⟩, zf⟩ := pre_ck zf
  obtain ⟨n32, M33, zq, zf⟩ := b3_some zf
  refine h_callI (As := [rv G.1 n23]) (rest := [rv G.1 n28, rv G.1 x0]) h ceX8_init mlX5_55 imX8_init rfl zl2 rfl rfl ⟨Nat.le_of_ble_eq_true rfl, Nat.le_of_ble_eq_true rfl⟩ ⟨Nat.le_of_ble_eq_true rfl, Nat.le_of_ble_eq_true rfl⟩ rfl dX5_init_120 rfl (Nat.le_of_ble_eq_true rfl) (ccX8_init zq) (fun zn1 zM1 zp => ?_)
  obtain ⟨z1, z2⟩ := zp
  replace z1 := z1.symm
  replace z2 := z2.symm
  subst z1
  subst z2
  clear zq
  obtain ⟨⟨zk, zl⟩, zf⟩ := pre_ck zf
  refine hpX5_62 h zk zl hi dX5_init_123 ?_
  refine h_nmM zf (fun M34 zf => ?_)
  obtain rfl := Option.some.inj zf
  exact h_vret h rfl ⟨rfl, rfl⟩ (Nat.le_of_ble_eq_true rfl) (Nat.le_of_ble_eq_true rfl) dX5_init_126
theorem ccX5_init {l : Launch} {w : WX} {nn : Nat} {M : Mem} {x0 : Nat} {res : Nat × Mem} (zf : qX5_init nn M x0 = some res) : CC l w yX5_init cX5_init 2 { frames := 2, cells := 16, slots := 788, locals := 61 } 16 788 [rv w x0] nn M (Pcc res.1 res.2) := by
  refine CC_of (by decide) (Nat.le_of_ble_eq_true rfl) (fun G hw hl h hi => ?_)
  subst hw
  exact kcX5_init h hi zf

-- X10_init
def qX10_init (nn : Nat) (M : Mem) (x0 : Nat) (x1 : Nat) : Option (Nat × Mem) :=
  ck (x0 < KN) <|
  ck (kd x0 = 9 ∧ x0 < nn) <|
  pu (sI M x0 1 0) fun M1 =>
  ck (kd x0 = 9 ∧ x0 < nn) <|
  pu (sI M1 x0 2 0) fun M2 =>
  ck (kd x0 = 9 ∧ x0 < nn) <|
  pu (sI M2 x0 3 0) fun M3 =>
  ck (kd x0 = 9 ∧ x0 < nn) <|
  pu (sI M3 x0 4 0) fun M4 =>
  ck (kd x0 = 9 ∧ x0 < nn) <|
  pu (sI M4 x0 5 0) fun M5 =>
  ck (kd x0 = 9 ∧ x0 < nn) <|
  pu (sR M5 x0 6 (1022 + 1)) fun M6 =>
  ck (kd x0 = 9 ∧ x0 < nn) <|
  pu (sR M6 x0 0 (x1 + 1)) fun M7 =>
  some (nn, M7)
theorem kcX10_init {G : GX} (h : OKm G cX10_init RX10 2 none { frames := 1, cells := 0, slots := 0, locals := 40 }) (hi : G.2.2.2.2.2.2.2.2.2.1.name = yX10_init.name) {nn : Nat} {M : Mem} {x0 : Nat} {x1 : Nat} {res : Nat × Mem} (zf : qX10_init nn M x0 x1 = some res) : GC G (QmC G (Pcc res.1 res.2) 0 0) nn 0 0 0 [(0, rv G.1 x0), (1, rv G.1 x1)] [] M := by
  unfold qX10_init at zf
  refine h_aload_n h 0 rfl dX10_init_0 ?_
  obtain ⟨zl, zf⟩ := pre_ck zf
  refine h_obj h zl mlX10_1 imObj ceObj (Nat.le_of_ble_eq_true rfl) (Nat.le_of_ble_eq_true rfl) dX10_init_1 ?_
  refine h_aload_n h 0 rfl dX10_init_4 ?_
  refine h_iconst h 0 (v := 0) (by decide) dX10_init_5 ?_
  obtain ⟨⟨zk, zl⟩, zf⟩ := pre_ck zf
  refine hpX10_7 h zk zl dX10_init_6 ?_
  refine h_nmM zf (fun M1 zf => ?_)
  refine h_aload_n h 0 rfl dX10_init_9 ?_
  refine h_iconst h 0 (v := 0) (by decide) dX10_init_10 ?_
  obtain ⟨⟨zk, zl⟩, zf⟩ := pre_ck zf
  refine hpX10_13 h zk zl dX10_init_11 ?_
  refine h_nmM zf (fun M2 zf => ?_)
  refine h_aload_n h 0 rfl dX10_init_14 ?_
  refine h_iconst h 0 (v := 0) (by decide) dX10_init_15 ?_
  obtain ⟨⟨zk, zl⟩, zf⟩ := pre_ck zf
  refine hpX10_16 h zk zl dX10_init_16 ?_
  refine h_nmM zf (fun M3 zf => ?_)
  refine h_aload_n h 0 rfl dX10_init_19 ?_
  refine h_iconst h 0 (v := 0) (by decide) dX10_init_20 ?_
  obtain ⟨⟨zk, zl⟩, zf⟩ := pre_ck zf
  refine hpX10_19 h zk zl dX10_init_21 ?_
  refine h_nmM zf (fun M4 zf => ?_)
  refine h_aload_n h 0 rfl dX10_init_24 ?_
  refine h_iconst h 0 (v := 0) (by decide) dX10_init_25 ?_
  obtain ⟨⟨zk, zl⟩, zf⟩ := pre_ck zf
  refine hpX10_22 h zk zl dX10_init_26 ?_
  refine h_nmM zf (fun M5 zf => ?_)
  refine h_aload_n h 0 rfl dX10_init_29 ?_
  refine h_gsE h 22 (by decide) flX10_25 dX10_init_30 ?_
  change GC G _ _ _ _ _ _ (rv G.1 1022 :: _) _
  obtain ⟨⟨zk, zl⟩, zf⟩ := pre_ck zf
  refine hpX10_31 h zk zl dX10_init_33 ?_
  refine h_nmM zf (fun M6 zf => ?_)
  refine h_aload_n h 0 rfl dX10_init_36 ?_
  refine h_aload_n h 1 rfl dX10_init_37 ?_
  obtain ⟨⟨zk, zl⟩, zf⟩ := pre_ck zf
  refine hpX10_34 h zk zl hi dX10_init_38 ?_
  refine h_nmM zf (fun M7 zf => ?_)
  obtain rfl := Option.some.inj zf
  exact h_vret h rfl ⟨rfl, rfl⟩ (Nat.le_of_ble_eq_true rfl) (Nat.le_of_ble_eq_true rfl) dX10_init_41
theorem ccX10_init {l : Launch} {w : WX} {nn : Nat} {M : Mem} {x0 : Nat} {x1 : Nat} {res : Nat × Mem} (zf : qX10_init nn M x0 x1 = some res) : CC l w yX10_init cX10_init 2 { frames := 1, cells := 0, slots := 0, locals := 40 } 0 0 [rv w x0, rv w x1] nn M (Pcc res.1 res.2) := by
  refine CC_of (by decide) (Nat.le_of_ble_eq_true rfl) (fun G hw hl h hi => ?_)
  subst hw
  exact kcX10_init h hi zf

-- X6_init
def qX6_init (nn : Nat) (M : Mem) (x0 : Nat) (x1 : Nat) : Option (Nat × Mem) :=
  ck (x0 < KN) <|
  ck (kd nn = 4 ∧ nn < KN) <|
  pu (z3 M nn) fun M1 =>
  ck (kd nn = 4 ∧ nn < nn + 1 ∧ nn < KN) <|
  b3 (qX5_init (nn + 1) M1 nn) fun n2 M3 =>
  ck (kd x0 = 5 ∧ x0 < n2) <|
  pu (sR M3 x0 1 (nn + 1)) fun M4 =>
  ck (kd n2 = 2 ∧ n2 < KN) <|
  pu (z3 M4 n2) fun M5 =>
  ck (kd n2 = 2 ∧ n2 < n2 + 1 ∧ n2 < KN) <|
  b3 (qX3_init (n2 + 1) M5 n2) fun n6 M7 =>
  ck (kd x0 = 5 ∧ x0 < n6) <|
  pu (sR M7 x0 2 (n2 + 1)) fun M8 =>
  ck (kd x0 = 5 ∧ x0 < n6) <|
  pu (sI M8 x0 3 0) fun M9 =>
  ck (kd x0 = 5 ∧ x0 < n6) <|
  pu (sI M9 x0 4 0) fun M10 =>
  ck (kd x0 = 5 ∧ x0 < n6) <|
  pu (sI M10 x0 5 0) fun M11 =>
  ck (kd n6 = 20 ∧ ln n6 = 4 ∧ n6 < KN) <|
  pu (z3 M11 n6) fun M12 =>
  ck (kd x0 = 5 ∧ x0 < n6 + 1) <|
  pu (sR M12 x0 6 (n6 + 1)) fun M13 =>
  ck (kd (n6 + 1) = 9 ∧ (n6 + 1) < KN) <|
  pu (z3 M13 (n6 + 1)) fun M14 =>
  ck (kd (n6 + 1) = 9 ∧ (n6 + 1) < n6 + 1 + 1 ∧ (n6 + 1) < KN) <|
  b3 (qX10_init (n6 + 1 + 1) M14 (n6 + 1) x1) fun n15 M16 =>
  ck (kd x0 = 5 ∧ x0 < n15) <|
  pu (sR M16 x0 0 ((n6 + 1) + 1)) fun M17 =>
  ck (kd x0 = 5 ∧ x0 < n15) <|
  ldR M17 x0 1 fun o18 =>
  ck (kd o18 = 4 ∧ o18 < n15) <|
  ldR M17 o18 12 fun o19 =>
  ck (kd x0 = 5 ∧ x0 < n15) <|
  pu (sR M17 x0 7 (o19 + 1)) fun M20 =>
  some (n15, M20)
theorem kcX6_init {G : GX} (h : OKm G cX6_init RX6 2 none { frames := 3, cells := 24, slots := 848, locals := 82 }) (hi : G.2.2.2.2.2.2.2.2.2.1.name = yX6_init.name) {nn : Nat} {M : Mem} {x0 : Nat} {x1 : Nat} {res : Nat × Mem} (zf : qX6_init nn M x0 x1 = some res) : GC G (QmC G (Pcc res.1 res.2) 24 848) nn 0 0 0 [(0, rv G.1 x0), (1, rv G.1 x1)] [] M := by
  unfold qX6_init at zf
  refine h_aload_n h 0 rfl dX6_init_0 ?_
  obtain ⟨zl, zf⟩ := pre_ck zf
  refine h_obj h zl mlX6_3 imObj ceObj (Nat.le_of_ble_eq_true rfl) (Nat.le_of_ble_eq_true rfl) dX6_init_1 ?_
  refine h_aload_n h 0 rfl dX6_init_4 ?_
  obtain ⟨⟨zk, zl⟩, zf⟩ := pre_ck zf
  refine hnX6_9 h zl zk (Nat.le_of_ble_eq_true rfl) (Nat.le_of_ble_eq_true rfl) dX6_init_5 ?_
  refine h_nmM zf (fun M1 zf => ?_)
  refine h_dup h rfl dX6_init_8 ?_
  obtain ⟨⟨zk, zl, zl2⟩, zf⟩ := pre_ck zf
  obtain ⟨n2, M3, zq, zf⟩ := b3_some zf
  refine h_callI (As := []) (rest := [rv G.1 nn, rv G.1 x0]) h ceX5_init mlX6_11 imX5_init rfl zl2 rfl rfl ⟨Nat.le_of_ble_eq_true rfl, Nat.le_of_ble_eq_true rfl⟩ ⟨Nat.le_of_ble_eq_true rfl, Nat.le_of_ble_eq_true rfl⟩ rfl dX6_init_9 rfl (Nat.le_of_ble_eq_true rfl) (ccX5_init zq) (fun zn1 zM1 zp => ?_)
  obtain ⟨z1, z2⟩ := zp
  replace z1 := z1.symm
  replace z2 := z2.symm
  subst z1
  subst z2
  clear zq
  obtain ⟨⟨zk, zl⟩, zf⟩ := pre_ck zf
  refine hpX6_12 h zk zl dX6_init_12 ?_
  refine h_nmM zf (fun M4 zf => ?_)
  refine h_aload_n h 0 rfl dX6_init_15 ?_
  obtain ⟨⟨zk, zl⟩, zf⟩ := pre_ck zf
  refine hnX6_18 h zl zk (Nat.le_of_ble_eq_true rfl) (Nat.le_of_ble_eq_true rfl) dX6_init_16 ?_
  refine h_nmM zf (fun M5 zf => ?_)
  refine h_dup h rfl dX6_init_19 ?_
  obtain ⟨⟨zk, zl, zl2⟩, zf⟩ := pre_ck zf
  obtain ⟨n6, M7, zq, zf⟩ := b3_some zf
  refine h_callI (As := []) (rest := [rv G.1 n2, rv G.1 x0]) h ceX3_init mlX6_20 imX3_init rfl zl2 rfl rfl ⟨Nat.le_of_ble_eq_true rfl, Nat.le_of_ble_eq_true rfl⟩ ⟨Nat.le_of_ble_eq_true rfl, Nat.le_of_ble_eq_true rfl⟩ rfl dX6_init_20 rfl (Nat.le_of_ble_eq_true rfl) (ccX3_init zq) (fun zn1 zM1 zp => ?_)
  obtain ⟨z1, z2⟩ := zp
  replace z1 := z1.symm
  replace z2 := z2.symm
  subst z1
  subst z2
  clear zq
  obtain ⟨⟨zk, zl⟩, zf⟩ := pre_ck zf
  refine hpX6_21 h zk zl hi dX6_init_23 ?_
  refine h_nmM zf (fun M8 zf => ?_)
  refine h_aload_n h 0 rfl dX6_init_26 ?_
  refine h_iconst h 0 (v := 0) (by decide) dX6_init_27 ?_
  obtain ⟨⟨zk, zl⟩, zf⟩ := pre_ck zf
  refine hpX6_25 h zk zl dX6_init_28 ?_
  refine h_nmM zf (fun M9 zf => ?_)
  refine h_aload_n h 0 rfl dX6_init_31 ?_
  refine h_iconst h 0 (v := 0) (by decide) dX6_init_32 ?_
  obtain ⟨⟨zk, zl⟩, zf⟩ := pre_ck zf
  refine hpX6_29 h zk zl dX6_init_33 ?_
  refine h_nmM zf (fun M10 zf => ?_)
  refine h_aload_n h 0 rfl dX6_init_36 ?_
  refine h_iconst h 0 (v := 0) (by decide) dX6_init_37 ?_
  obtain ⟨⟨zk, zl⟩, zf⟩ := pre_ck zf
  refine hpX6_32 h zk zl dX6_init_38 ?_
  refine h_nmM zf (fun M11 zf => ?_)
  refine h_aload_n h 0 rfl dX6_init_41 ?_
  refine h_iconst h 4 (v := 4) (by decide) dX6_init_42 ?_
  obtain ⟨⟨zk, zn, zl⟩, zf⟩ := pre_ck zf
  refine h_newI h 4 zl zk zn (by decide) (by decide) (by decide) arr_int (Nat.le_of_ble_eq_true rfl) (Nat.le_of_ble_eq_true rfl) dX6_init_43 ?_
  refine h_nmM zf (fun M12 zf => ?_)
  obtain ⟨⟨zk, zl⟩, zf⟩ := pre_ck zf
  refine hpX6_35 h zk zl hi dX6_init_45 ?_
  refine h_nmM zf (fun M13 zf => ?_)
  refine h_aload_n h 0 rfl dX6_init_48 ?_
  obtain ⟨⟨zk, zl⟩, zf⟩ := pre_ck zf
  refine hnX6_39 h zl zk (Nat.le_of_ble_eq_true rfl) (Nat.le_of_ble_eq_true rfl) dX6_init_49 ?_
  refine h_nmM zf (fun M14 zf => ?_)
  refine h_dup h rfl dX6_init_52 ?_
  refine h_aload_n h 1 rfl dX6_init_53 ?_
  obtain ⟨⟨zk, zl, zl2⟩, zf⟩ := pre_ck zf
  obtain ⟨n15, M16, zq, zf⟩ := b3_some zf
  refine h_callI (As := [rv G.1 x1]) (rest := [rv G.1 (n6 + 1), rv G.1 x0]) h ceX10_init mlX6_41 imX10_init rfl zl2 rfl rfl ⟨Nat.le_of_ble_eq_true rfl, Nat.le_of_ble_eq_true rfl⟩ ⟨Nat.le_of_ble_eq_true rfl, Nat.le_of_ble_eq_true rfl⟩ rfl dX6_init_54 rfl (Nat.le_of_ble_eq_true rfl) (ccX10_init zq) (fun zn1 zM1 zp => ?_)
  obtain ⟨z1, z2⟩ := zp
  replace z1 := z1.symm
  replace z2 := z2.symm
  subst z1
  subst z2
  clear zq
  obtain ⟨⟨zk, zl⟩, zf⟩ := pre_ck zf
  refine hpX6_44 h zk zl hi dX6_init_57 ?_
  refine h_nmM zf (fun M17 zf => ?_)
  refine h_aload_n h 0 rfl dX6_init_60 ?_
  refine h_aload_n h 0 rfl dX6_init_61 ?_
  obtain ⟨⟨zk, zl⟩, zf⟩ := pre_ck zf
  refine hgX6_12 h zk zl zf dX6_init_62 (fun o18 zf => ?_)
  obtain ⟨⟨zk, zl⟩, zf⟩ := pre_ck zf
  refine hgX6_48 h zk zl zf dX6_init_65 (fun o19 zf => ?_)
  obtain ⟨⟨zk, zl⟩, zf⟩ := pre_ck zf
  refine hpX6_52 h zk zl dX6_init_68 ?_
  refine h_nmM zf (fun M20 zf => ?_)
  obtain rfl := Option.some.inj zf
  exact h_vret h rfl ⟨rfl, rfl⟩ (Nat.le_of_ble_eq_true rfl) (Nat.le_of_ble_eq_true rfl) dX6_init_71
theorem ccX6_init {l : Launch} {w : WX} {nn : Nat} {M : Mem} {x0 : Nat} {x1 : Nat} {res : Nat × Mem} (zf : qX6_init nn M x0 x1 = some res) : CC l w yX6_init cX6_init 2 { frames := 3, cells := 24, slots := 848, locals := 82 } 24 848 [rv w x0, rv w x1] nn M (Pcc res.1 res.2) := by
  refine CC_of (by decide) (Nat.le_of_ble_eq_true rfl) (fun G hw hl h hi => ?_)
  subst hw
  exact kcX6_init h hi zf

-- X7_init
def qX7_init (nn : Nat) (M : Mem) (x0 : Nat) : Option (Nat × Mem) :=
  ck (x0 < KN) <|
  ck (kd nn = 4 ∧ nn < KN) <|
  pu (z3 M nn) fun M1 =>
  ck (kd nn = 4 ∧ nn < nn + 1 ∧ nn < KN) <|
  b3 (qX5_init (nn + 1) M1 nn) fun n2 M3 =>
  ck (kd x0 = 6 ∧ x0 < n2) <|
  pu (sR M3 x0 0 (nn + 1)) fun M4 =>
  ck (kd n2 = 20 ∧ ln n2 = 6 ∧ n2 < KN) <|
  pu (z3 M4 n2) fun M5 =>
  ck (kd x0 = 6 ∧ x0 < n2 + 1) <|
  pu (sR M5 x0 1 (n2 + 1)) fun M6 =>
  ck (kd (n2 + 1) = 20 ∧ ln (n2 + 1) = 6 ∧ (n2 + 1) < KN) <|
  pu (z3 M6 (n2 + 1)) fun M7 =>
  ck (kd x0 = 6 ∧ x0 < n2 + 1 + 1) <|
  pu (sR M7 x0 2 ((n2 + 1) + 1)) fun M8 =>
  ck (kd (n2 + 1 + 1) = 20 ∧ ln (n2 + 1 + 1) = 40 ∧ (n2 + 1 + 1) < KN) <|
  pu (z3 M8 (n2 + 1 + 1)) fun M9 =>
  ck (kd x0 = 6 ∧ x0 < n2 + 1 + 1 + 1) <|
  pu (sR M9 x0 3 ((n2 + 1 + 1) + 1)) fun M10 =>
  some (n2 + 1 + 1 + 1, M10)
theorem kcX7_init {G : GX} (h : OKm G cX7_init RX7 1 none { frames := 3, cells := 20, slots := 854, locals := 82 }) (hi : G.2.2.2.2.2.2.2.2.2.1.name = yX7_init.name) {nn : Nat} {M : Mem} {x0 : Nat} {res : Nat × Mem} (zf : qX7_init nn M x0 = some res) : GC G (QmC G (Pcc res.1 res.2) 20 854) nn 0 0 0 [(0, rv G.1 x0)] [] M := by
  unfold qX7_init at zf
  refine h_aload_n h 0 rfl dX7_init_0 ?_
  obtain ⟨zl, zf⟩ := pre_ck zf
  refine h_obj h zl mlX7_3 imObj ceObj (Nat.le_of_ble_eq_true rfl) (Nat.le_of_ble_eq_true rfl) dX7_init_1 ?_
  refine h_aload_n h 0 rfl dX7_init_4 ?_
  obtain ⟨⟨zk, zl⟩, zf⟩ := pre_ck zf
  refine hnX7_9 h zl zk (Nat.le_of_ble_eq_true rfl) (Nat.le_of_ble_eq_true rfl) dX7_init_5 ?_
  refine h_nmM zf (fun M1 zf => ?_)
  refine h_dup h rfl dX7_init_8 ?_
  obtain ⟨⟨zk, zl, zl2⟩, zf⟩ := pre_ck zf
  obtain ⟨n2, M3, zq, zf⟩ := b3_some zf
  refine h_callI (As := []) (rest := [rv G.1 nn, rv G.1 x0]) h ceX5_init mlX7_11 imX5_init rfl zl2 rfl rfl ⟨Nat.le_of_ble_eq_true rfl, Nat.le_of_ble_eq_true rfl⟩ ⟨Nat.le_of_ble_eq_true rfl, Nat.le_of_ble_eq_true rfl⟩ rfl dX7_init_9 rfl (Nat.le_of_ble_eq_true rfl) (ccX5_init zq) (fun zn1 zM1 zp => ?_)
  obtain ⟨z1, z2⟩ := zp
  replace z1 := z1.symm
  replace z2 := z2.symm
  subst z1
  subst z2
  clear zq
  obtain ⟨⟨zk, zl⟩, zf⟩ := pre_ck zf
  refine hpX7_12 h zk zl dX7_init_12 ?_
  refine h_nmM zf (fun M4 zf => ?_)
  refine h_aload_n h 0 rfl dX7_init_15 ?_
  refine h_bipush h 6 (v := 6) (by decide) dX7_init_16 ?_
  obtain ⟨⟨zk, zn, zl⟩, zf⟩ := pre_ck zf
  refine h_newI h 6 zl zk zn (by decide) (by decide) (by decide) arr_int (Nat.le_of_ble_eq_true rfl) (Nat.le_of_ble_eq_true rfl) dX7_init_18 ?_
  refine h_nmM zf (fun M5 zf => ?_)
  obtain ⟨⟨zk, zl⟩, zf⟩ := pre_ck zf
  refine hpX7_20 h zk zl hi dX7_init_20 ?_
  refine h_nmM zf (fun M6 zf => ?_)
  refine h_aload_n h 0 rfl dX7_init_23 ?_
  refine h_bipush h 6 (v := 6) (by decide) dX7_init_24 ?_
  obtain ⟨⟨zk, zn, zl⟩, zf⟩ := pre_ck zf
  refine h_newI h 6 zl zk zn (by decide) (by decide) (by decide) arr_int (Nat.le_of_ble_eq_true rfl) (Nat.le_of_ble_eq_true rfl) dX7_init_26 ?_
  refine h_nmM zf (fun M7 zf => ?_)
  obtain ⟨⟨zk, zl⟩, zf⟩ := pre_ck zf
  refine hpX7_24 h zk zl hi dX7_init_28 ?_
  refine h_nmM zf (fun M8 zf => ?_)
  refine h_aload_n h 0 rfl dX7_init_31 ?_
  refine h_bipush h 40 (v := 40) (by decide) dX7_init_32 ?_
  obtain ⟨⟨zk, zn, zl⟩, zf⟩ := pre_ck zf
  refine h_newI h 40 zl zk zn (by decide) (by decide) (by decide) arr_int (Nat.le_of_ble_eq_true rfl) (Nat.le_of_ble_eq_true rfl) dX7_init_34 ?_
  refine h_nmM zf (fun M9 zf => ?_)
  obtain ⟨⟨zk, zl⟩, zf⟩ := pre_ck zf
  refine hpX7_27 h zk zl hi dX7_init_36 ?_
  refine h_nmM zf (fun M10 zf => ?_)
  obtain rfl := Option.some.inj zf
  exact h_vret h rfl ⟨rfl, rfl⟩ (Nat.le_of_ble_eq_true rfl) (Nat.le_of_ble_eq_true rfl) dX7_init_39
theorem ccX7_init {l : Launch} {w : WX} {nn : Nat} {M : Mem} {x0 : Nat} {res : Nat × Mem} (zf : qX7_init nn M x0 = some res) : CC l w yX7_init cX7_init 1 { frames := 3, cells := 20, slots := 854, locals := 82 } 20 854 [rv w x0] nn M (Pcc res.1 res.2) := by
  refine CC_of (by decide) (Nat.le_of_ble_eq_true rfl) (fun G hw hl h hi => ?_)
  subst hw
  exact kcX7_init h hi zf

-- X2_init
def qX2_init (nn : Nat) (M : Mem) (x0 : Nat) (x1 : Nat) : Option (Nat × Mem) :=
  ck (x0 < KN) <|
  ck (kd nn = 2 ∧ nn < KN) <|
  pu (z3 M nn) fun M1 =>
  ck (kd nn = 2 ∧ nn < nn + 1 ∧ nn < KN) <|
  b3 (qX3_init (nn + 1) M1 nn) fun n2 M3 =>
  ck (kd x0 = 1 ∧ x0 < n2) <|
  pu (sR M3 x0 1 (nn + 1)) fun M4 =>
  ck (kd n2 = 24 ∧ ln n2 = 4 ∧ n2 < KN) <|
  pu (z3 M4 n2) fun M5 =>
  ck (kd x0 = 1 ∧ x0 < n2 + 1) <|
  pu (sR M5 x0 2 (n2 + 1)) fun M6 =>
  ck (kd x0 = 1 ∧ x0 < n2 + 1) <|
  pu (sI M6 x0 3 (-1)) fun M7 =>
  ck (kd (n2 + 1) = 20 ∧ ln (n2 + 1) = 30 ∧ (n2 + 1) < KN) <|
  pu (z3 M7 (n2 + 1)) fun M8 =>
  ck (kd x0 = 1 ∧ x0 < n2 + 1 + 1) <|
  pu (sR M8 x0 4 ((n2 + 1) + 1)) fun M9 =>
  ck (kd (n2 + 1 + 1) = 22 ∧ ln (n2 + 1 + 1) = 480 ∧ (n2 + 1 + 1) < KN) <|
  pu (z3 M9 (n2 + 1 + 1)) fun M10 =>
  ck (kd x0 = 1 ∧ x0 < n2 + 1 + 1 + 1) <|
  pu (sR M10 x0 5 ((n2 + 1 + 1) + 1)) fun M11 =>
  ck (kd (n2 + 1 + 1 + 1) = 20 ∧ ln (n2 + 1 + 1 + 1) = 30 ∧ (n2 + 1 + 1 + 1) < KN) <|
  pu (z3 M11 (n2 + 1 + 1 + 1)) fun M12 =>
  ck (kd x0 = 1 ∧ x0 < n2 + 1 + 1 + 1 + 1) <|
  pu (sR M12 x0 6 ((n2 + 1 + 1 + 1) + 1)) fun M13 =>
  ck (kd (n2 + 1 + 1 + 1 + 1) = 20 ∧ ln (n2 + 1 + 1 + 1 + 1) = 4 ∧ (n2 + 1 + 1 + 1 + 1) < KN) <|
  pu (z3 M13 (n2 + 1 + 1 + 1 + 1)) fun M14 =>
  ck (kd x0 = 1 ∧ x0 < n2 + 1 + 1 + 1 + 1 + 1) <|
  pu (sR M14 x0 7 ((n2 + 1 + 1 + 1 + 1) + 1)) fun M15 =>
  ck (kd (n2 + 1 + 1 + 1 + 1 + 1) = 20 ∧ ln (n2 + 1 + 1 + 1 + 1 + 1) = 4 ∧ (n2 + 1 + 1 + 1 + 1 + 1) < KN) <|
  pu (z3 M15 (n2 + 1 + 1 + 1 + 1 + 1)) fun M16 =>
  ck (kd x0 = 1 ∧ x0 < n2 + 1 + 1 + 1 + 1 + 1 + 1) <|
  pu (sR M16 x0 8 ((n2 + 1 + 1 + 1 + 1 + 1) + 1)) fun M17 =>
  ck (kd x0 = 1 ∧ x0 < n2 + 1 + 1 + 1 + 1 + 1 + 1) <|
  pu (sR M17 x0 0 (x1 + 1)) fun M18 =>
  ck (kd x0 = 1 ∧ x0 < n2 + 1 + 1 + 1 + 1 + 1 + 1) <|
  ldR M18 x0 2 fun o19 =>
  ck (kd o19 = 24 ∧ ln o19 = 4 ∧ o19 < n2 + 1 + 1 + 1 + 1 + 1 + 1) <|
  if (0 : Int32) < 4 then
  ck (kd x0 = 1 ∧ x0 < n2 + 1 + 1 + 1 + 1 + 1 + 1) <|
  ldR M18 x0 2 fun o20 =>
  ck (kd (n2 + 1 + 1 + 1 + 1 + 1 + 1) = 2 ∧ (n2 + 1 + 1 + 1 + 1 + 1 + 1) < KN) <|
  pu (z3 M18 (n2 + 1 + 1 + 1 + 1 + 1 + 1)) fun M21 =>
  ck (kd (n2 + 1 + 1 + 1 + 1 + 1 + 1) = 2 ∧ (n2 + 1 + 1 + 1 + 1 + 1 + 1) < n2 + 1 + 1 + 1 + 1 + 1 + 1 + 1 ∧ (n2 + 1 + 1 + 1 + 1 + 1 + 1) < KN) <|
  b3 (qX3_init (n2 + 1 + 1 + 1 + 1 + 1 + 1 + 1) M21 (n2 + 1 + 1 + 1 + 1 + 1 + 1)) fun n22 M23 =>
  ck (kd o20 = 24 ∧ ln o20 = 4 ∧ o20 < n22 ∧ kd (n2 + 1 + 1 + 1 + 1 + 1 + 1) = 2 ∧ (n2 + 1 + 1 + 1 + 1 + 1 + 1) < n22) <|
  stA M23 o20 4 0 (n2 + 1 + 1 + 1 + 1 + 1 + 1) fun M24 =>
  ck (kd x0 = 1 ∧ x0 < n22) <|
  ldR M24 x0 2 fun o25 =>
  ck (kd o25 = 24 ∧ ln o25 = 4 ∧ o25 < n22) <|
  if (1 : Int32) < 4 then
  ck (kd x0 = 1 ∧ x0 < n22) <|
  ldR M24 x0 2 fun o26 =>
  ck (kd n22 = 2 ∧ n22 < KN) <|
  pu (z3 M24 n22) fun M27 =>
  ck (kd n22 = 2 ∧ n22 < n22 + 1 ∧ n22 < KN) <|
  b3 (qX3_init (n22 + 1) M27 n22) fun n28 M29 =>
  ck (kd o26 = 24 ∧ ln o26 = 4 ∧ o26 < n28 ∧ kd n22 = 2 ∧ n22 < n28) <|
  stA M29 o26 4 1 n22 fun M30 =>
  ck (kd x0 = 1 ∧ x0 < n28) <|
  ldR M30 x0 2 fun o31 =>
  ck (kd o31 = 24 ∧ ln o31 = 4 ∧ o31 < n28) <|
  if (2 : Int32) < 4 then
  ck (kd x0 = 1 ∧ x0 < n28) <|
  ldR M30 x0 2 fun o32 =>
  ck (kd n28 = 2 ∧ n28 < KN) <|
  pu (z3 M30 n28) fun M33 =>
  ck (kd n28 = 2 ∧ n28 < n28 + 1 ∧ n28 < KN) <|
  b3 (qX3_init (n28 + 1) M33 n28) fun n34 M35 =>
  ck (kd o32 = 24 ∧ ln o32 = 4 ∧ o32 < n34 ∧ kd n28 = 2 ∧ n28 < n34) <|
  stA M35 o32 4 2 n28 fun M36 =>
  ck (kd x0 = 1 ∧ x0 < n34) <|
  ldR M36 x0 2 fun o37 =>
  ck (kd o37 = 24 ∧ ln o37 = 4 ∧ o37 < n34) <|
  if (3 : Int32) < 4 then
  ck (kd x0 = 1 ∧ x0 < n34) <|
  ldR M36 x0 2 fun o38 =>
  ck (kd n34 = 2 ∧ n34 < KN) <|
  pu (z3 M36 n34) fun M39 =>
  ck (kd n34 = 2 ∧ n34 < n34 + 1 ∧ n34 < KN) <|
  b3 (qX3_init (n34 + 1) M39 n34) fun n40 M41 =>
  ck (kd o38 = 24 ∧ ln o38 = 4 ∧ o38 < n40 ∧ kd n34 = 2 ∧ n34 < n40) <|
  stA M41 o38 4 3 n34 fun M42 =>
  ck (kd x0 = 1 ∧ x0 < n40) <|
  ldR M42 x0 2 fun o43 =>
  ck (kd o43 = 24 ∧ ln o43 = 4 ∧ o43 < n40) <|
  if (4 : Int32) < 4 then
    none
  else
  some (n40, M42)
  else none
  else none
  else none
  else none
theorem kcX2_init {G : GX} (h : OKm G cX2_init RX2 3 none { frames := 3, cells := 31, slots := 727, locals := 61 }) (hi : G.2.2.2.2.2.2.2.2.2.1.name = yX2_init.name) {nn : Nat} {M : Mem} {x0 : Nat} {x1 : Nat} {res : Nat × Mem} (zf : qX2_init nn M x0 x1 = some res) : GC G (QmC G (Pcc res.1 res.2) 31 727) nn 0 0 0 [(0, rv G.1 x0), (1, rv G.1 x1)] [] M := by
  unfold qX2_init at zf
  refine h_aload_n h 0 rfl dX2_init_0 ?_
  obtain ⟨zl, zf⟩ := pre_ck zf
  refine h_obj h zl mlX2_3 imObj ceObj (Nat.le_of_ble_eq_true rfl) (Nat.le_of_ble_eq_true rfl) dX2_init_1 ?_
  refine h_aload_n h 0 rfl dX2_init_4 ?_
  obtain ⟨⟨zk, zl⟩, zf⟩ := pre_ck zf
  refine hnX2_9 h zl zk (Nat.le_of_ble_eq_true rfl) (Nat.le_of_ble_eq_true rfl) dX2_init_5 ?_
  refine h_nmM zf (fun M1 zf => ?_)
  refine h_dup h rfl dX2_init_8 ?_
  obtain ⟨⟨zk, zl, zl2⟩, zf⟩ := pre_ck zf
  obtain ⟨n2, M3, zq, zf⟩ := b3_some zf
  refine h_callI (As := []) (rest := [rv G.1 nn, rv G.1 x0]) h ceX3_init mlX2_11 imX3_init rfl zl2 rfl rfl ⟨Nat.le_of_ble_eq_true rfl, Nat.le_of_ble_eq_true rfl⟩ ⟨Nat.le_of_ble_eq_true rfl, Nat.le_of_ble_eq_true rfl⟩ rfl dX2_init_9 rfl (Nat.le_of_ble_eq_true rfl) (ccX3_init zq) (fun zn1 zM1 zp => ?_)
  obtain ⟨z1, z2⟩ := zp
  replace z1 := z1.symm
  replace z2 := z2.symm
  subst z1
  subst z2
  clear zq
  obtain ⟨⟨zk, zl⟩, zf⟩ := pre_ck zf
  refine hpX2_12 h zk zl hi dX2_init_12 ?_
  refine h_nmM zf (fun M4 zf => ?_)
  refine h_aload_n h 0 rfl dX2_init_15 ?_
  refine h_iconst h 4 (v := 4) (by decide) dX2_init_16 ?_
  obtain ⟨⟨zk, zn, zl⟩, zf⟩ := pre_ck zf
  refine h_newq h 4 zl zk zn (by decide) (by decide) (by decide) clX2_9 (Nat.le_of_ble_eq_true rfl) (Nat.le_of_ble_eq_true rfl) dX2_init_17 ?_
  refine h_nmM zf (fun M5 zf => ?_)
  obtain ⟨⟨zk, zl⟩, zf⟩ := pre_ck zf
  refine hpX2_18 h zk zl hi dX2_init_20 ?_
  refine h_nmM zf (fun M6 zf => ?_)
  refine h_aload_n h 0 rfl dX2_init_23 ?_
  refine h_iconst h (-1) (v := (-1)) (by decide) dX2_init_24 ?_
  obtain ⟨⟨zk, zl⟩, zf⟩ := pre_ck zf
  refine hpX2_22 h zk zl dX2_init_25 ?_
  refine h_nmM zf (fun M7 zf => ?_)
  refine h_aload_n h 0 rfl dX2_init_28 ?_
  refine h_bipush h 30 (v := 30) (by decide) dX2_init_29 ?_
  obtain ⟨⟨zk, zn, zl⟩, zf⟩ := pre_ck zf
  refine h_newI h 30 zl zk zn (by decide) (by decide) (by decide) arr_int (Nat.le_of_ble_eq_true rfl) (Nat.le_of_ble_eq_true rfl) dX2_init_31 ?_
  refine h_nmM zf (fun M8 zf => ?_)
  obtain ⟨⟨zk, zl⟩, zf⟩ := pre_ck zf
  refine hpX2_26 h zk zl hi dX2_init_33 ?_
  refine h_nmM zf (fun M9 zf => ?_)
  refine h_aload_n h 0 rfl dX2_init_36 ?_
  refine h_sipush h 480 (v := 480) (by decide) dX2_init_37 ?_
  obtain ⟨⟨zk, zn, zl⟩, zf⟩ := pre_ck zf
  refine h_newJ h 480 zl zk zn (by decide) (by decide) (by decide) arr_long (Nat.le_of_ble_eq_true rfl) (Nat.le_of_ble_eq_true rfl) dX2_init_40 ?_
  refine h_nmM zf (fun M10 zf => ?_)
  obtain ⟨⟨zk, zl⟩, zf⟩ := pre_ck zf
  refine hpX2_30 h zk zl hi dX2_init_42 ?_
  refine h_nmM zf (fun M11 zf => ?_)
  refine h_aload_n h 0 rfl dX2_init_45 ?_
  refine h_bipush h 30 (v := 30) (by decide) dX2_init_46 ?_
  obtain ⟨⟨zk, zn, zl⟩, zf⟩ := pre_ck zf
  refine h_newI h 30 zl zk zn (by decide) (by decide) (by decide) arr_int (Nat.le_of_ble_eq_true rfl) (Nat.le_of_ble_eq_true rfl) dX2_init_48 ?_
  refine h_nmM zf (fun M12 zf => ?_)
  obtain ⟨⟨zk, zl⟩, zf⟩ := pre_ck zf
  refine hpX2_34 h zk zl hi dX2_init_50 ?_
  refine h_nmM zf (fun M13 zf => ?_)
  refine h_aload_n h 0 rfl dX2_init_53 ?_
  refine h_iconst h 4 (v := 4) (by decide) dX2_init_54 ?_
  obtain ⟨⟨zk, zn, zl⟩, zf⟩ := pre_ck zf
  refine h_newI h 4 zl zk zn (by decide) (by decide) (by decide) arr_int (Nat.le_of_ble_eq_true rfl) (Nat.le_of_ble_eq_true rfl) dX2_init_55 ?_
  refine h_nmM zf (fun M14 zf => ?_)
  obtain ⟨⟨zk, zl⟩, zf⟩ := pre_ck zf
  refine hpX2_37 h zk zl hi dX2_init_57 ?_
  refine h_nmM zf (fun M15 zf => ?_)
  refine h_aload_n h 0 rfl dX2_init_60 ?_
  refine h_iconst h 4 (v := 4) (by decide) dX2_init_61 ?_
  obtain ⟨⟨zk, zn, zl⟩, zf⟩ := pre_ck zf
  refine h_newI h 4 zl zk zn (by decide) (by decide) (by decide) arr_int (Nat.le_of_ble_eq_true rfl) (Nat.le_of_ble_eq_true rfl) dX2_init_62 ?_
  refine h_nmM zf (fun M16 zf => ?_)
  obtain ⟨⟨zk, zl⟩, zf⟩ := pre_ck zf
  refine hpX2_40 h zk zl hi dX2_init_64 ?_
  refine h_nmM zf (fun M17 zf => ?_)
  refine h_aload_n h 0 rfl dX2_init_67 ?_
  refine h_aload_n h 1 rfl dX2_init_68 ?_
  obtain ⟨⟨zk, zl⟩, zf⟩ := pre_ck zf
  refine hpX2_43 h zk zl hi dX2_init_69 ?_
  refine h_nmM zf (fun M18 zf => ?_)
  refine h_iconst h 0 (v := 0) (by decide) dX2_init_72 ?_
  refine h_istore_n h rfl [(2, .int 0), (0, rv G.1 x0), (1, rv G.1 x1)] (by decide) rfl dX2_init_73 ?_
  refine h_iload_n h 0 rfl dX2_init_74 ?_
  refine h_aload_n h 1 rfl dX2_init_75 ?_
  obtain ⟨⟨zk, zl⟩, zf⟩ := pre_ck zf
  refine hgX2_18 h zk zl zf dX2_init_76 (fun o19 zf => ?_)
  obtain ⟨⟨zk, zn, zl⟩, zf⟩ := pre_ck zf
  refine h_qlen h 4 (z := 4) zk zl zn (by decide) dX2_init_79 ?_
  refine h_ic_ge h 102 (by decide) zf dX2_init_80 (fun zf => by cases zf) (fun zf => ?_)
  refine h_aload_n h 1 rfl dX2_init_83 ?_
  obtain ⟨⟨zk, zl⟩, zf⟩ := pre_ck zf
  refine hgX2_18 h zk zl zf dX2_init_84 (fun o20 zf => ?_)
  refine h_iload_n h 0 rfl dX2_init_87 ?_
  obtain ⟨⟨zk, zl⟩, zf⟩ := pre_ck zf
  refine hnX2_9 h zl zk (Nat.le_of_ble_eq_true rfl) (Nat.le_of_ble_eq_true rfl) dX2_init_88 ?_
  refine h_nmM zf (fun M21 zf => ?_)
  refine h_dup h rfl dX2_init_91 ?_
  obtain ⟨⟨zk, zl, zl2⟩, zf⟩ := pre_ck zf
  obtain ⟨n22, M23, zq, zf⟩ := b3_some zf
  refine h_callI (As := []) (rest := [rv G.1 (n2 + 1 + 1 + 1 + 1 + 1 + 1), .int 0, rv G.1 o20]) h ceX3_init mlX2_11 imX3_init rfl zl2 rfl rfl ⟨Nat.le_of_ble_eq_true rfl, Nat.le_of_ble_eq_true rfl⟩ ⟨Nat.le_of_ble_eq_true rfl, Nat.le_of_ble_eq_true rfl⟩ rfl dX2_init_92 rfl (Nat.le_of_ble_eq_true rfl) (ccX3_init zq) (fun zn1 zM1 zp => ?_)
  obtain ⟨z1, z2⟩ := zp
  replace z1 := z1.symm
  replace z2 := z2.symm
  subst z1
  subst z2
  clear zq
  obtain ⟨⟨zk, zn, zl, zv, zvl⟩, zf⟩ := pre_ck zf
  refine h_aast h 4 zk zl zn zv zvl zf dX2_init_95 (fun M24 zf => ?_)
  refine h_iinc h 2 0 rfl (v := 1) (by decide) [(2, .int 1), (0, rv G.1 x0), (1, rv G.1 x1)] (by decide) rfl dX2_init_96 ?_
  refine h_goto h 74 (by decide) dX2_init_99 ?_
  refine h_iload_n h 0 rfl dX2_init_74 ?_
  refine h_aload_n h 1 rfl dX2_init_75 ?_
  obtain ⟨⟨zk, zl⟩, zf⟩ := pre_ck zf
  refine hgX2_18 h zk zl zf dX2_init_76 (fun o25 zf => ?_)
  obtain ⟨⟨zk, zn, zl⟩, zf⟩ := pre_ck zf
  refine h_qlen h 4 (z := 4) zk zl zn (by decide) dX2_init_79 ?_
  refine h_ic_ge h 102 (by decide) zf dX2_init_80 (fun zf => by cases zf) (fun zf => ?_)
  refine h_aload_n h 1 rfl dX2_init_83 ?_
  obtain ⟨⟨zk, zl⟩, zf⟩ := pre_ck zf
  refine hgX2_18 h zk zl zf dX2_init_84 (fun o26 zf => ?_)
  refine h_iload_n h 0 rfl dX2_init_87 ?_
  obtain ⟨⟨zk, zl⟩, zf⟩ := pre_ck zf
  refine hnX2_9 h zl zk (Nat.le_of_ble_eq_true rfl) (Nat.le_of_ble_eq_true rfl) dX2_init_88 ?_
  refine h_nmM zf (fun M27 zf => ?_)
  refine h_dup h rfl dX2_init_91 ?_
  obtain ⟨⟨zk, zl, zl2⟩, zf⟩ := pre_ck zf
  obtain ⟨n28, M29, zq, zf⟩ := b3_some zf
  refine h_callI (As := []) (rest := [rv G.1 n22, .int 1, rv G.1 o26]) h ceX3_init mlX2_11 imX3_init rfl zl2 rfl rfl ⟨Nat.le_of_ble_eq_true rfl, Nat.le_of_ble_eq_true rfl⟩ ⟨Nat.le_of_ble_eq_true rfl, Nat.le_of_ble_eq_true rfl⟩ rfl dX2_init_92 rfl (Nat.le_of_ble_eq_true rfl) (ccX3_init zq) (fun zn1 zM1 zp => ?_)
  obtain ⟨z1, z2⟩ := zp
  replace z1 := z1.symm
  replace z2 := z2.symm
  subst z1
  subst z2
  clear zq
  obtain ⟨⟨zk, zn, zl, zv, zvl⟩, zf⟩ := pre_ck zf
  refine h_aast h 4 zk zl zn zv zvl zf dX2_init_95 (fun M30 zf => ?_)
  refine h_iinc h 2 0 rfl (v := 2) (by decide) [(2, .int 2), (0, rv G.1 x0), (1, rv G.1 x1)] (by decide) rfl dX2_init_96 ?_
  refine h_goto h 74 (by decide) dX2_init_99 ?_
  refine h_iload_n h 0 rfl dX2_init_74 ?_
  refine h_aload_n h 1 rfl dX2_init_75 ?_
  obtain ⟨⟨zk, zl⟩, zf⟩ := pre_ck zf
  refine hgX2_18 h zk zl zf dX2_init_76 (fun o31 zf => ?_)
  obtain ⟨⟨zk, zn, zl⟩, zf⟩ := pre_ck zf
  refine h_qlen h 4 (z := 4) zk zl zn (by decide) dX2_init_79 ?_
  refine h_ic_ge h 102 (by decide) zf dX2_init_80 (fun zf => by cases zf) (fun zf => ?_)
  refine h_aload_n h 1 rfl dX2_init_83 ?_
  obtain ⟨⟨zk, zl⟩, zf⟩ := pre_ck zf
  refine hgX2_18 h zk zl zf dX2_init_84 (fun o32 zf => ?_)
  refine h_iload_n h 0 rfl dX2_init_87 ?_
  obtain ⟨⟨zk, zl⟩, zf⟩ := pre_ck zf
  refine hnX2_9 h zl zk (Nat.le_of_ble_eq_true rfl) (Nat.le_of_ble_eq_true rfl) dX2_init_88 ?_
  refine h_nmM zf (fun M33 zf => ?_)
  refine h_dup h rfl dX2_init_91 ?_
  obtain ⟨⟨zk, zl, zl2⟩, zf⟩ := pre_ck zf
  obtain ⟨n34, M35, zq, zf⟩ := b3_some zf
  refine h_callI (As := []) (rest := [rv G.1 n28, .int 2, rv G.1 o32]) h ceX3_init mlX2_11 imX3_init rfl zl2 rfl rfl ⟨Nat.le_of_ble_eq_true rfl, Nat.le_of_ble_eq_true rfl⟩ ⟨Nat.le_of_ble_eq_true rfl, Nat.le_of_ble_eq_true rfl⟩ rfl dX2_init_92 rfl (Nat.le_of_ble_eq_true rfl) (ccX3_init zq) (fun zn1 zM1 zp => ?_)
  obtain ⟨z1, z2⟩ := zp
  replace z1 := z1.symm
  replace z2 := z2.symm
  subst z1
  subst z2
  clear zq
  obtain ⟨⟨zk, zn, zl, zv, zvl⟩, zf⟩ := pre_ck zf
  refine h_aast h 4 zk zl zn zv zvl zf dX2_init_95 (fun M36 zf => ?_)
  refine h_iinc h 2 0 rfl (v := 3) (by decide) [(2, .int 3), (0, rv G.1 x0), (1, rv G.1 x1)] (by decide) rfl dX2_init_96 ?_
  refine h_goto h 74 (by decide) dX2_init_99 ?_
  refine h_iload_n h 0 rfl dX2_init_74 ?_
  refine h_aload_n h 1 rfl dX2_init_75 ?_
  obtain ⟨⟨zk, zl⟩, zf⟩ := pre_ck zf
  refine hgX2_18 h zk zl zf dX2_init_76 (fun o37 zf => ?_)
  obtain ⟨⟨zk, zn, zl⟩, zf⟩ := pre_ck zf
  refine h_qlen h 4 (z := 4) zk zl zn (by decide) dX2_init_79 ?_
  refine h_ic_ge h 102 (by decide) zf dX2_init_80 (fun zf => by cases zf) (fun zf => ?_)
  refine h_aload_n h 1 rfl dX2_init_83 ?_
  obtain ⟨⟨zk, zl⟩, zf⟩ := pre_ck zf
  refine hgX2_18 h zk zl zf dX2_init_84 (fun o38 zf => ?_)
  refine h_iload_n h 0 rfl dX2_init_87 ?_
  obtain ⟨⟨zk, zl⟩, zf⟩ := pre_ck zf
  refine hnX2_9 h zl zk (Nat.le_of_ble_eq_true rfl) (Nat.le_of_ble_eq_true rfl) dX2_init_88 ?_
  refine h_nmM zf (fun M39 zf => ?_)
  refine h_dup h rfl dX2_init_91 ?_
  obtain ⟨⟨zk, zl, zl2⟩, zf⟩ := pre_ck zf
  obtain ⟨n40, M41, zq, zf⟩ := b3_some zf
  refine h_callI (As := []) (rest := [rv G.1 n34, .int 3, rv G.1 o38]) h ceX3_init mlX2_11 imX3_init rfl zl2 rfl rfl ⟨Nat.le_of_ble_eq_true rfl, Nat.le_of_ble_eq_true rfl⟩ ⟨Nat.le_of_ble_eq_true rfl, Nat.le_of_ble_eq_true rfl⟩ rfl dX2_init_92 rfl (Nat.le_of_ble_eq_true rfl) (ccX3_init zq) (fun zn1 zM1 zp => ?_)
  obtain ⟨z1, z2⟩ := zp
  replace z1 := z1.symm
  replace z2 := z2.symm
  subst z1
  subst z2
  clear zq
  obtain ⟨⟨zk, zn, zl, zv, zvl⟩, zf⟩ := pre_ck zf
  refine h_aast h 4 zk zl zn zv zvl zf dX2_init_95 (fun M42 zf => ?_)
  refine h_iinc h 2 0 rfl (v := 4) (by decide) [(2, .int 4), (0, rv G.1 x0), (1, rv G.1 x1)] (by decide) rfl dX2_init_96 ?_
  refine h_goto h 74 (by decide) dX2_init_99 ?_
  refine h_iload_n h 0 rfl dX2_init_74 ?_
  refine h_aload_n h 1 rfl dX2_init_75 ?_
  obtain ⟨⟨zk, zl⟩, zf⟩ := pre_ck zf
  refine hgX2_18 h zk zl zf dX2_init_76 (fun o43 zf => ?_)
  obtain ⟨⟨zk, zn, zl⟩, zf⟩ := pre_ck zf
  refine h_qlen h 4 (z := 4) zk zl zn (by decide) dX2_init_79 ?_
  refine h_ic_ge h 102 (by decide) zf dX2_init_80 (fun zf => ?_) (fun zf => by cases zf)
  obtain rfl := Option.some.inj zf
  exact h_vret h rfl ⟨rfl, rfl⟩ (Nat.le_of_ble_eq_true rfl) (Nat.le_of_ble_eq_true rfl) dX2_init_102
theorem ccX2_init {l : Launch} {w : WX} {nn : Nat} {M : Mem} {x0 : Nat} {x1 : Nat} {res : Nat × Mem} (zf : qX2_init nn M x0 x1 = some res) : CC l w yX2_init cX2_init 3 { frames := 3, cells := 31, slots := 727, locals := 61 } 31 727 [rv w x0, rv w x1] nn M (Pcc res.1 res.2) := by
  refine CC_of (by decide) (Nat.le_of_ble_eq_true rfl) (fun G hw hl h hi => ?_)
  subst hw
  exact kcX2_init h hi zf

-- X1_init
def qX1_init (nn : Nat) (M : Mem) (x0 : Nat) : Option (Nat × Mem) :=
  ck (x0 < KN) <|
  ck (kd x0 = 0 ∧ x0 < nn) <|
  pu (sI M x0 0 0) fun M1 =>
  ck (kd nn = 20 ∧ ln nn = 1240 ∧ nn < KN) <|
  pu (z3 M1 nn) fun M2 =>
  ck (kd x0 = 0 ∧ x0 < nn + 1) <|
  pu (sR M2 x0 1 (nn + 1)) fun M3 =>
  some (nn + 1, M3)
theorem kcX1_init {G : GX} (h : OKm G cX1_init RX1 1 none { frames := 1, cells := 1, slots := 1240, locals := 40 }) (hi : G.2.2.2.2.2.2.2.2.2.1.name = yX1_init.name) {nn : Nat} {M : Mem} {x0 : Nat} {res : Nat × Mem} (zf : qX1_init nn M x0 = some res) : GC G (QmC G (Pcc res.1 res.2) 1 1240) nn 0 0 0 [(0, rv G.1 x0)] [] M := by
  unfold qX1_init at zf
  refine h_aload_n h 0 rfl dX1_init_0 ?_
  obtain ⟨zl, zf⟩ := pre_ck zf
  refine h_obj h zl mlX1_3 imObj ceObj (Nat.le_of_ble_eq_true rfl) (Nat.le_of_ble_eq_true rfl) dX1_init_1 ?_
  refine h_aload_n h 0 rfl dX1_init_4 ?_
  refine h_iconst h 0 (v := 0) (by decide) dX1_init_5 ?_
  obtain ⟨⟨zk, zl⟩, zf⟩ := pre_ck zf
  refine hpX1_9 h zk zl dX1_init_6 ?_
  refine h_nmM zf (fun M1 zf => ?_)
  refine h_aload_n h 0 rfl dX1_init_9 ?_
  refine h_sipush h 1240 (v := 1240) (by decide) dX1_init_10 ?_
  obtain ⟨⟨zk, zn, zl⟩, zf⟩ := pre_ck zf
  refine h_newI h 1240 zl zk zn (by decide) (by decide) (by decide) arr_int (Nat.le_of_ble_eq_true rfl) (Nat.le_of_ble_eq_true rfl) dX1_init_13 ?_
  refine h_nmM zf (fun M2 zf => ?_)
  obtain ⟨⟨zk, zl⟩, zf⟩ := pre_ck zf
  refine hpX1_17 h zk zl hi dX1_init_15 ?_
  refine h_nmM zf (fun M3 zf => ?_)
  obtain rfl := Option.some.inj zf
  exact h_vret h rfl ⟨rfl, rfl⟩ (Nat.le_of_ble_eq_true rfl) (Nat.le_of_ble_eq_true rfl) dX1_init_18
theorem ccX1_init {l : Launch} {w : WX} {nn : Nat} {M : Mem} {x0 : Nat} {res : Nat × Mem} (zf : qX1_init nn M x0 = some res) : CC l w yX1_init cX1_init 1 { frames := 1, cells := 1, slots := 1240, locals := 40 } 1 1240 [rv w x0] nn M (Pcc res.1 res.2) := by
  refine CC_of (by decide) (Nat.le_of_ble_eq_true rfl) (fun G hw hl h hi => ?_)
  subst hw
  exact kcX1_init h hi zf

-- X9_init
def qX9_init (nn : Nat) (M : Mem) (x0 : Nat) : Option (Nat × Mem) :=
  ck (x0 < KN) <|
  ck (kd x0 = 8 ∧ x0 < nn) <|
  pu (sI M x0 0 0) fun M1 =>
  ck (kd nn = 20 ∧ ln nn = 8 ∧ nn < KN) <|
  pu (z3 M1 nn) fun M2 =>
  ck (kd x0 = 8 ∧ x0 < nn + 1) <|
  pu (sR M2 x0 1 (nn + 1)) fun M3 =>
  ck (kd (nn + 1) = 20 ∧ ln (nn + 1) = 8 ∧ (nn + 1) < KN) <|
  pu (z3 M3 (nn + 1)) fun M4 =>
  ck (kd x0 = 8 ∧ x0 < nn + 1 + 1) <|
  pu (sR M4 x0 2 ((nn + 1) + 1)) fun M5 =>
  some (nn + 1 + 1, M5)
theorem kcX9_init {G : GX} (h : OKm G cX9_init RX9 1 none { frames := 1, cells := 2, slots := 16, locals := 40 }) (hi : G.2.2.2.2.2.2.2.2.2.1.name = yX9_init.name) {nn : Nat} {M : Mem} {x0 : Nat} {res : Nat × Mem} (zf : qX9_init nn M x0 = some res) : GC G (QmC G (Pcc res.1 res.2) 2 16) nn 0 0 0 [(0, rv G.1 x0)] [] M := by
  unfold qX9_init at zf
  refine h_aload_n h 0 rfl dX9_init_0 ?_
  obtain ⟨zl, zf⟩ := pre_ck zf
  refine h_obj h zl mlX9_3 imObj ceObj (Nat.le_of_ble_eq_true rfl) (Nat.le_of_ble_eq_true rfl) dX9_init_1 ?_
  refine h_aload_n h 0 rfl dX9_init_4 ?_
  refine h_iconst h 0 (v := 0) (by decide) dX9_init_5 ?_
  obtain ⟨⟨zk, zl⟩, zf⟩ := pre_ck zf
  refine hpX9_9 h zk zl dX9_init_6 ?_
  refine h_nmM zf (fun M1 zf => ?_)
  refine h_aload_n h 0 rfl dX9_init_9 ?_
  refine h_bipush h 8 (v := 8) (by decide) dX9_init_10 ?_
  obtain ⟨⟨zk, zn, zl⟩, zf⟩ := pre_ck zf
  refine h_newI h 8 zl zk zn (by decide) (by decide) (by decide) arr_int (Nat.le_of_ble_eq_true rfl) (Nat.le_of_ble_eq_true rfl) dX9_init_12 ?_
  refine h_nmM zf (fun M2 zf => ?_)
  obtain ⟨⟨zk, zl⟩, zf⟩ := pre_ck zf
  refine hpX9_15 h zk zl hi dX9_init_14 ?_
  refine h_nmM zf (fun M3 zf => ?_)
  refine h_aload_n h 0 rfl dX9_init_17 ?_
  refine h_bipush h 8 (v := 8) (by decide) dX9_init_18 ?_
  obtain ⟨⟨zk, zn, zl⟩, zf⟩ := pre_ck zf
  refine h_newI h 8 zl zk zn (by decide) (by decide) (by decide) arr_int (Nat.le_of_ble_eq_true rfl) (Nat.le_of_ble_eq_true rfl) dX9_init_20 ?_
  refine h_nmM zf (fun M4 zf => ?_)
  obtain ⟨⟨zk, zl⟩, zf⟩ := pre_ck zf
  refine hpX9_19 h zk zl hi dX9_init_22 ?_
  refine h_nmM zf (fun M5 zf => ?_)
  obtain rfl := Option.some.inj zf
  exact h_vret h rfl ⟨rfl, rfl⟩ (Nat.le_of_ble_eq_true rfl) (Nat.le_of_ble_eq_true rfl) dX9_init_25
theorem ccX9_init {l : Launch} {w : WX} {nn : Nat} {M : Mem} {x0 : Nat} {res : Nat × Mem} (zf : qX9_init nn M x0 = some res) : CC l w yX9_init cX9_init 1 { frames := 1, cells := 2, slots := 16, locals := 40 } 2 16 [rv w x0] nn M (Pcc res.1 res.2) := by
  refine CC_of (by decide) (Nat.le_of_ble_eq_true rfl) (fun G hw hl h hi => ?_)
  subst hw
  exact kcX9_init h hi zf

-- X12_init
def qX12_init (nn : Nat) (M : Mem) (x0 : Nat) : Option (Nat × Mem) :=
  ck (x0 < KN) <|
  ck (kd nn = 21 ∧ ln nn = 700 ∧ nn < KN) <|
  pu (z3 M nn) fun M1 =>
  ck (kd x0 = 10 ∧ x0 < nn + 1) <|
  pu (sR M1 x0 0 (nn + 1)) fun M2 =>
  ck (kd x0 = 10 ∧ x0 < nn + 1) <|
  pu (sI M2 x0 1 0) fun M3 =>
  ck (kd x0 = 10 ∧ x0 < nn + 1) <|
  pu (sI M3 x0 2 (-1)) fun M4 =>
  ck (kd (nn + 1) = 20 ∧ ln (nn + 1) = 3 ∧ (nn + 1) < KN) <|
  pu (z3 M4 (nn + 1)) fun M5 =>
  ck (kd x0 = 10 ∧ x0 < nn + 1 + 1) <|
  pu (sR M5 x0 3 ((nn + 1) + 1)) fun M6 =>
  ck (kd (nn + 1 + 1) = 5 ∧ (nn + 1 + 1) < KN) <|
  pu (z3 M6 (nn + 1 + 1)) fun M7 =>
  ck (kd x0 = 10 ∧ x0 < nn + 1 + 1 + 1) <|
  ldR M7 x0 0 fun o8 =>
  ck (kd (nn + 1 + 1) = 5 ∧ (nn + 1 + 1) < nn + 1 + 1 + 1 ∧ (nn + 1 + 1) < KN) <|
  b3 (qX6_init (nn + 1 + 1 + 1) M7 (nn + 1 + 1) o8) fun n9 M10 =>
  ck (kd x0 = 10 ∧ x0 < n9) <|
  pu (sR M10 x0 4 ((nn + 1 + 1) + 1)) fun M11 =>
  ck (kd n9 = 6 ∧ n9 < KN) <|
  pu (z3 M11 n9) fun M12 =>
  ck (kd n9 = 6 ∧ n9 < n9 + 1 ∧ n9 < KN) <|
  b3 (qX7_init (n9 + 1) M12 n9) fun n13 M14 =>
  ck (kd x0 = 10 ∧ x0 < n13) <|
  pu (sR M14 x0 5 (n9 + 1)) fun M15 =>
  ck (kd n13 = 1 ∧ n13 < KN) <|
  pu (z3 M15 n13) fun M16 =>
  ck (kd x0 = 10 ∧ x0 < n13 + 1) <|
  ldR M16 x0 5 fun o17 =>
  ck (kd n13 = 1 ∧ n13 < n13 + 1 ∧ n13 < KN) <|
  b3 (qX2_init (n13 + 1) M16 n13 o17) fun n18 M19 =>
  ck (kd x0 = 10 ∧ x0 < n18) <|
  pu (sR M19 x0 6 (n13 + 1)) fun M20 =>
  ck (kd n18 = 2 ∧ n18 < KN) <|
  pu (z3 M20 n18) fun M21 =>
  ck (kd n18 = 2 ∧ n18 < n18 + 1 ∧ n18 < KN) <|
  b3 (qX3_init (n18 + 1) M21 n18) fun n22 M23 =>
  ck (kd x0 = 10 ∧ x0 < n22) <|
  pu (sR M23 x0 7 (n18 + 1)) fun M24 =>
  ck (kd n22 = 2 ∧ n22 < KN) <|
  pu (z3 M24 n22) fun M25 =>
  ck (kd n22 = 2 ∧ n22 < n22 + 1 ∧ n22 < KN) <|
  b3 (qX3_init (n22 + 1) M25 n22) fun n26 M27 =>
  ck (kd x0 = 10 ∧ x0 < n26) <|
  pu (sR M27 x0 8 (n22 + 1)) fun M28 =>
  ck (kd n26 = 0 ∧ n26 < KN) <|
  pu (z3 M28 n26) fun M29 =>
  ck (kd n26 = 0 ∧ n26 < n26 + 1 ∧ n26 < KN) <|
  b3 (qX1_init (n26 + 1) M29 n26) fun n30 M31 =>
  ck (kd x0 = 10 ∧ x0 < n30) <|
  pu (sR M31 x0 9 (n26 + 1)) fun M32 =>
  ck (kd n30 = 8 ∧ n30 < KN) <|
  pu (z3 M32 n30) fun M33 =>
  ck (kd n30 = 8 ∧ n30 < n30 + 1 ∧ n30 < KN) <|
  b3 (qX9_init (n30 + 1) M33 n30) fun n34 M35 =>
  ck (kd x0 = 10 ∧ x0 < n34) <|
  pu (sR M35 x0 10 (n30 + 1)) fun M36 =>
  ck (kd x0 = 10 ∧ x0 < n34) <|
  pu (sI M36 x0 11 0) fun M37 =>
  ck (kd n34 = 20 ∧ ln n34 = 31 ∧ n34 < KN) <|
  pu (z3 M37 n34) fun M38 =>
  ck (kd x0 = 10 ∧ x0 < n34 + 1) <|
  pu (sR M38 x0 12 (n34 + 1)) fun M39 =>
  ck (kd (n34 + 1) = 0 ∧ (n34 + 1) < KN) <|
  pu (z3 M39 (n34 + 1)) fun M40 =>
  ck (kd (n34 + 1) = 0 ∧ (n34 + 1) < n34 + 1 + 1 ∧ (n34 + 1) < KN) <|
  b3 (qX1_init (n34 + 1 + 1) M40 (n34 + 1)) fun n41 M42 =>
  ck (kd x0 = 10 ∧ x0 < n41) <|
  pu (sR M42 x0 13 ((n34 + 1) + 1)) fun M43 =>
  ck (kd n41 = 8 ∧ n41 < KN) <|
  pu (z3 M43 n41) fun M44 =>
  ck (kd n41 = 8 ∧ n41 < n41 + 1 ∧ n41 < KN) <|
  b3 (qX9_init (n41 + 1) M44 n41) fun n45 M46 =>
  ck (kd x0 = 10 ∧ x0 < n45) <|
  pu (sR M46 x0 14 (n41 + 1)) fun M47 =>
  ck (kd n45 = 20 ∧ ln n45 = 128 ∧ n45 < KN) <|
  pu (z3 M47 n45) fun M48 =>
  ck (kd x0 = 10 ∧ x0 < n45 + 1) <|
  pu (sR M48 x0 15 (n45 + 1)) fun M49 =>
  some (n45 + 1, M49)
theorem kcX12_init {G : GX} (h : OKm G cX12_init RX12 1 none { frames := 4, cells := 102, slots := 5904, locals := 103 }) (hi : G.2.2.2.2.2.2.2.2.2.1.name = yX12_init.name) {nn : Nat} {M : Mem} {x0 : Nat} {res : Nat × Mem} (zf : qX12_init nn M x0 = some res) : GC G (QmC G (Pcc res.1 res.2) 102 5904) nn 0 0 0 [(0, rv G.1 x0)] [] M := by
  unfold qX12_init at zf
  refine h_aload_n h 0 rfl dX12_init_0 ?_
  obtain ⟨zl, zf⟩ := pre_ck zf
  refine h_obj h zl mlX12_1 imObj ceObj (Nat.le_of_ble_eq_true rfl) (Nat.le_of_ble_eq_true rfl) dX12_init_1 ?_
  refine h_aload_n h 0 rfl dX12_init_4 ?_
  refine h_sipush h 700 (v := 700) (by decide) dX12_init_5 ?_
  obtain ⟨⟨zk, zn, zl⟩, zf⟩ := pre_ck zf
  refine h_newB h 700 zl zk zn (by decide) (by decide) (by decide) arr_byte (Nat.le_of_ble_eq_true rfl) (Nat.le_of_ble_eq_true rfl) dX12_init_8 ?_
  refine h_nmM zf (fun M1 zf => ?_)
  obtain ⟨⟨zk, zl⟩, zf⟩ := pre_ck zf
  refine hpX12_9 h zk zl hi dX12_init_10 ?_
  refine h_nmM zf (fun M2 zf => ?_)
  refine h_aload_n h 0 rfl dX12_init_13 ?_
  refine h_iconst h 0 (v := 0) (by decide) dX12_init_14 ?_
  obtain ⟨⟨zk, zl⟩, zf⟩ := pre_ck zf
  refine hpX12_13 h zk zl dX12_init_15 ?_
  refine h_nmM zf (fun M3 zf => ?_)
  refine h_aload_n h 0 rfl dX12_init_18 ?_
  refine h_iconst h (-1) (v := (-1)) (by decide) dX12_init_19 ?_
  obtain ⟨⟨zk, zl⟩, zf⟩ := pre_ck zf
  refine hpX12_17 h zk zl dX12_init_20 ?_
  refine h_nmM zf (fun M4 zf => ?_)
  refine h_aload_n h 0 rfl dX12_init_23 ?_
  refine h_iconst h 3 (v := 3) (by decide) dX12_init_24 ?_
  obtain ⟨⟨zk, zn, zl⟩, zf⟩ := pre_ck zf
  refine h_newI h 3 zl zk zn (by decide) (by decide) (by decide) arr_int (Nat.le_of_ble_eq_true rfl) (Nat.le_of_ble_eq_true rfl) dX12_init_25 ?_
  refine h_nmM zf (fun M5 zf => ?_)
  obtain ⟨⟨zk, zl⟩, zf⟩ := pre_ck zf
  refine hpX12_20 h zk zl hi dX12_init_27 ?_
  refine h_nmM zf (fun M6 zf => ?_)
  refine h_aload_n h 0 rfl dX12_init_30 ?_
  obtain ⟨⟨zk, zl⟩, zf⟩ := pre_ck zf
  refine hnX12_24 h zl zk (Nat.le_of_ble_eq_true rfl) (Nat.le_of_ble_eq_true rfl) dX12_init_31 ?_
  refine h_nmM zf (fun M7 zf => ?_)
  refine h_dup h rfl dX12_init_34 ?_
  refine h_aload_n h 0 rfl dX12_init_35 ?_
  obtain ⟨⟨zk, zl⟩, zf⟩ := pre_ck zf
  refine hgX12_9 h zk zl zf dX12_init_36 (fun o8 zf => ?_)
  obtain ⟨⟨zk, zl, zl2⟩, zf⟩ := pre_ck zf
  obtain ⟨n9, M10, zq, zf⟩ := b3_some zf
  refine h_callI (As := [rv G.1 o8]) (rest := [rv G.1 (nn + 1 + 1), rv G.1 x0]) h ceX6_init mlX12_26 imX6_init rfl zl2 rfl rfl ⟨Nat.le_of_ble_eq_true rfl, Nat.le_of_ble_eq_true rfl⟩ ⟨Nat.le_of_ble_eq_true rfl, Nat.le_of_ble_eq_true rfl⟩ rfl dX12_init_39 rfl (Nat.le_of_ble_eq_true rfl) (ccX6_init zq) (fun zn1 zM1 zp => ?_)
  obtain ⟨z1, z2⟩ := zp
  replace z1 := z1.symm
  replace z2 := z2.symm
  subst z1
  subst z2
  clear zq
  obtain ⟨⟨zk, zl⟩, zf⟩ := pre_ck zf
  refine hpX12_29 h zk zl hi dX12_init_42 ?_
  refine h_nmM zf (fun M11 zf => ?_)
  refine h_aload_n h 0 rfl dX12_init_45 ?_
  obtain ⟨⟨zk, zl⟩, zf⟩ := pre_ck zf
  refine hnX12_33 h zl zk (Nat.le_of_ble_eq_true rfl) (Nat.le_of_ble_eq_true rfl) dX12_init_46 ?_
  refine h_nmM zf (fun M12 zf => ?_)
  refine h_dup h rfl dX12_init_49 ?_
  obtain ⟨⟨zk, zl, zl2⟩, zf⟩ := pre_ck zf
  obtain ⟨n13, M14, zq, zf⟩ := b3_some zf
  refine h_callIN (As := []) (rest := [rv G.1 n9, rv G.1 x0]) h ceX7_init "TurnBrothers" (by decide +kernel) imX7_init rfl zl2 rfl rfl ⟨Nat.le_of_ble_eq_true rfl, Nat.le_of_ble_eq_true rfl⟩ ⟨Nat.le_of_ble_eq_true rfl, Nat.le_of_ble_eq_true rfl⟩ rfl dX12_init_50 rfl (Nat.le_of_ble_eq_true rfl) (ccX7_init zq) (fun zn1 zM1 zp => ?_)
  obtain ⟨z1, z2⟩ := zp
  replace z1 := z1.symm
  replace z2 := z2.symm
  subst z1
  subst z2
  clear zq
  obtain ⟨⟨zk, zl⟩, zf⟩ := pre_ck zf
  refine hpX12_36 h zk zl hi dX12_init_53 ?_
  refine h_nmM zf (fun M15 zf => ?_)
  refine h_aload_n h 0 rfl dX12_init_56 ?_
  obtain ⟨⟨zk, zl⟩, zf⟩ := pre_ck zf
  refine hnX12_40 h zl zk (Nat.le_of_ble_eq_true rfl) (Nat.le_of_ble_eq_true rfl) dX12_init_57 ?_
  refine h_nmM zf (fun M16 zf => ?_)
  refine h_dup h rfl dX12_init_60 ?_
  refine h_aload_n h 0 rfl dX12_init_61 ?_
  obtain ⟨⟨zk, zl⟩, zf⟩ := pre_ck zf
  refine hgX12_36 h zk zl zf dX12_init_62 (fun o17 zf => ?_)
  obtain ⟨⟨zk, zl, zl2⟩, zf⟩ := pre_ck zf
  obtain ⟨n18, M19, zq, zf⟩ := b3_some zf
  refine h_callI (As := [rv G.1 o17]) (rest := [rv G.1 n13, rv G.1 x0]) h ceX2_init mlX12_42 imX2_init rfl zl2 rfl rfl ⟨Nat.le_of_ble_eq_true rfl, Nat.le_of_ble_eq_true rfl⟩ ⟨Nat.le_of_ble_eq_true rfl, Nat.le_of_ble_eq_true rfl⟩ rfl dX12_init_65 rfl (Nat.le_of_ble_eq_true rfl) (ccX2_init zq) (fun zn1 zM1 zp => ?_)
  obtain ⟨z1, z2⟩ := zp
  replace z1 := z1.symm
  replace z2 := z2.symm
  subst z1
  subst z2
  clear zq
  obtain ⟨⟨zk, zl⟩, zf⟩ := pre_ck zf
  refine hpX12_45 h zk zl hi dX12_init_68 ?_
  refine h_nmM zf (fun M20 zf => ?_)
  refine h_aload_n h 0 rfl dX12_init_71 ?_
  obtain ⟨⟨zk, zl⟩, zf⟩ := pre_ck zf
  refine hnX12_49 h zl zk (Nat.le_of_ble_eq_true rfl) (Nat.le_of_ble_eq_true rfl) dX12_init_72 ?_
  refine h_nmM zf (fun M21 zf => ?_)
  refine h_dup h rfl dX12_init_75 ?_
  obtain ⟨⟨zk, zl, zl2⟩, zf⟩ := pre_ck zf
  obtain ⟨n22, M23, zq, zf⟩ := b3_some zf
  refine h_callI (As := []) (rest := [rv G.1 n18, rv G.1 x0]) h ceX3_init mlX12_51 imX3_init rfl zl2 rfl rfl ⟨Nat.le_of_ble_eq_true rfl, Nat.le_of_ble_eq_true rfl⟩ ⟨Nat.le_of_ble_eq_true rfl, Nat.le_of_ble_eq_true rfl⟩ rfl dX12_init_76 rfl (Nat.le_of_ble_eq_true rfl) (ccX3_init zq) (fun zn1 zM1 zp => ?_)
  obtain ⟨z1, z2⟩ := zp
  replace z1 := z1.symm
  replace z2 := z2.symm
  subst z1
  subst z2
  clear zq
  obtain ⟨⟨zk, zl⟩, zf⟩ := pre_ck zf
  refine hpX12_52 h zk zl hi dX12_init_79 ?_
  refine h_nmM zf (fun M24 zf => ?_)
  refine h_aload_n h 0 rfl dX12_init_82 ?_
  obtain ⟨⟨zk, zl⟩, zf⟩ := pre_ck zf
  refine hnX12_49 h zl zk (Nat.le_of_ble_eq_true rfl) (Nat.le_of_ble_eq_true rfl) dX12_init_83 ?_
  refine h_nmM zf (fun M25 zf => ?_)
  refine h_dup h rfl dX12_init_86 ?_
  obtain ⟨⟨zk, zl, zl2⟩, zf⟩ := pre_ck zf
  obtain ⟨n26, M27, zq, zf⟩ := b3_some zf
  refine h_callI (As := []) (rest := [rv G.1 n22, rv G.1 x0]) h ceX3_init mlX12_51 imX3_init rfl zl2 rfl rfl ⟨Nat.le_of_ble_eq_true rfl, Nat.le_of_ble_eq_true rfl⟩ ⟨Nat.le_of_ble_eq_true rfl, Nat.le_of_ble_eq_true rfl⟩ rfl dX12_init_87 rfl (Nat.le_of_ble_eq_true rfl) (ccX3_init zq) (fun zn1 zM1 zp => ?_)
  obtain ⟨z1, z2⟩ := zp
  replace z1 := z1.symm
  replace z2 := z2.symm
  subst z1
  subst z2
  clear zq
  obtain ⟨⟨zk, zl⟩, zf⟩ := pre_ck zf
  refine hpX12_56 h zk zl hi dX12_init_90 ?_
  refine h_nmM zf (fun M28 zf => ?_)
  refine h_aload_n h 0 rfl dX12_init_93 ?_
  obtain ⟨⟨zk, zl⟩, zf⟩ := pre_ck zf
  refine hnX12_59 h zl zk (Nat.le_of_ble_eq_true rfl) (Nat.le_of_ble_eq_true rfl) dX12_init_94 ?_
  refine h_nmM zf (fun M29 zf => ?_)
  refine h_dup h rfl dX12_init_97 ?_
  obtain ⟨⟨zk, zl, zl2⟩, zf⟩ := pre_ck zf
  obtain ⟨n30, M31, zq, zf⟩ := b3_some zf
  refine h_callIN (As := []) (rest := [rv G.1 n26, rv G.1 x0]) h ceX1_init "TurnBrothers" (by decide +kernel) imX1_init rfl zl2 rfl rfl ⟨Nat.le_of_ble_eq_true rfl, Nat.le_of_ble_eq_true rfl⟩ ⟨Nat.le_of_ble_eq_true rfl, Nat.le_of_ble_eq_true rfl⟩ rfl dX12_init_98 rfl (Nat.le_of_ble_eq_true rfl) (ccX1_init zq) (fun zn1 zM1 zp => ?_)
  obtain ⟨z1, z2⟩ := zp
  replace z1 := z1.symm
  replace z2 := z2.symm
  subst z1
  subst z2
  clear zq
  obtain ⟨⟨zk, zl⟩, zf⟩ := pre_ck zf
  refine hpX12_62 h zk zl hi dX12_init_101 ?_
  refine h_nmM zf (fun M32 zf => ?_)
  refine h_aload_n h 0 rfl dX12_init_104 ?_
  obtain ⟨⟨zk, zl⟩, zf⟩ := pre_ck zf
  refine hnX12_66 h zl zk (Nat.le_of_ble_eq_true rfl) (Nat.le_of_ble_eq_true rfl) dX12_init_105 ?_
  refine h_nmM zf (fun M33 zf => ?_)
  refine h_dup h rfl dX12_init_108 ?_
  obtain ⟨⟨zk, zl, zl2⟩, zf⟩ := pre_ck zf
  obtain ⟨n34, M35, zq, zf⟩ := b3_some zf
  refine h_callIN (As := []) (rest := [rv G.1 n30, rv G.1 x0]) h ceX9_init "TurnBrothers" (by decide +kernel) imX9_init rfl zl2 rfl rfl ⟨Nat.le_of_ble_eq_true rfl, Nat.le_of_ble_eq_true rfl⟩ ⟨Nat.le_of_ble_eq_true rfl, Nat.le_of_ble_eq_true rfl⟩ rfl dX12_init_109 rfl (Nat.le_of_ble_eq_true rfl) (ccX9_init zq) (fun zn1 zM1 zp => ?_)
  obtain ⟨z1, z2⟩ := zp
  replace z1 := z1.symm
  replace z2 := z2.symm
  subst z1
  subst z2
  clear zq
  obtain ⟨⟨zk, zl⟩, zf⟩ := pre_ck zf
  refine hpX12_69 h zk zl hi dX12_init_112 ?_
  refine h_nmM zf (fun M36 zf => ?_)
  refine h_aload_n h 0 rfl dX12_init_115 ?_
  refine h_iconst h 0 (v := 0) (by decide) dX12_init_116 ?_
  obtain ⟨⟨zk, zl⟩, zf⟩ := pre_ck zf
  refine hpX12_73 h zk zl (by decide) dX12_init_117 ?_
  refine h_nmM zf (fun M37 zf => ?_)
  refine h_aload_n h 0 rfl dX12_init_120 ?_
  refine h_bipush h 31 (v := 31) (by decide) dX12_init_121 ?_
  obtain ⟨⟨zk, zn, zl⟩, zf⟩ := pre_ck zf
  refine h_newI h 31 zl zk zn (by decide) (by decide) (by decide) arr_int (Nat.le_of_ble_eq_true rfl) (Nat.le_of_ble_eq_true rfl) dX12_init_123 ?_
  refine h_nmM zf (fun M38 zf => ?_)
  obtain ⟨⟨zk, zl⟩, zf⟩ := pre_ck zf
  refine hpX12_77 h zk zl hi dX12_init_125 ?_
  refine h_nmM zf (fun M39 zf => ?_)
  refine h_aload_n h 0 rfl dX12_init_128 ?_
  obtain ⟨⟨zk, zl⟩, zf⟩ := pre_ck zf
  refine hnX12_59 h zl zk (Nat.le_of_ble_eq_true rfl) (Nat.le_of_ble_eq_true rfl) dX12_init_129 ?_
  refine h_nmM zf (fun M40 zf => ?_)
  refine h_dup h rfl dX12_init_132 ?_
  obtain ⟨⟨zk, zl, zl2⟩, zf⟩ := pre_ck zf
  obtain ⟨n41, M42, zq, zf⟩ := b3_some zf
  refine h_callIN (As := []) (rest := [rv G.1 (n34 + 1), rv G.1 x0]) h ceX1_init "TurnBrothers" (by decide +kernel) imX1_init rfl zl2 rfl rfl ⟨Nat.le_of_ble_eq_true rfl, Nat.le_of_ble_eq_true rfl⟩ ⟨Nat.le_of_ble_eq_true rfl, Nat.le_of_ble_eq_true rfl⟩ rfl dX12_init_133 rfl (Nat.le_of_ble_eq_true rfl) (ccX1_init zq) (fun zn1 zM1 zp => ?_)
  obtain ⟨z1, z2⟩ := zp
  replace z1 := z1.symm
  replace z2 := z2.symm
  subst z1
  subst z2
  clear zq
  obtain ⟨⟨zk, zl⟩, zf⟩ := pre_ck zf
  refine hpX12_80 h zk zl hi dX12_init_136 ?_
  refine h_nmM zf (fun M43 zf => ?_)
  refine h_aload_n h 0 rfl dX12_init_139 ?_
  obtain ⟨⟨zk, zl⟩, zf⟩ := pre_ck zf
  refine hnX12_66 h zl zk (Nat.le_of_ble_eq_true rfl) (Nat.le_of_ble_eq_true rfl) dX12_init_140 ?_
  refine h_nmM zf (fun M44 zf => ?_)
  refine h_dup h rfl dX12_init_143 ?_
  obtain ⟨⟨zk, zl, zl2⟩, zf⟩ := pre_ck zf
  obtain ⟨n45, M46, zq, zf⟩ := b3_some zf
  refine h_callIN (As := []) (rest := [rv G.1 n41, rv G.1 x0]) h ceX9_init "TurnBrothers" (by decide +kernel) imX9_init rfl zl2 rfl rfl ⟨Nat.le_of_ble_eq_true rfl, Nat.le_of_ble_eq_true rfl⟩ ⟨Nat.le_of_ble_eq_true rfl, Nat.le_of_ble_eq_true rfl⟩ rfl dX12_init_144 rfl (Nat.le_of_ble_eq_true rfl) (ccX9_init zq) (fun zn1 zM1 zp => ?_)
  obtain ⟨z1, z2⟩ := zp
  replace z1 := z1.symm
  replace z2 := z2.symm
  subst z1
  subst z2
  clear zq
  obtain ⟨⟨zk, zl⟩, zf⟩ := pre_ck zf
  refine hpX12_83 h zk zl hi dX12_init_147 ?_
  refine h_nmM zf (fun M47 zf => ?_)
  refine h_aload_n h 0 rfl dX12_init_150 ?_
  refine h_sipush h 128 (v := 128) (by decide) dX12_init_151 ?_
  obtain ⟨⟨zk, zn, zl⟩, zf⟩ := pre_ck zf
  refine h_newI h 128 zl zk zn (by decide) (by decide) (by decide) arr_int (Nat.le_of_ble_eq_true rfl) (Nat.le_of_ble_eq_true rfl) dX12_init_154 ?_
  refine h_nmM zf (fun M48 zf => ?_)
  obtain ⟨⟨zk, zl⟩, zf⟩ := pre_ck zf
  refine hpX12_86 h zk zl hi dX12_init_156 ?_
  refine h_nmM zf (fun M49 zf => ?_)
  obtain rfl := Option.some.inj zf
  exact h_vret h rfl ⟨rfl, rfl⟩ (Nat.le_of_ble_eq_true rfl) (Nat.le_of_ble_eq_true rfl) dX12_init_159
theorem ccX12_init {l : Launch} {w : WX} {nn : Nat} {M : Mem} {x0 : Nat} {res : Nat × Mem} (zf : qX12_init nn M x0 = some res) : CC l w yX12_init cX12_init 1 { frames := 4, cells := 102, slots := 5904, locals := 103 } 102 5904 [rv w x0] nn M (Pcc res.1 res.2) := by
  refine CC_of (by decide) (Nat.le_of_ble_eq_true rfl) (fun G hw hl h hi => ?_)
  subst hw
  exact kcX12_init h hi zf

-- X13_init
def qX13_init (nn : Nat) (M : Mem) (x0 : Nat) : Option (Nat × Mem) :=
  ck (x0 < KN) <|
  ck (kd x0 = 11 ∧ x0 < nn) <|
  pu (sI M x0 6 (-1)) fun M1 =>
  ck (kd x0 = 11 ∧ x0 < nn) <|
  pu (sI M1 x0 7 (-1)) fun M2 =>
  ck (kd nn = 20 ∧ ln nn = 7 ∧ nn < KN) <|
  pu (z3 M2 nn) fun M3 =>
  ck (kd x0 = 11 ∧ x0 < nn + 1) <|
  pu (sR M3 x0 8 (nn + 1)) fun M4 =>
  ck (kd (nn + 1) = 20 ∧ ln (nn + 1) = 7 ∧ (nn + 1) < KN) <|
  pu (z3 M4 (nn + 1)) fun M5 =>
  ck (kd x0 = 11 ∧ x0 < nn + 1 + 1) <|
  pu (sR M5 x0 9 ((nn + 1) + 1)) fun M6 =>
  ck (kd (nn + 1 + 1) = 20 ∧ ln (nn + 1 + 1) = 7 ∧ (nn + 1 + 1) < KN) <|
  pu (z3 M6 (nn + 1 + 1)) fun M7 =>
  ck (kd x0 = 11 ∧ x0 < nn + 1 + 1 + 1) <|
  pu (sR M7 x0 10 ((nn + 1 + 1) + 1)) fun M8 =>
  ck (kd (nn + 1 + 1 + 1) = 20 ∧ ln (nn + 1 + 1 + 1) = 7 ∧ (nn + 1 + 1 + 1) < KN) <|
  pu (z3 M8 (nn + 1 + 1 + 1)) fun M9 =>
  ck (kd x0 = 11 ∧ x0 < nn + 1 + 1 + 1 + 1) <|
  pu (sR M9 x0 11 ((nn + 1 + 1 + 1) + 1)) fun M10 =>
  ck (kd (nn + 1 + 1 + 1 + 1) = 20 ∧ ln (nn + 1 + 1 + 1 + 1) = 2 ∧ (nn + 1 + 1 + 1 + 1) < KN) <|
  pu (z3 M10 (nn + 1 + 1 + 1 + 1)) fun M11 =>
  ck (kd x0 = 11 ∧ x0 < nn + 1 + 1 + 1 + 1 + 1) <|
  pu (sR M11 x0 12 ((nn + 1 + 1 + 1 + 1) + 1)) fun M12 =>
  ck (kd (nn + 1 + 1 + 1 + 1 + 1) = 20 ∧ ln (nn + 1 + 1 + 1 + 1 + 1) = 10 ∧ (nn + 1 + 1 + 1 + 1 + 1) < KN) <|
  pu (z3 M12 (nn + 1 + 1 + 1 + 1 + 1)) fun M13 =>
  ck (kd x0 = 11 ∧ x0 < nn + 1 + 1 + 1 + 1 + 1 + 1) <|
  pu (sR M13 x0 13 ((nn + 1 + 1 + 1 + 1 + 1) + 1)) fun M14 =>
  ck (kd (nn + 1 + 1 + 1 + 1 + 1 + 1) = 20 ∧ ln (nn + 1 + 1 + 1 + 1 + 1 + 1) = 6 ∧ (nn + 1 + 1 + 1 + 1 + 1 + 1) < KN) <|
  pu (z3 M14 (nn + 1 + 1 + 1 + 1 + 1 + 1)) fun M15 =>
  ck (kd x0 = 11 ∧ x0 < nn + 1 + 1 + 1 + 1 + 1 + 1 + 1) <|
  pu (sR M15 x0 14 ((nn + 1 + 1 + 1 + 1 + 1 + 1) + 1)) fun M16 =>
  ck (kd (nn + 1 + 1 + 1 + 1 + 1 + 1 + 1) = 20 ∧ ln (nn + 1 + 1 + 1 + 1 + 1 + 1 + 1) = 7 ∧ (nn + 1 + 1 + 1 + 1 + 1 + 1 + 1) < KN) <|
  pu (z3 M16 (nn + 1 + 1 + 1 + 1 + 1 + 1 + 1)) fun M17 =>
  ck (kd x0 = 11 ∧ x0 < nn + 1 + 1 + 1 + 1 + 1 + 1 + 1 + 1) <|
  pu (sR M17 x0 15 ((nn + 1 + 1 + 1 + 1 + 1 + 1 + 1) + 1)) fun M18 =>
  ck (kd (nn + 1 + 1 + 1 + 1 + 1 + 1 + 1 + 1) = 20 ∧ ln (nn + 1 + 1 + 1 + 1 + 1 + 1 + 1 + 1) = 7 ∧ (nn + 1 + 1 + 1 + 1 + 1 + 1 + 1 + 1) < KN) <|
  pu (z3 M18 (nn + 1 + 1 + 1 + 1 + 1 + 1 + 1 + 1)) fun M19 =>
  ck (kd x0 = 11 ∧ x0 < nn + 1 + 1 + 1 + 1 + 1 + 1 + 1 + 1 + 1) <|
  pu (sR M19 x0 16 ((nn + 1 + 1 + 1 + 1 + 1 + 1 + 1 + 1) + 1)) fun M20 =>
  ck (kd (nn + 1 + 1 + 1 + 1 + 1 + 1 + 1 + 1 + 1) = 20 ∧ ln (nn + 1 + 1 + 1 + 1 + 1 + 1 + 1 + 1 + 1) = 7 ∧ (nn + 1 + 1 + 1 + 1 + 1 + 1 + 1 + 1 + 1) < KN) <|
  pu (z3 M20 (nn + 1 + 1 + 1 + 1 + 1 + 1 + 1 + 1 + 1)) fun M21 =>
  ck (kd x0 = 11 ∧ x0 < nn + 1 + 1 + 1 + 1 + 1 + 1 + 1 + 1 + 1 + 1) <|
  pu (sR M21 x0 17 ((nn + 1 + 1 + 1 + 1 + 1 + 1 + 1 + 1 + 1) + 1)) fun M22 =>
  ck (kd (nn + 1 + 1 + 1 + 1 + 1 + 1 + 1 + 1 + 1 + 1) = 20 ∧ ln (nn + 1 + 1 + 1 + 1 + 1 + 1 + 1 + 1 + 1 + 1) = 7 ∧ (nn + 1 + 1 + 1 + 1 + 1 + 1 + 1 + 1 + 1 + 1) < KN) <|
  pu (z3 M22 (nn + 1 + 1 + 1 + 1 + 1 + 1 + 1 + 1 + 1 + 1)) fun M23 =>
  ck (kd x0 = 11 ∧ x0 < nn + 1 + 1 + 1 + 1 + 1 + 1 + 1 + 1 + 1 + 1 + 1) <|
  pu (sR M23 x0 18 ((nn + 1 + 1 + 1 + 1 + 1 + 1 + 1 + 1 + 1 + 1) + 1)) fun M24 =>
  ck (kd (nn + 1 + 1 + 1 + 1 + 1 + 1 + 1 + 1 + 1 + 1 + 1) = 20 ∧ ln (nn + 1 + 1 + 1 + 1 + 1 + 1 + 1 + 1 + 1 + 1 + 1) = 1400 ∧ (nn + 1 + 1 + 1 + 1 + 1 + 1 + 1 + 1 + 1 + 1 + 1) < KN) <|
  pu (z3 M24 (nn + 1 + 1 + 1 + 1 + 1 + 1 + 1 + 1 + 1 + 1 + 1)) fun M25 =>
  ck (kd x0 = 11 ∧ x0 < nn + 1 + 1 + 1 + 1 + 1 + 1 + 1 + 1 + 1 + 1 + 1 + 1) <|
  pu (sR M25 x0 19 ((nn + 1 + 1 + 1 + 1 + 1 + 1 + 1 + 1 + 1 + 1 + 1) + 1)) fun M26 =>
  ck (kd (nn + 1 + 1 + 1 + 1 + 1 + 1 + 1 + 1 + 1 + 1 + 1 + 1) = 20 ∧ ln (nn + 1 + 1 + 1 + 1 + 1 + 1 + 1 + 1 + 1 + 1 + 1 + 1) = 700 ∧ (nn + 1 + 1 + 1 + 1 + 1 + 1 + 1 + 1 + 1 + 1 + 1 + 1) < KN) <|
  pu (z3 M26 (nn + 1 + 1 + 1 + 1 + 1 + 1 + 1 + 1 + 1 + 1 + 1 + 1)) fun M27 =>
  ck (kd x0 = 11 ∧ x0 < nn + 1 + 1 + 1 + 1 + 1 + 1 + 1 + 1 + 1 + 1 + 1 + 1 + 1) <|
  pu (sR M27 x0 20 ((nn + 1 + 1 + 1 + 1 + 1 + 1 + 1 + 1 + 1 + 1 + 1 + 1) + 1)) fun M28 =>
  ck (kd x0 = 11 ∧ x0 < nn + 1 + 1 + 1 + 1 + 1 + 1 + 1 + 1 + 1 + 1 + 1 + 1 + 1) <|
  pu (sI M28 x0 23 (-1)) fun M29 =>
  ck (kd (nn + 1 + 1 + 1 + 1 + 1 + 1 + 1 + 1 + 1 + 1 + 1 + 1 + 1) = 20 ∧ ln (nn + 1 + 1 + 1 + 1 + 1 + 1 + 1 + 1 + 1 + 1 + 1 + 1 + 1) = 3 ∧ (nn + 1 + 1 + 1 + 1 + 1 + 1 + 1 + 1 + 1 + 1 + 1 + 1 + 1) < KN) <|
  pu (z3 M29 (nn + 1 + 1 + 1 + 1 + 1 + 1 + 1 + 1 + 1 + 1 + 1 + 1 + 1)) fun M30 =>
  ck (kd x0 = 11 ∧ x0 < nn + 1 + 1 + 1 + 1 + 1 + 1 + 1 + 1 + 1 + 1 + 1 + 1 + 1 + 1) <|
  pu (sR M30 x0 24 ((nn + 1 + 1 + 1 + 1 + 1 + 1 + 1 + 1 + 1 + 1 + 1 + 1 + 1) + 1)) fun M31 =>
  ck (kd (nn + 1 + 1 + 1 + 1 + 1 + 1 + 1 + 1 + 1 + 1 + 1 + 1 + 1 + 1) = 20 ∧ ln (nn + 1 + 1 + 1 + 1 + 1 + 1 + 1 + 1 + 1 + 1 + 1 + 1 + 1 + 1) = 7 ∧ (nn + 1 + 1 + 1 + 1 + 1 + 1 + 1 + 1 + 1 + 1 + 1 + 1 + 1 + 1) < KN) <|
  pu (z3 M31 (nn + 1 + 1 + 1 + 1 + 1 + 1 + 1 + 1 + 1 + 1 + 1 + 1 + 1 + 1)) fun M32 =>
  ck (kd x0 = 11 ∧ x0 < nn + 1 + 1 + 1 + 1 + 1 + 1 + 1 + 1 + 1 + 1 + 1 + 1 + 1 + 1 + 1) <|
  pu (sR M32 x0 47 ((nn + 1 + 1 + 1 + 1 + 1 + 1 + 1 + 1 + 1 + 1 + 1 + 1 + 1 + 1) + 1)) fun M33 =>
  ck (kd (nn + 1 + 1 + 1 + 1 + 1 + 1 + 1 + 1 + 1 + 1 + 1 + 1 + 1 + 1 + 1) = 20 ∧ ln (nn + 1 + 1 + 1 + 1 + 1 + 1 + 1 + 1 + 1 + 1 + 1 + 1 + 1 + 1 + 1) = 7 ∧ (nn + 1 + 1 + 1 + 1 + 1 + 1 + 1 + 1 + 1 + 1 + 1 + 1 + 1 + 1 + 1) < KN) <|
  pu (z3 M33 (nn + 1 + 1 + 1 + 1 + 1 + 1 + 1 + 1 + 1 + 1 + 1 + 1 + 1 + 1 + 1)) fun M34 =>
  ck (kd x0 = 11 ∧ x0 < nn + 1 + 1 + 1 + 1 + 1 + 1 + 1 + 1 + 1 + 1 + 1 + 1 + 1 + 1 + 1 + 1) <|
  pu (sR M34 x0 48 ((nn + 1 + 1 + 1 + 1 + 1 + 1 + 1 + 1 + 1 + 1 + 1 + 1 + 1 + 1 + 1) + 1)) fun M35 =>
  ck (kd (nn + 1 + 1 + 1 + 1 + 1 + 1 + 1 + 1 + 1 + 1 + 1 + 1 + 1 + 1 + 1 + 1) = 20 ∧ ln (nn + 1 + 1 + 1 + 1 + 1 + 1 + 1 + 1 + 1 + 1 + 1 + 1 + 1 + 1 + 1 + 1) = 7 ∧ (nn + 1 + 1 + 1 + 1 + 1 + 1 + 1 + 1 + 1 + 1 + 1 + 1 + 1 + 1 + 1 + 1) < KN) <|
  pu (z3 M35 (nn + 1 + 1 + 1 + 1 + 1 + 1 + 1 + 1 + 1 + 1 + 1 + 1 + 1 + 1 + 1 + 1)) fun M36 =>
  ck (kd x0 = 11 ∧ x0 < nn + 1 + 1 + 1 + 1 + 1 + 1 + 1 + 1 + 1 + 1 + 1 + 1 + 1 + 1 + 1 + 1 + 1) <|
  pu (sR M36 x0 49 ((nn + 1 + 1 + 1 + 1 + 1 + 1 + 1 + 1 + 1 + 1 + 1 + 1 + 1 + 1 + 1 + 1) + 1)) fun M37 =>
  ck (kd (nn + 1 + 1 + 1 + 1 + 1 + 1 + 1 + 1 + 1 + 1 + 1 + 1 + 1 + 1 + 1 + 1 + 1) = 20 ∧ ln (nn + 1 + 1 + 1 + 1 + 1 + 1 + 1 + 1 + 1 + 1 + 1 + 1 + 1 + 1 + 1 + 1 + 1) = 7 ∧ (nn + 1 + 1 + 1 + 1 + 1 + 1 + 1 + 1 + 1 + 1 + 1 + 1 + 1 + 1 + 1 + 1 + 1) < KN) <|
  pu (z3 M37 (nn + 1 + 1 + 1 + 1 + 1 + 1 + 1 + 1 + 1 + 1 + 1 + 1 + 1 + 1 + 1 + 1 + 1)) fun M38 =>
  ck (kd x0 = 11 ∧ x0 < nn + 1 + 1 + 1 + 1 + 1 + 1 + 1 + 1 + 1 + 1 + 1 + 1 + 1 + 1 + 1 + 1 + 1 + 1) <|
  pu (sR M38 x0 50 ((nn + 1 + 1 + 1 + 1 + 1 + 1 + 1 + 1 + 1 + 1 + 1 + 1 + 1 + 1 + 1 + 1 + 1) + 1)) fun M39 =>
  ck (kd (nn + 1 + 1 + 1 + 1 + 1 + 1 + 1 + 1 + 1 + 1 + 1 + 1 + 1 + 1 + 1 + 1 + 1 + 1) = 20 ∧ ln (nn + 1 + 1 + 1 + 1 + 1 + 1 + 1 + 1 + 1 + 1 + 1 + 1 + 1 + 1 + 1 + 1 + 1 + 1) = 2 ∧ (nn + 1 + 1 + 1 + 1 + 1 + 1 + 1 + 1 + 1 + 1 + 1 + 1 + 1 + 1 + 1 + 1 + 1 + 1) < KN) <|
  pu (z3 M39 (nn + 1 + 1 + 1 + 1 + 1 + 1 + 1 + 1 + 1 + 1 + 1 + 1 + 1 + 1 + 1 + 1 + 1 + 1)) fun M40 =>
  ck (kd x0 = 11 ∧ x0 < nn + 1 + 1 + 1 + 1 + 1 + 1 + 1 + 1 + 1 + 1 + 1 + 1 + 1 + 1 + 1 + 1 + 1 + 1 + 1) <|
  pu (sR M40 x0 51 ((nn + 1 + 1 + 1 + 1 + 1 + 1 + 1 + 1 + 1 + 1 + 1 + 1 + 1 + 1 + 1 + 1 + 1 + 1) + 1)) fun M41 =>
  ck (kd (nn + 1 + 1 + 1 + 1 + 1 + 1 + 1 + 1 + 1 + 1 + 1 + 1 + 1 + 1 + 1 + 1 + 1 + 1 + 1) = 20 ∧ ln (nn + 1 + 1 + 1 + 1 + 1 + 1 + 1 + 1 + 1 + 1 + 1 + 1 + 1 + 1 + 1 + 1 + 1 + 1 + 1) = 10 ∧ (nn + 1 + 1 + 1 + 1 + 1 + 1 + 1 + 1 + 1 + 1 + 1 + 1 + 1 + 1 + 1 + 1 + 1 + 1 + 1) < KN) <|
  pu (z3 M41 (nn + 1 + 1 + 1 + 1 + 1 + 1 + 1 + 1 + 1 + 1 + 1 + 1 + 1 + 1 + 1 + 1 + 1 + 1 + 1)) fun M42 =>
  ck (kd x0 = 11 ∧ x0 < nn + 1 + 1 + 1 + 1 + 1 + 1 + 1 + 1 + 1 + 1 + 1 + 1 + 1 + 1 + 1 + 1 + 1 + 1 + 1 + 1) <|
  pu (sR M42 x0 52 ((nn + 1 + 1 + 1 + 1 + 1 + 1 + 1 + 1 + 1 + 1 + 1 + 1 + 1 + 1 + 1 + 1 + 1 + 1 + 1) + 1)) fun M43 =>
  ck (kd (nn + 1 + 1 + 1 + 1 + 1 + 1 + 1 + 1 + 1 + 1 + 1 + 1 + 1 + 1 + 1 + 1 + 1 + 1 + 1 + 1) = 20 ∧ ln (nn + 1 + 1 + 1 + 1 + 1 + 1 + 1 + 1 + 1 + 1 + 1 + 1 + 1 + 1 + 1 + 1 + 1 + 1 + 1 + 1) = 6 ∧ (nn + 1 + 1 + 1 + 1 + 1 + 1 + 1 + 1 + 1 + 1 + 1 + 1 + 1 + 1 + 1 + 1 + 1 + 1 + 1 + 1) < KN) <|
  pu (z3 M43 (nn + 1 + 1 + 1 + 1 + 1 + 1 + 1 + 1 + 1 + 1 + 1 + 1 + 1 + 1 + 1 + 1 + 1 + 1 + 1 + 1)) fun M44 =>
  ck (kd x0 = 11 ∧ x0 < nn + 1 + 1 + 1 + 1 + 1 + 1 + 1 + 1 + 1 + 1 + 1 + 1 + 1 + 1 + 1 + 1 + 1 + 1 + 1 + 1 + 1) <|
  pu (sR M44 x0 53 ((nn + 1 + 1 + 1 + 1 + 1 + 1 + 1 + 1 + 1 + 1 + 1 + 1 + 1 + 1 + 1 + 1 + 1 + 1 + 1 + 1) + 1)) fun M45 =>
  ck (kd (nn + 1 + 1 + 1 + 1 + 1 + 1 + 1 + 1 + 1 + 1 + 1 + 1 + 1 + 1 + 1 + 1 + 1 + 1 + 1 + 1 + 1) = 20 ∧ ln (nn + 1 + 1 + 1 + 1 + 1 + 1 + 1 + 1 + 1 + 1 + 1 + 1 + 1 + 1 + 1 + 1 + 1 + 1 + 1 + 1 + 1) = 7 ∧ (nn + 1 + 1 + 1 + 1 + 1 + 1 + 1 + 1 + 1 + 1 + 1 + 1 + 1 + 1 + 1 + 1 + 1 + 1 + 1 + 1 + 1) < KN) <|
  pu (z3 M45 (nn + 1 + 1 + 1 + 1 + 1 + 1 + 1 + 1 + 1 + 1 + 1 + 1 + 1 + 1 + 1 + 1 + 1 + 1 + 1 + 1 + 1)) fun M46 =>
  ck (kd x0 = 11 ∧ x0 < nn + 1 + 1 + 1 + 1 + 1 + 1 + 1 + 1 + 1 + 1 + 1 + 1 + 1 + 1 + 1 + 1 + 1 + 1 + 1 + 1 + 1 + 1) <|
  pu (sR M46 x0 54 ((nn + 1 + 1 + 1 + 1 + 1 + 1 + 1 + 1 + 1 + 1 + 1 + 1 + 1 + 1 + 1 + 1 + 1 + 1 + 1 + 1 + 1) + 1)) fun M47 =>
  ck (kd (nn + 1 + 1 + 1 + 1 + 1 + 1 + 1 + 1 + 1 + 1 + 1 + 1 + 1 + 1 + 1 + 1 + 1 + 1 + 1 + 1 + 1 + 1) = 20 ∧ ln (nn + 1 + 1 + 1 + 1 + 1 + 1 + 1 + 1 + 1 + 1 + 1 + 1 + 1 + 1 + 1 + 1 + 1 + 1 + 1 + 1 + 1 + 1) = 7 ∧ (nn + 1 + 1 + 1 + 1 + 1 + 1 + 1 + 1 + 1 + 1 + 1 + 1 + 1 + 1 + 1 + 1 + 1 + 1 + 1 + 1 + 1 + 1) < KN) <|
  pu (z3 M47 (nn + 1 + 1 + 1 + 1 + 1 + 1 + 1 + 1 + 1 + 1 + 1 + 1 + 1 + 1 + 1 + 1 + 1 + 1 + 1 + 1 + 1 + 1)) fun M48 =>
  ck (kd x0 = 11 ∧ x0 < nn + 1 + 1 + 1 + 1 + 1 + 1 + 1 + 1 + 1 + 1 + 1 + 1 + 1 + 1 + 1 + 1 + 1 + 1 + 1 + 1 + 1 + 1 + 1) <|
  pu (sR M48 x0 55 ((nn + 1 + 1 + 1 + 1 + 1 + 1 + 1 + 1 + 1 + 1 + 1 + 1 + 1 + 1 + 1 + 1 + 1 + 1 + 1 + 1 + 1 + 1) + 1)) fun M49 =>
  ck (kd (nn + 1 + 1 + 1 + 1 + 1 + 1 + 1 + 1 + 1 + 1 + 1 + 1 + 1 + 1 + 1 + 1 + 1 + 1 + 1 + 1 + 1 + 1 + 1) = 20 ∧ ln (nn + 1 + 1 + 1 + 1 + 1 + 1 + 1 + 1 + 1 + 1 + 1 + 1 + 1 + 1 + 1 + 1 + 1 + 1 + 1 + 1 + 1 + 1 + 1) = 7 ∧ (nn + 1 + 1 + 1 + 1 + 1 + 1 + 1 + 1 + 1 + 1 + 1 + 1 + 1 + 1 + 1 + 1 + 1 + 1 + 1 + 1 + 1 + 1 + 1) < KN) <|
  pu (z3 M49 (nn + 1 + 1 + 1 + 1 + 1 + 1 + 1 + 1 + 1 + 1 + 1 + 1 + 1 + 1 + 1 + 1 + 1 + 1 + 1 + 1 + 1 + 1 + 1)) fun M50 =>
  ck (kd x0 = 11 ∧ x0 < nn + 1 + 1 + 1 + 1 + 1 + 1 + 1 + 1 + 1 + 1 + 1 + 1 + 1 + 1 + 1 + 1 + 1 + 1 + 1 + 1 + 1 + 1 + 1 + 1) <|
  pu (sR M50 x0 56 ((nn + 1 + 1 + 1 + 1 + 1 + 1 + 1 + 1 + 1 + 1 + 1 + 1 + 1 + 1 + 1 + 1 + 1 + 1 + 1 + 1 + 1 + 1 + 1) + 1)) fun M51 =>
  ck (kd (nn + 1 + 1 + 1 + 1 + 1 + 1 + 1 + 1 + 1 + 1 + 1 + 1 + 1 + 1 + 1 + 1 + 1 + 1 + 1 + 1 + 1 + 1 + 1 + 1) = 20 ∧ ln (nn + 1 + 1 + 1 + 1 + 1 + 1 + 1 + 1 + 1 + 1 + 1 + 1 + 1 + 1 + 1 + 1 + 1 + 1 + 1 + 1 + 1 + 1 + 1 + 1) = 7 ∧ (nn + 1 + 1 + 1 + 1 + 1 + 1 + 1 + 1 + 1 + 1 + 1 + 1 + 1 + 1 + 1 + 1 + 1 + 1 + 1 + 1 + 1 + 1 + 1 + 1) < KN) <|
  pu (z3 M51 (nn + 1 + 1 + 1 + 1 + 1 + 1 + 1 + 1 + 1 + 1 + 1 + 1 + 1 + 1 + 1 + 1 + 1 + 1 + 1 + 1 + 1 + 1 + 1 + 1)) fun M52 =>
  ck (kd x0 = 11 ∧ x0 < nn + 1 + 1 + 1 + 1 + 1 + 1 + 1 + 1 + 1 + 1 + 1 + 1 + 1 + 1 + 1 + 1 + 1 + 1 + 1 + 1 + 1 + 1 + 1 + 1 + 1) <|
  pu (sR M52 x0 57 ((nn + 1 + 1 + 1 + 1 + 1 + 1 + 1 + 1 + 1 + 1 + 1 + 1 + 1 + 1 + 1 + 1 + 1 + 1 + 1 + 1 + 1 + 1 + 1 + 1) + 1)) fun M53 =>
  ck (kd (nn + 1 + 1 + 1 + 1 + 1 + 1 + 1 + 1 + 1 + 1 + 1 + 1 + 1 + 1 + 1 + 1 + 1 + 1 + 1 + 1 + 1 + 1 + 1 + 1 + 1) = 20 ∧ ln (nn + 1 + 1 + 1 + 1 + 1 + 1 + 1 + 1 + 1 + 1 + 1 + 1 + 1 + 1 + 1 + 1 + 1 + 1 + 1 + 1 + 1 + 1 + 1 + 1 + 1) = 31 ∧ (nn + 1 + 1 + 1 + 1 + 1 + 1 + 1 + 1 + 1 + 1 + 1 + 1 + 1 + 1 + 1 + 1 + 1 + 1 + 1 + 1 + 1 + 1 + 1 + 1 + 1) < KN) <|
  pu (z3 M53 (nn + 1 + 1 + 1 + 1 + 1 + 1 + 1 + 1 + 1 + 1 + 1 + 1 + 1 + 1 + 1 + 1 + 1 + 1 + 1 + 1 + 1 + 1 + 1 + 1 + 1)) fun M54 =>
  ck (kd x0 = 11 ∧ x0 < nn + 1 + 1 + 1 + 1 + 1 + 1 + 1 + 1 + 1 + 1 + 1 + 1 + 1 + 1 + 1 + 1 + 1 + 1 + 1 + 1 + 1 + 1 + 1 + 1 + 1 + 1) <|
  pu (sR M54 x0 58 ((nn + 1 + 1 + 1 + 1 + 1 + 1 + 1 + 1 + 1 + 1 + 1 + 1 + 1 + 1 + 1 + 1 + 1 + 1 + 1 + 1 + 1 + 1 + 1 + 1 + 1) + 1)) fun M55 =>
  ck (kd (nn + 1 + 1 + 1 + 1 + 1 + 1 + 1 + 1 + 1 + 1 + 1 + 1 + 1 + 1 + 1 + 1 + 1 + 1 + 1 + 1 + 1 + 1 + 1 + 1 + 1 + 1) = 20 ∧ ln (nn + 1 + 1 + 1 + 1 + 1 + 1 + 1 + 1 + 1 + 1 + 1 + 1 + 1 + 1 + 1 + 1 + 1 + 1 + 1 + 1 + 1 + 1 + 1 + 1 + 1 + 1) = 1400 ∧ (nn + 1 + 1 + 1 + 1 + 1 + 1 + 1 + 1 + 1 + 1 + 1 + 1 + 1 + 1 + 1 + 1 + 1 + 1 + 1 + 1 + 1 + 1 + 1 + 1 + 1 + 1) < KN) <|
  pu (z3 M55 (nn + 1 + 1 + 1 + 1 + 1 + 1 + 1 + 1 + 1 + 1 + 1 + 1 + 1 + 1 + 1 + 1 + 1 + 1 + 1 + 1 + 1 + 1 + 1 + 1 + 1 + 1)) fun M56 =>
  ck (kd x0 = 11 ∧ x0 < nn + 1 + 1 + 1 + 1 + 1 + 1 + 1 + 1 + 1 + 1 + 1 + 1 + 1 + 1 + 1 + 1 + 1 + 1 + 1 + 1 + 1 + 1 + 1 + 1 + 1 + 1 + 1) <|
  pu (sR M56 x0 59 ((nn + 1 + 1 + 1 + 1 + 1 + 1 + 1 + 1 + 1 + 1 + 1 + 1 + 1 + 1 + 1 + 1 + 1 + 1 + 1 + 1 + 1 + 1 + 1 + 1 + 1 + 1) + 1)) fun M57 =>
  ck (kd (nn + 1 + 1 + 1 + 1 + 1 + 1 + 1 + 1 + 1 + 1 + 1 + 1 + 1 + 1 + 1 + 1 + 1 + 1 + 1 + 1 + 1 + 1 + 1 + 1 + 1 + 1 + 1) = 20 ∧ ln (nn + 1 + 1 + 1 + 1 + 1 + 1 + 1 + 1 + 1 + 1 + 1 + 1 + 1 + 1 + 1 + 1 + 1 + 1 + 1 + 1 + 1 + 1 + 1 + 1 + 1 + 1 + 1) = 950 ∧ (nn + 1 + 1 + 1 + 1 + 1 + 1 + 1 + 1 + 1 + 1 + 1 + 1 + 1 + 1 + 1 + 1 + 1 + 1 + 1 + 1 + 1 + 1 + 1 + 1 + 1 + 1 + 1) < KN) <|
  pu (z3 M57 (nn + 1 + 1 + 1 + 1 + 1 + 1 + 1 + 1 + 1 + 1 + 1 + 1 + 1 + 1 + 1 + 1 + 1 + 1 + 1 + 1 + 1 + 1 + 1 + 1 + 1 + 1 + 1)) fun M58 =>
  ck (kd x0 = 11 ∧ x0 < nn + 1 + 1 + 1 + 1 + 1 + 1 + 1 + 1 + 1 + 1 + 1 + 1 + 1 + 1 + 1 + 1 + 1 + 1 + 1 + 1 + 1 + 1 + 1 + 1 + 1 + 1 + 1 + 1) <|
  pu (sR M58 x0 60 ((nn + 1 + 1 + 1 + 1 + 1 + 1 + 1 + 1 + 1 + 1 + 1 + 1 + 1 + 1 + 1 + 1 + 1 + 1 + 1 + 1 + 1 + 1 + 1 + 1 + 1 + 1 + 1) + 1)) fun M59 =>
  ck (kd (nn + 1 + 1 + 1 + 1 + 1 + 1 + 1 + 1 + 1 + 1 + 1 + 1 + 1 + 1 + 1 + 1 + 1 + 1 + 1 + 1 + 1 + 1 + 1 + 1 + 1 + 1 + 1 + 1) = 23 ∧ ln (nn + 1 + 1 + 1 + 1 + 1 + 1 + 1 + 1 + 1 + 1 + 1 + 1 + 1 + 1 + 1 + 1 + 1 + 1 + 1 + 1 + 1 + 1 + 1 + 1 + 1 + 1 + 1 + 1) = 9 ∧ (nn + 1 + 1 + 1 + 1 + 1 + 1 + 1 + 1 + 1 + 1 + 1 + 1 + 1 + 1 + 1 + 1 + 1 + 1 + 1 + 1 + 1 + 1 + 1 + 1 + 1 + 1 + 1 + 1) < KN) <|
  pu (z3 M59 (nn + 1 + 1 + 1 + 1 + 1 + 1 + 1 + 1 + 1 + 1 + 1 + 1 + 1 + 1 + 1 + 1 + 1 + 1 + 1 + 1 + 1 + 1 + 1 + 1 + 1 + 1 + 1 + 1)) fun M60 =>
  ck (kd x0 = 11 ∧ x0 < nn + 1 + 1 + 1 + 1 + 1 + 1 + 1 + 1 + 1 + 1 + 1 + 1 + 1 + 1 + 1 + 1 + 1 + 1 + 1 + 1 + 1 + 1 + 1 + 1 + 1 + 1 + 1 + 1 + 1) <|
  pu (sR M60 x0 61 ((nn + 1 + 1 + 1 + 1 + 1 + 1 + 1 + 1 + 1 + 1 + 1 + 1 + 1 + 1 + 1 + 1 + 1 + 1 + 1 + 1 + 1 + 1 + 1 + 1 + 1 + 1 + 1 + 1) + 1)) fun M61 =>
  ck (kd (nn + 1 + 1 + 1 + 1 + 1 + 1 + 1 + 1 + 1 + 1 + 1 + 1 + 1 + 1 + 1 + 1 + 1 + 1 + 1 + 1 + 1 + 1 + 1 + 1 + 1 + 1 + 1 + 1 + 1) = 20 ∧ ln (nn + 1 + 1 + 1 + 1 + 1 + 1 + 1 + 1 + 1 + 1 + 1 + 1 + 1 + 1 + 1 + 1 + 1 + 1 + 1 + 1 + 1 + 1 + 1 + 1 + 1 + 1 + 1 + 1 + 1) = 186 ∧ (nn + 1 + 1 + 1 + 1 + 1 + 1 + 1 + 1 + 1 + 1 + 1 + 1 + 1 + 1 + 1 + 1 + 1 + 1 + 1 + 1 + 1 + 1 + 1 + 1 + 1 + 1 + 1 + 1 + 1) < KN) <|
  pu (z3 M61 (nn + 1 + 1 + 1 + 1 + 1 + 1 + 1 + 1 + 1 + 1 + 1 + 1 + 1 + 1 + 1 + 1 + 1 + 1 + 1 + 1 + 1 + 1 + 1 + 1 + 1 + 1 + 1 + 1 + 1)) fun M62 =>
  ck (kd x0 = 11 ∧ x0 < nn + 1 + 1 + 1 + 1 + 1 + 1 + 1 + 1 + 1 + 1 + 1 + 1 + 1 + 1 + 1 + 1 + 1 + 1 + 1 + 1 + 1 + 1 + 1 + 1 + 1 + 1 + 1 + 1 + 1 + 1) <|
  pu (sR M62 x0 62 ((nn + 1 + 1 + 1 + 1 + 1 + 1 + 1 + 1 + 1 + 1 + 1 + 1 + 1 + 1 + 1 + 1 + 1 + 1 + 1 + 1 + 1 + 1 + 1 + 1 + 1 + 1 + 1 + 1 + 1) + 1)) fun M63 =>
  ck (kd (nn + 1 + 1 + 1 + 1 + 1 + 1 + 1 + 1 + 1 + 1 + 1 + 1 + 1 + 1 + 1 + 1 + 1 + 1 + 1 + 1 + 1 + 1 + 1 + 1 + 1 + 1 + 1 + 1 + 1 + 1) = 20 ∧ ln (nn + 1 + 1 + 1 + 1 + 1 + 1 + 1 + 1 + 1 + 1 + 1 + 1 + 1 + 1 + 1 + 1 + 1 + 1 + 1 + 1 + 1 + 1 + 1 + 1 + 1 + 1 + 1 + 1 + 1 + 1) = 1240 ∧ (nn + 1 + 1 + 1 + 1 + 1 + 1 + 1 + 1 + 1 + 1 + 1 + 1 + 1 + 1 + 1 + 1 + 1 + 1 + 1 + 1 + 1 + 1 + 1 + 1 + 1 + 1 + 1 + 1 + 1 + 1) < KN) <|
  pu (z3 M63 (nn + 1 + 1 + 1 + 1 + 1 + 1 + 1 + 1 + 1 + 1 + 1 + 1 + 1 + 1 + 1 + 1 + 1 + 1 + 1 + 1 + 1 + 1 + 1 + 1 + 1 + 1 + 1 + 1 + 1 + 1)) fun M64 =>
  ck (kd x0 = 11 ∧ x0 < nn + 1 + 1 + 1 + 1 + 1 + 1 + 1 + 1 + 1 + 1 + 1 + 1 + 1 + 1 + 1 + 1 + 1 + 1 + 1 + 1 + 1 + 1 + 1 + 1 + 1 + 1 + 1 + 1 + 1 + 1 + 1) <|
  pu (sR M64 x0 63 ((nn + 1 + 1 + 1 + 1 + 1 + 1 + 1 + 1 + 1 + 1 + 1 + 1 + 1 + 1 + 1 + 1 + 1 + 1 + 1 + 1 + 1 + 1 + 1 + 1 + 1 + 1 + 1 + 1 + 1 + 1) + 1)) fun M65 =>
  ck (kd (nn + 1 + 1 + 1 + 1 + 1 + 1 + 1 + 1 + 1 + 1 + 1 + 1 + 1 + 1 + 1 + 1 + 1 + 1 + 1 + 1 + 1 + 1 + 1 + 1 + 1 + 1 + 1 + 1 + 1 + 1 + 1) = 20 ∧ ln (nn + 1 + 1 + 1 + 1 + 1 + 1 + 1 + 1 + 1 + 1 + 1 + 1 + 1 + 1 + 1 + 1 + 1 + 1 + 1 + 1 + 1 + 1 + 1 + 1 + 1 + 1 + 1 + 1 + 1 + 1 + 1) = 8 ∧ (nn + 1 + 1 + 1 + 1 + 1 + 1 + 1 + 1 + 1 + 1 + 1 + 1 + 1 + 1 + 1 + 1 + 1 + 1 + 1 + 1 + 1 + 1 + 1 + 1 + 1 + 1 + 1 + 1 + 1 + 1 + 1) < KN) <|
  pu (z3 M65 (nn + 1 + 1 + 1 + 1 + 1 + 1 + 1 + 1 + 1 + 1 + 1 + 1 + 1 + 1 + 1 + 1 + 1 + 1 + 1 + 1 + 1 + 1 + 1 + 1 + 1 + 1 + 1 + 1 + 1 + 1 + 1)) fun M66 =>
  ck (kd x0 = 11 ∧ x0 < nn + 1 + 1 + 1 + 1 + 1 + 1 + 1 + 1 + 1 + 1 + 1 + 1 + 1 + 1 + 1 + 1 + 1 + 1 + 1 + 1 + 1 + 1 + 1 + 1 + 1 + 1 + 1 + 1 + 1 + 1 + 1 + 1) <|
  pu (sR M66 x0 65 ((nn + 1 + 1 + 1 + 1 + 1 + 1 + 1 + 1 + 1 + 1 + 1 + 1 + 1 + 1 + 1 + 1 + 1 + 1 + 1 + 1 + 1 + 1 + 1 + 1 + 1 + 1 + 1 + 1 + 1 + 1 + 1) + 1)) fun M67 =>
  ck (kd (nn + 1 + 1 + 1 + 1 + 1 + 1 + 1 + 1 + 1 + 1 + 1 + 1 + 1 + 1 + 1 + 1 + 1 + 1 + 1 + 1 + 1 + 1 + 1 + 1 + 1 + 1 + 1 + 1 + 1 + 1 + 1 + 1) = 20 ∧ ln (nn + 1 + 1 + 1 + 1 + 1 + 1 + 1 + 1 + 1 + 1 + 1 + 1 + 1 + 1 + 1 + 1 + 1 + 1 + 1 + 1 + 1 + 1 + 1 + 1 + 1 + 1 + 1 + 1 + 1 + 1 + 1 + 1) = 950 ∧ (nn + 1 + 1 + 1 + 1 + 1 + 1 + 1 + 1 + 1 + 1 + 1 + 1 + 1 + 1 + 1 + 1 + 1 + 1 + 1 + 1 + 1 + 1 + 1 + 1 + 1 + 1 + 1 + 1 + 1 + 1 + 1 + 1) < KN) <|
  pu (z3 M67 (nn + 1 + 1 + 1 + 1 + 1 + 1 + 1 + 1 + 1 + 1 + 1 + 1 + 1 + 1 + 1 + 1 + 1 + 1 + 1 + 1 + 1 + 1 + 1 + 1 + 1 + 1 + 1 + 1 + 1 + 1 + 1 + 1)) fun M68 =>
  ck (kd x0 = 11 ∧ x0 < nn + 1 + 1 + 1 + 1 + 1 + 1 + 1 + 1 + 1 + 1 + 1 + 1 + 1 + 1 + 1 + 1 + 1 + 1 + 1 + 1 + 1 + 1 + 1 + 1 + 1 + 1 + 1 + 1 + 1 + 1 + 1 + 1 + 1) <|
  pu (sR M68 x0 66 ((nn + 1 + 1 + 1 + 1 + 1 + 1 + 1 + 1 + 1 + 1 + 1 + 1 + 1 + 1 + 1 + 1 + 1 + 1 + 1 + 1 + 1 + 1 + 1 + 1 + 1 + 1 + 1 + 1 + 1 + 1 + 1 + 1) + 1)) fun M69 =>
  ck (kd (nn + 1 + 1 + 1 + 1 + 1 + 1 + 1 + 1 + 1 + 1 + 1 + 1 + 1 + 1 + 1 + 1 + 1 + 1 + 1 + 1 + 1 + 1 + 1 + 1 + 1 + 1 + 1 + 1 + 1 + 1 + 1 + 1 + 1) = 20 ∧ ln (nn + 1 + 1 + 1 + 1 + 1 + 1 + 1 + 1 + 1 + 1 + 1 + 1 + 1 + 1 + 1 + 1 + 1 + 1 + 1 + 1 + 1 + 1 + 1 + 1 + 1 + 1 + 1 + 1 + 1 + 1 + 1 + 1 + 1) = 1024 ∧ (nn + 1 + 1 + 1 + 1 + 1 + 1 + 1 + 1 + 1 + 1 + 1 + 1 + 1 + 1 + 1 + 1 + 1 + 1 + 1 + 1 + 1 + 1 + 1 + 1 + 1 + 1 + 1 + 1 + 1 + 1 + 1 + 1 + 1) < KN) <|
  pu (z3 M69 (nn + 1 + 1 + 1 + 1 + 1 + 1 + 1 + 1 + 1 + 1 + 1 + 1 + 1 + 1 + 1 + 1 + 1 + 1 + 1 + 1 + 1 + 1 + 1 + 1 + 1 + 1 + 1 + 1 + 1 + 1 + 1 + 1 + 1)) fun M70 =>
  ck (kd x0 = 11 ∧ x0 < nn + 1 + 1 + 1 + 1 + 1 + 1 + 1 + 1 + 1 + 1 + 1 + 1 + 1 + 1 + 1 + 1 + 1 + 1 + 1 + 1 + 1 + 1 + 1 + 1 + 1 + 1 + 1 + 1 + 1 + 1 + 1 + 1 + 1 + 1) <|
  pu (sR M70 x0 68 ((nn + 1 + 1 + 1 + 1 + 1 + 1 + 1 + 1 + 1 + 1 + 1 + 1 + 1 + 1 + 1 + 1 + 1 + 1 + 1 + 1 + 1 + 1 + 1 + 1 + 1 + 1 + 1 + 1 + 1 + 1 + 1 + 1 + 1) + 1)) fun M71 =>
  ck (kd (nn + 1 + 1 + 1 + 1 + 1 + 1 + 1 + 1 + 1 + 1 + 1 + 1 + 1 + 1 + 1 + 1 + 1 + 1 + 1 + 1 + 1 + 1 + 1 + 1 + 1 + 1 + 1 + 1 + 1 + 1 + 1 + 1 + 1 + 1) = 20 ∧ ln (nn + 1 + 1 + 1 + 1 + 1 + 1 + 1 + 1 + 1 + 1 + 1 + 1 + 1 + 1 + 1 + 1 + 1 + 1 + 1 + 1 + 1 + 1 + 1 + 1 + 1 + 1 + 1 + 1 + 1 + 1 + 1 + 1 + 1 + 1) = 16 ∧ (nn + 1 + 1 + 1 + 1 + 1 + 1 + 1 + 1 + 1 + 1 + 1 + 1 + 1 + 1 + 1 + 1 + 1 + 1 + 1 + 1 + 1 + 1 + 1 + 1 + 1 + 1 + 1 + 1 + 1 + 1 + 1 + 1 + 1 + 1) < KN) <|
  pu (z3 M71 (nn + 1 + 1 + 1 + 1 + 1 + 1 + 1 + 1 + 1 + 1 + 1 + 1 + 1 + 1 + 1 + 1 + 1 + 1 + 1 + 1 + 1 + 1 + 1 + 1 + 1 + 1 + 1 + 1 + 1 + 1 + 1 + 1 + 1 + 1)) fun M72 =>
  ck (kd x0 = 11 ∧ x0 < nn + 1 + 1 + 1 + 1 + 1 + 1 + 1 + 1 + 1 + 1 + 1 + 1 + 1 + 1 + 1 + 1 + 1 + 1 + 1 + 1 + 1 + 1 + 1 + 1 + 1 + 1 + 1 + 1 + 1 + 1 + 1 + 1 + 1 + 1 + 1) <|
  pu (sR M72 x0 70 ((nn + 1 + 1 + 1 + 1 + 1 + 1 + 1 + 1 + 1 + 1 + 1 + 1 + 1 + 1 + 1 + 1 + 1 + 1 + 1 + 1 + 1 + 1 + 1 + 1 + 1 + 1 + 1 + 1 + 1 + 1 + 1 + 1 + 1 + 1) + 1)) fun M73 =>
  ck (kd (nn + 1 + 1 + 1 + 1 + 1 + 1 + 1 + 1 + 1 + 1 + 1 + 1 + 1 + 1 + 1 + 1 + 1 + 1 + 1 + 1 + 1 + 1 + 1 + 1 + 1 + 1 + 1 + 1 + 1 + 1 + 1 + 1 + 1 + 1 + 1) = 20 ∧ ln (nn + 1 + 1 + 1 + 1 + 1 + 1 + 1 + 1 + 1 + 1 + 1 + 1 + 1 + 1 + 1 + 1 + 1 + 1 + 1 + 1 + 1 + 1 + 1 + 1 + 1 + 1 + 1 + 1 + 1 + 1 + 1 + 1 + 1 + 1 + 1) = 30 ∧ (nn + 1 + 1 + 1 + 1 + 1 + 1 + 1 + 1 + 1 + 1 + 1 + 1 + 1 + 1 + 1 + 1 + 1 + 1 + 1 + 1 + 1 + 1 + 1 + 1 + 1 + 1 + 1 + 1 + 1 + 1 + 1 + 1 + 1 + 1 + 1) < KN) <|
  pu (z3 M73 (nn + 1 + 1 + 1 + 1 + 1 + 1 + 1 + 1 + 1 + 1 + 1 + 1 + 1 + 1 + 1 + 1 + 1 + 1 + 1 + 1 + 1 + 1 + 1 + 1 + 1 + 1 + 1 + 1 + 1 + 1 + 1 + 1 + 1 + 1 + 1)) fun M74 =>
  ck (kd x0 = 11 ∧ x0 < nn + 1 + 1 + 1 + 1 + 1 + 1 + 1 + 1 + 1 + 1 + 1 + 1 + 1 + 1 + 1 + 1 + 1 + 1 + 1 + 1 + 1 + 1 + 1 + 1 + 1 + 1 + 1 + 1 + 1 + 1 + 1 + 1 + 1 + 1 + 1 + 1) <|
  pu (sR M74 x0 71 ((nn + 1 + 1 + 1 + 1 + 1 + 1 + 1 + 1 + 1 + 1 + 1 + 1 + 1 + 1 + 1 + 1 + 1 + 1 + 1 + 1 + 1 + 1 + 1 + 1 + 1 + 1 + 1 + 1 + 1 + 1 + 1 + 1 + 1 + 1 + 1) + 1)) fun M75 =>
  ck (kd (nn + 1 + 1 + 1 + 1 + 1 + 1 + 1 + 1 + 1 + 1 + 1 + 1 + 1 + 1 + 1 + 1 + 1 + 1 + 1 + 1 + 1 + 1 + 1 + 1 + 1 + 1 + 1 + 1 + 1 + 1 + 1 + 1 + 1 + 1 + 1 + 1) = 20 ∧ ln (nn + 1 + 1 + 1 + 1 + 1 + 1 + 1 + 1 + 1 + 1 + 1 + 1 + 1 + 1 + 1 + 1 + 1 + 1 + 1 + 1 + 1 + 1 + 1 + 1 + 1 + 1 + 1 + 1 + 1 + 1 + 1 + 1 + 1 + 1 + 1 + 1) = 2520 ∧ (nn + 1 + 1 + 1 + 1 + 1 + 1 + 1 + 1 + 1 + 1 + 1 + 1 + 1 + 1 + 1 + 1 + 1 + 1 + 1 + 1 + 1 + 1 + 1 + 1 + 1 + 1 + 1 + 1 + 1 + 1 + 1 + 1 + 1 + 1 + 1 + 1) < KN) <|
  pu (z3 M75 (nn + 1 + 1 + 1 + 1 + 1 + 1 + 1 + 1 + 1 + 1 + 1 + 1 + 1 + 1 + 1 + 1 + 1 + 1 + 1 + 1 + 1 + 1 + 1 + 1 + 1 + 1 + 1 + 1 + 1 + 1 + 1 + 1 + 1 + 1 + 1 + 1)) fun M76 =>
  ck (kd x0 = 11 ∧ x0 < nn + 1 + 1 + 1 + 1 + 1 + 1 + 1 + 1 + 1 + 1 + 1 + 1 + 1 + 1 + 1 + 1 + 1 + 1 + 1 + 1 + 1 + 1 + 1 + 1 + 1 + 1 + 1 + 1 + 1 + 1 + 1 + 1 + 1 + 1 + 1 + 1 + 1) <|
  pu (sR M76 x0 72 ((nn + 1 + 1 + 1 + 1 + 1 + 1 + 1 + 1 + 1 + 1 + 1 + 1 + 1 + 1 + 1 + 1 + 1 + 1 + 1 + 1 + 1 + 1 + 1 + 1 + 1 + 1 + 1 + 1 + 1 + 1 + 1 + 1 + 1 + 1 + 1 + 1) + 1)) fun M77 =>
  ck (kd (nn + 1 + 1 + 1 + 1 + 1 + 1 + 1 + 1 + 1 + 1 + 1 + 1 + 1 + 1 + 1 + 1 + 1 + 1 + 1 + 1 + 1 + 1 + 1 + 1 + 1 + 1 + 1 + 1 + 1 + 1 + 1 + 1 + 1 + 1 + 1 + 1 + 1) = 20 ∧ ln (nn + 1 + 1 + 1 + 1 + 1 + 1 + 1 + 1 + 1 + 1 + 1 + 1 + 1 + 1 + 1 + 1 + 1 + 1 + 1 + 1 + 1 + 1 + 1 + 1 + 1 + 1 + 1 + 1 + 1 + 1 + 1 + 1 + 1 + 1 + 1 + 1 + 1) = 31 ∧ (nn + 1 + 1 + 1 + 1 + 1 + 1 + 1 + 1 + 1 + 1 + 1 + 1 + 1 + 1 + 1 + 1 + 1 + 1 + 1 + 1 + 1 + 1 + 1 + 1 + 1 + 1 + 1 + 1 + 1 + 1 + 1 + 1 + 1 + 1 + 1 + 1 + 1) < KN) <|
  pu (z3 M77 (nn + 1 + 1 + 1 + 1 + 1 + 1 + 1 + 1 + 1 + 1 + 1 + 1 + 1 + 1 + 1 + 1 + 1 + 1 + 1 + 1 + 1 + 1 + 1 + 1 + 1 + 1 + 1 + 1 + 1 + 1 + 1 + 1 + 1 + 1 + 1 + 1 + 1)) fun M78 =>
  ck (kd x0 = 11 ∧ x0 < nn + 1 + 1 + 1 + 1 + 1 + 1 + 1 + 1 + 1 + 1 + 1 + 1 + 1 + 1 + 1 + 1 + 1 + 1 + 1 + 1 + 1 + 1 + 1 + 1 + 1 + 1 + 1 + 1 + 1 + 1 + 1 + 1 + 1 + 1 + 1 + 1 + 1 + 1) <|
  pu (sR M78 x0 77 ((nn + 1 + 1 + 1 + 1 + 1 + 1 + 1 + 1 + 1 + 1 + 1 + 1 + 1 + 1 + 1 + 1 + 1 + 1 + 1 + 1 + 1 + 1 + 1 + 1 + 1 + 1 + 1 + 1 + 1 + 1 + 1 + 1 + 1 + 1 + 1 + 1 + 1) + 1)) fun M79 =>
  ck (kd (nn + 1 + 1 + 1 + 1 + 1 + 1 + 1 + 1 + 1 + 1 + 1 + 1 + 1 + 1 + 1 + 1 + 1 + 1 + 1 + 1 + 1 + 1 + 1 + 1 + 1 + 1 + 1 + 1 + 1 + 1 + 1 + 1 + 1 + 1 + 1 + 1 + 1 + 1) = 20 ∧ ln (nn + 1 + 1 + 1 + 1 + 1 + 1 + 1 + 1 + 1 + 1 + 1 + 1 + 1 + 1 + 1 + 1 + 1 + 1 + 1 + 1 + 1 + 1 + 1 + 1 + 1 + 1 + 1 + 1 + 1 + 1 + 1 + 1 + 1 + 1 + 1 + 1 + 1 + 1) = 1240 ∧ (nn + 1 + 1 + 1 + 1 + 1 + 1 + 1 + 1 + 1 + 1 + 1 + 1 + 1 + 1 + 1 + 1 + 1 + 1 + 1 + 1 + 1 + 1 + 1 + 1 + 1 + 1 + 1 + 1 + 1 + 1 + 1 + 1 + 1 + 1 + 1 + 1 + 1 + 1) < KN) <|
  pu (z3 M79 (nn + 1 + 1 + 1 + 1 + 1 + 1 + 1 + 1 + 1 + 1 + 1 + 1 + 1 + 1 + 1 + 1 + 1 + 1 + 1 + 1 + 1 + 1 + 1 + 1 + 1 + 1 + 1 + 1 + 1 + 1 + 1 + 1 + 1 + 1 + 1 + 1 + 1 + 1)) fun M80 =>
  ck (kd x0 = 11 ∧ x0 < nn + 1 + 1 + 1 + 1 + 1 + 1 + 1 + 1 + 1 + 1 + 1 + 1 + 1 + 1 + 1 + 1 + 1 + 1 + 1 + 1 + 1 + 1 + 1 + 1 + 1 + 1 + 1 + 1 + 1 + 1 + 1 + 1 + 1 + 1 + 1 + 1 + 1 + 1 + 1) <|
  pu (sR M80 x0 78 ((nn + 1 + 1 + 1 + 1 + 1 + 1 + 1 + 1 + 1 + 1 + 1 + 1 + 1 + 1 + 1 + 1 + 1 + 1 + 1 + 1 + 1 + 1 + 1 + 1 + 1 + 1 + 1 + 1 + 1 + 1 + 1 + 1 + 1 + 1 + 1 + 1 + 1 + 1) + 1)) fun M81 =>
  ck (kd (nn + 1 + 1 + 1 + 1 + 1 + 1 + 1 + 1 + 1 + 1 + 1 + 1 + 1 + 1 + 1 + 1 + 1 + 1 + 1 + 1 + 1 + 1 + 1 + 1 + 1 + 1 + 1 + 1 + 1 + 1 + 1 + 1 + 1 + 1 + 1 + 1 + 1 + 1 + 1) = 20 ∧ ln (nn + 1 + 1 + 1 + 1 + 1 + 1 + 1 + 1 + 1 + 1 + 1 + 1 + 1 + 1 + 1 + 1 + 1 + 1 + 1 + 1 + 1 + 1 + 1 + 1 + 1 + 1 + 1 + 1 + 1 + 1 + 1 + 1 + 1 + 1 + 1 + 1 + 1 + 1 + 1) = 16 ∧ (nn + 1 + 1 + 1 + 1 + 1 + 1 + 1 + 1 + 1 + 1 + 1 + 1 + 1 + 1 + 1 + 1 + 1 + 1 + 1 + 1 + 1 + 1 + 1 + 1 + 1 + 1 + 1 + 1 + 1 + 1 + 1 + 1 + 1 + 1 + 1 + 1 + 1 + 1 + 1) < KN) <|
  pu (z3 M81 (nn + 1 + 1 + 1 + 1 + 1 + 1 + 1 + 1 + 1 + 1 + 1 + 1 + 1 + 1 + 1 + 1 + 1 + 1 + 1 + 1 + 1 + 1 + 1 + 1 + 1 + 1 + 1 + 1 + 1 + 1 + 1 + 1 + 1 + 1 + 1 + 1 + 1 + 1 + 1)) fun M82 =>
  ck (kd x0 = 11 ∧ x0 < nn + 1 + 1 + 1 + 1 + 1 + 1 + 1 + 1 + 1 + 1 + 1 + 1 + 1 + 1 + 1 + 1 + 1 + 1 + 1 + 1 + 1 + 1 + 1 + 1 + 1 + 1 + 1 + 1 + 1 + 1 + 1 + 1 + 1 + 1 + 1 + 1 + 1 + 1 + 1 + 1) <|
  pu (sR M82 x0 79 ((nn + 1 + 1 + 1 + 1 + 1 + 1 + 1 + 1 + 1 + 1 + 1 + 1 + 1 + 1 + 1 + 1 + 1 + 1 + 1 + 1 + 1 + 1 + 1 + 1 + 1 + 1 + 1 + 1 + 1 + 1 + 1 + 1 + 1 + 1 + 1 + 1 + 1 + 1 + 1) + 1)) fun M83 =>
  ck (kd x0 = 11 ∧ x0 < nn + 1 + 1 + 1 + 1 + 1 + 1 + 1 + 1 + 1 + 1 + 1 + 1 + 1 + 1 + 1 + 1 + 1 + 1 + 1 + 1 + 1 + 1 + 1 + 1 + 1 + 1 + 1 + 1 + 1 + 1 + 1 + 1 + 1 + 1 + 1 + 1 + 1 + 1 + 1 + 1) <|
  ldR M83 x0 62 fun o84 =>
  ck (kd o84 = 20 ∧ ln o84 = 186 ∧ o84 < nn + 1 + 1 + 1 + 1 + 1 + 1 + 1 + 1 + 1 + 1 + 1 + 1 + 1 + 1 + 1 + 1 + 1 + 1 + 1 + 1 + 1 + 1 + 1 + 1 + 1 + 1 + 1 + 1 + 1 + 1 + 1 + 1 + 1 + 1 + 1 + 1 + 1 + 1 + 1 + 1) <|
  stI M83 o84 186 0 50 fun M85 =>
  ck (kd x0 = 11 ∧ x0 < nn + 1 + 1 + 1 + 1 + 1 + 1 + 1 + 1 + 1 + 1 + 1 + 1 + 1 + 1 + 1 + 1 + 1 + 1 + 1 + 1 + 1 + 1 + 1 + 1 + 1 + 1 + 1 + 1 + 1 + 1 + 1 + 1 + 1 + 1 + 1 + 1 + 1 + 1 + 1 + 1) <|
  ldR M85 x0 62 fun o86 =>
  ck (kd o86 = 20 ∧ ln o86 = 186 ∧ o86 < nn + 1 + 1 + 1 + 1 + 1 + 1 + 1 + 1 + 1 + 1 + 1 + 1 + 1 + 1 + 1 + 1 + 1 + 1 + 1 + 1 + 1 + 1 + 1 + 1 + 1 + 1 + 1 + 1 + 1 + 1 + 1 + 1 + 1 + 1 + 1 + 1 + 1 + 1 + 1 + 1) <|
  stI M85 o86 186 1 20 fun M87 =>
  ck (kd x0 = 11 ∧ x0 < nn + 1 + 1 + 1 + 1 + 1 + 1 + 1 + 1 + 1 + 1 + 1 + 1 + 1 + 1 + 1 + 1 + 1 + 1 + 1 + 1 + 1 + 1 + 1 + 1 + 1 + 1 + 1 + 1 + 1 + 1 + 1 + 1 + 1 + 1 + 1 + 1 + 1 + 1 + 1 + 1) <|
  ldR M87 x0 62 fun o88 =>
  ck (kd o88 = 20 ∧ ln o88 = 186 ∧ o88 < nn + 1 + 1 + 1 + 1 + 1 + 1 + 1 + 1 + 1 + 1 + 1 + 1 + 1 + 1 + 1 + 1 + 1 + 1 + 1 + 1 + 1 + 1 + 1 + 1 + 1 + 1 + 1 + 1 + 1 + 1 + 1 + 1 + 1 + 1 + 1 + 1 + 1 + 1 + 1 + 1) <|
  stI M87 o88 186 12 1 fun M89 =>
  some (nn + 1 + 1 + 1 + 1 + 1 + 1 + 1 + 1 + 1 + 1 + 1 + 1 + 1 + 1 + 1 + 1 + 1 + 1 + 1 + 1 + 1 + 1 + 1 + 1 + 1 + 1 + 1 + 1 + 1 + 1 + 1 + 1 + 1 + 1 + 1 + 1 + 1 + 1 + 1 + 1, M89)
theorem kcX13_init {G : GX} (h : OKm G cX13_init RX13 1 none { frames := 1, cells := 40, slots := 11902, locals := 40 }) (hi : G.2.2.2.2.2.2.2.2.2.1.name = yX13_init.name) {nn : Nat} {M : Mem} {x0 : Nat} {res : Nat × Mem} (zf : qX13_init nn M x0 = some res) : GC G (QmC G (Pcc res.1 res.2) 40 11902) nn 0 0 0 [(0, rv G.1 x0)] [] M := by
  unfold qX13_init at zf
  refine h_aload_n h 0 rfl dX13_init_0 ?_
  obtain ⟨zl, zf⟩ := pre_ck zf
  refine h_obj h zl mlX13_1 imObj ceObj (Nat.le_of_ble_eq_true rfl) (Nat.le_of_ble_eq_true rfl) dX13_init_1 ?_
  refine h_aload_n h 0 rfl dX13_init_4 ?_
  refine h_iconst h (-1) (v := (-1)) (by decide) dX13_init_5 ?_
  obtain ⟨⟨zk, zl⟩, zf⟩ := pre_ck zf
  refine hpX13_9 h zk zl dX13_init_6 ?_
  refine h_nmM zf (fun M1 zf => ?_)
  refine h_aload_n h 0 rfl dX13_init_9 ?_
  refine h_iconst h (-1) (v := (-1)) (by decide) dX13_init_10 ?_
  obtain ⟨⟨zk, zl⟩, zf⟩ := pre_ck zf
  refine hpX13_13 h zk zl dX13_init_11 ?_
  refine h_nmM zf (fun M2 zf => ?_)
  refine h_aload_n h 0 rfl dX13_init_14 ?_
  refine h_bipush h 7 (v := 7) (by decide) dX13_init_15 ?_
  obtain ⟨⟨zk, zn, zl⟩, zf⟩ := pre_ck zf
  refine h_newI h 7 zl zk zn (by decide) (by decide) (by decide) arr_int (Nat.le_of_ble_eq_true rfl) (Nat.le_of_ble_eq_true rfl) dX13_init_17 ?_
  refine h_nmM zf (fun M3 zf => ?_)
  obtain ⟨⟨zk, zl⟩, zf⟩ := pre_ck zf
  refine hpX13_16 h zk zl hi dX13_init_19 ?_
  refine h_nmM zf (fun M4 zf => ?_)
  refine h_aload_n h 0 rfl dX13_init_22 ?_
  refine h_bipush h 7 (v := 7) (by decide) dX13_init_23 ?_
  obtain ⟨⟨zk, zn, zl⟩, zf⟩ := pre_ck zf
  refine h_newI h 7 zl zk zn (by decide) (by decide) (by decide) arr_int (Nat.le_of_ble_eq_true rfl) (Nat.le_of_ble_eq_true rfl) dX13_init_25 ?_
  refine h_nmM zf (fun M5 zf => ?_)
  obtain ⟨⟨zk, zl⟩, zf⟩ := pre_ck zf
  refine hpX13_20 h zk zl hi dX13_init_27 ?_
  refine h_nmM zf (fun M6 zf => ?_)
  refine h_aload_n h 0 rfl dX13_init_30 ?_
  refine h_bipush h 7 (v := 7) (by decide) dX13_init_31 ?_
  obtain ⟨⟨zk, zn, zl⟩, zf⟩ := pre_ck zf
  refine h_newI h 7 zl zk zn (by decide) (by decide) (by decide) arr_int (Nat.le_of_ble_eq_true rfl) (Nat.le_of_ble_eq_true rfl) dX13_init_33 ?_
  refine h_nmM zf (fun M7 zf => ?_)
  obtain ⟨⟨zk, zl⟩, zf⟩ := pre_ck zf
  refine hpX13_23 h zk zl hi dX13_init_35 ?_
  refine h_nmM zf (fun M8 zf => ?_)
  refine h_aload_n h 0 rfl dX13_init_38 ?_
  refine h_bipush h 7 (v := 7) (by decide) dX13_init_39 ?_
  obtain ⟨⟨zk, zn, zl⟩, zf⟩ := pre_ck zf
  refine h_newI h 7 zl zk zn (by decide) (by decide) (by decide) arr_int (Nat.le_of_ble_eq_true rfl) (Nat.le_of_ble_eq_true rfl) dX13_init_41 ?_
  refine h_nmM zf (fun M9 zf => ?_)
  obtain ⟨⟨zk, zl⟩, zf⟩ := pre_ck zf
  refine hpX13_26 h zk zl hi dX13_init_43 ?_
  refine h_nmM zf (fun M10 zf => ?_)
  refine h_aload_n h 0 rfl dX13_init_46 ?_
  refine h_iconst h 2 (v := 2) (by decide) dX13_init_47 ?_
  obtain ⟨⟨zk, zn, zl⟩, zf⟩ := pre_ck zf
  refine h_newI h 2 zl zk zn (by decide) (by decide) (by decide) arr_int (Nat.le_of_ble_eq_true rfl) (Nat.le_of_ble_eq_true rfl) dX13_init_48 ?_
  refine h_nmM zf (fun M11 zf => ?_)
  obtain ⟨⟨zk, zl⟩, zf⟩ := pre_ck zf
  refine hpX13_29 h zk zl hi dX13_init_50 ?_
  refine h_nmM zf (fun M12 zf => ?_)
  refine h_aload_n h 0 rfl dX13_init_53 ?_
  refine h_bipush h 10 (v := 10) (by decide) dX13_init_54 ?_
  obtain ⟨⟨zk, zn, zl⟩, zf⟩ := pre_ck zf
  refine h_newI h 10 zl zk zn (by decide) (by decide) (by decide) arr_int (Nat.le_of_ble_eq_true rfl) (Nat.le_of_ble_eq_true rfl) dX13_init_56 ?_
  refine h_nmM zf (fun M13 zf => ?_)
  obtain ⟨⟨zk, zl⟩, zf⟩ := pre_ck zf
  refine hpX13_32 h zk zl hi dX13_init_58 ?_
  refine h_nmM zf (fun M14 zf => ?_)
  refine h_aload_n h 0 rfl dX13_init_61 ?_
  refine h_bipush h 6 (v := 6) (by decide) dX13_init_62 ?_
  obtain ⟨⟨zk, zn, zl⟩, zf⟩ := pre_ck zf
  refine h_newI h 6 zl zk zn (by decide) (by decide) (by decide) arr_int (Nat.le_of_ble_eq_true rfl) (Nat.le_of_ble_eq_true rfl) dX13_init_64 ?_
  refine h_nmM zf (fun M15 zf => ?_)
  obtain ⟨⟨zk, zl⟩, zf⟩ := pre_ck zf
  refine hpX13_35 h zk zl hi dX13_init_66 ?_
  refine h_nmM zf (fun M16 zf => ?_)
  refine h_aload_n h 0 rfl dX13_init_69 ?_
  refine h_bipush h 7 (v := 7) (by decide) dX13_init_70 ?_
  obtain ⟨⟨zk, zn, zl⟩, zf⟩ := pre_ck zf
  refine h_newI h 7 zl zk zn (by decide) (by decide) (by decide) arr_int (Nat.le_of_ble_eq_true rfl) (Nat.le_of_ble_eq_true rfl) dX13_init_72 ?_
  refine h_nmM zf (fun M17 zf => ?_)
  obtain ⟨⟨zk, zl⟩, zf⟩ := pre_ck zf
  refine hpX13_38 h zk zl hi dX13_init_74 ?_
  refine h_nmM zf (fun M18 zf => ?_)
  refine h_aload_n h 0 rfl dX13_init_77 ?_
  refine h_bipush h 7 (v := 7) (by decide) dX13_init_78 ?_
  obtain ⟨⟨zk, zn, zl⟩, zf⟩ := pre_ck zf
  refine h_newI h 7 zl zk zn (by decide) (by decide) (by decide) arr_int (Nat.le_of_ble_eq_true rfl) (Nat.le_of_ble_eq_true rfl) dX13_init_80 ?_
  refine h_nmM zf (fun M19 zf => ?_)
  obtain ⟨⟨zk, zl⟩, zf⟩ := pre_ck zf
  refine hpX13_41 h zk zl hi dX13_init_82 ?_
  refine h_nmM zf (fun M20 zf => ?_)
  refine h_aload_n h 0 rfl dX13_init_85 ?_
  refine h_bipush h 7 (v := 7) (by decide) dX13_init_86 ?_
  obtain ⟨⟨zk, zn, zl⟩, zf⟩ := pre_ck zf
  refine h_newI h 7 zl zk zn (by decide) (by decide) (by decide) arr_int (Nat.le_of_ble_eq_true rfl) (Nat.le_of_ble_eq_true rfl) dX13_init_88 ?_
  refine h_nmM zf (fun M21 zf => ?_)
  obtain ⟨⟨zk, zl⟩, zf⟩ := pre_ck zf
  refine hpX13_44 h zk zl hi dX13_init_90 ?_
  refine h_nmM zf (fun M22 zf => ?_)
  refine h_aload_n h 0 rfl dX13_init_93 ?_
  refine h_bipush h 7 (v := 7) (by decide) dX13_init_94 ?_
  obtain ⟨⟨zk, zn, zl⟩, zf⟩ := pre_ck zf
  refine h_newI h 7 zl zk zn (by decide) (by decide) (by decide) arr_int (Nat.le_of_ble_eq_true rfl) (Nat.le_of_ble_eq_true rfl) dX13_init_96 ?_
  refine h_nmM zf (fun M23 zf => ?_)
  obtain ⟨⟨zk, zl⟩, zf⟩ := pre_ck zf
  refine hpX13_47 h zk zl hi dX13_init_98 ?_
  refine h_nmM zf (fun M24 zf => ?_)
  refine h_aload_n h 0 rfl dX13_init_101 ?_
  refine h_sipush h 1400 (v := 1400) (by decide) dX13_init_102 ?_
  obtain ⟨⟨zk, zn, zl⟩, zf⟩ := pre_ck zf
  refine h_newI h 1400 zl zk zn (by decide) (by decide) (by decide) arr_int (Nat.le_of_ble_eq_true rfl) (Nat.le_of_ble_eq_true rfl) dX13_init_105 ?_
  refine h_nmM zf (fun M25 zf => ?_)
  obtain ⟨⟨zk, zl⟩, zf⟩ := pre_ck zf
  refine hpX13_50 h zk zl hi dX13_init_107 ?_
  refine h_nmM zf (fun M26 zf => ?_)
  refine h_aload_n h 0 rfl dX13_init_110 ?_
  refine h_sipush h 700 (v := 700) (by decide) dX13_init_111 ?_
  obtain ⟨⟨zk, zn, zl⟩, zf⟩ := pre_ck zf
  refine h_newI h 700 zl zk zn (by decide) (by decide) (by decide) arr_int (Nat.le_of_ble_eq_true rfl) (Nat.le_of_ble_eq_true rfl) dX13_init_114 ?_
  refine h_nmM zf (fun M27 zf => ?_)
  obtain ⟨⟨zk, zl⟩, zf⟩ := pre_ck zf
  refine hpX13_53 h zk zl hi dX13_init_116 ?_
  refine h_nmM zf (fun M28 zf => ?_)
  refine h_aload_n h 0 rfl dX13_init_119 ?_
  refine h_iconst h (-1) (v := (-1)) (by decide) dX13_init_120 ?_
  obtain ⟨⟨zk, zl⟩, zf⟩ := pre_ck zf
  refine hpX13_56 h zk zl dX13_init_121 ?_
  refine h_nmM zf (fun M29 zf => ?_)
  refine h_aload_n h 0 rfl dX13_init_124 ?_
  refine h_iconst h 3 (v := 3) (by decide) dX13_init_125 ?_
  obtain ⟨⟨zk, zn, zl⟩, zf⟩ := pre_ck zf
  refine h_newI h 3 zl zk zn (by decide) (by decide) (by decide) arr_int (Nat.le_of_ble_eq_true rfl) (Nat.le_of_ble_eq_true rfl) dX13_init_126 ?_
  refine h_nmM zf (fun M30 zf => ?_)
  obtain ⟨⟨zk, zl⟩, zf⟩ := pre_ck zf
  refine hpX13_59 h zk zl hi dX13_init_128 ?_
  refine h_nmM zf (fun M31 zf => ?_)
  refine h_aload_n h 0 rfl dX13_init_131 ?_
  refine h_bipush h 7 (v := 7) (by decide) dX13_init_132 ?_
  obtain ⟨⟨zk, zn, zl⟩, zf⟩ := pre_ck zf
  refine h_newI h 7 zl zk zn (by decide) (by decide) (by decide) arr_int (Nat.le_of_ble_eq_true rfl) (Nat.le_of_ble_eq_true rfl) dX13_init_134 ?_
  refine h_nmM zf (fun M32 zf => ?_)
  obtain ⟨⟨zk, zl⟩, zf⟩ := pre_ck zf
  refine hpX13_62 h zk zl hi dX13_init_136 ?_
  refine h_nmM zf (fun M33 zf => ?_)
  refine h_aload_n h 0 rfl dX13_init_139 ?_
  refine h_bipush h 7 (v := 7) (by decide) dX13_init_140 ?_
  obtain ⟨⟨zk, zn, zl⟩, zf⟩ := pre_ck zf
  refine h_newI h 7 zl zk zn (by decide) (by decide) (by decide) arr_int (Nat.le_of_ble_eq_true rfl) (Nat.le_of_ble_eq_true rfl) dX13_init_142 ?_
  refine h_nmM zf (fun M34 zf => ?_)
  obtain ⟨⟨zk, zl⟩, zf⟩ := pre_ck zf
  refine hpX13_65 h zk zl hi dX13_init_144 ?_
  refine h_nmM zf (fun M35 zf => ?_)
  refine h_aload_n h 0 rfl dX13_init_147 ?_
  refine h_bipush h 7 (v := 7) (by decide) dX13_init_148 ?_
  obtain ⟨⟨zk, zn, zl⟩, zf⟩ := pre_ck zf
  refine h_newI h 7 zl zk zn (by decide) (by decide) (by decide) arr_int (Nat.le_of_ble_eq_true rfl) (Nat.le_of_ble_eq_true rfl) dX13_init_150 ?_
  refine h_nmM zf (fun M36 zf => ?_)
  obtain ⟨⟨zk, zl⟩, zf⟩ := pre_ck zf
  refine hpX13_68 h zk zl hi dX13_init_152 ?_
  refine h_nmM zf (fun M37 zf => ?_)
  refine h_aload_n h 0 rfl dX13_init_155 ?_
  refine h_bipush h 7 (v := 7) (by decide) dX13_init_156 ?_
  obtain ⟨⟨zk, zn, zl⟩, zf⟩ := pre_ck zf
  refine h_newI h 7 zl zk zn (by decide) (by decide) (by decide) arr_int (Nat.le_of_ble_eq_true rfl) (Nat.le_of_ble_eq_true rfl) dX13_init_158 ?_
  refine h_nmM zf (fun M38 zf => ?_)
  obtain ⟨⟨zk, zl⟩, zf⟩ := pre_ck zf
  refine hpX13_71 h zk zl hi dX13_init_160 ?_
  refine h_nmM zf (fun M39 zf => ?_)
  refine h_aload_n h 0 rfl dX13_init_163 ?_
  refine h_iconst h 2 (v := 2) (by decide) dX13_init_164 ?_
  obtain ⟨⟨zk, zn, zl⟩, zf⟩ := pre_ck zf
  refine h_newI h 2 zl zk zn (by decide) (by decide) (by decide) arr_int (Nat.le_of_ble_eq_true rfl) (Nat.le_of_ble_eq_true rfl) dX13_init_165 ?_
  refine h_nmM zf (fun M40 zf => ?_)
  obtain ⟨⟨zk, zl⟩, zf⟩ := pre_ck zf
  refine hpX13_74 h zk zl hi dX13_init_167 ?_
  refine h_nmM zf (fun M41 zf => ?_)
  refine h_aload_n h 0 rfl dX13_init_170 ?_
  refine h_bipush h 10 (v := 10) (by decide) dX13_init_171 ?_
  obtain ⟨⟨zk, zn, zl⟩, zf⟩ := pre_ck zf
  refine h_newI h 10 zl zk zn (by decide) (by decide) (by decide) arr_int (Nat.le_of_ble_eq_true rfl) (Nat.le_of_ble_eq_true rfl) dX13_init_173 ?_
  refine h_nmM zf (fun M42 zf => ?_)
  obtain ⟨⟨zk, zl⟩, zf⟩ := pre_ck zf
  refine hpX13_77 h zk zl hi dX13_init_175 ?_
  refine h_nmM zf (fun M43 zf => ?_)
  refine h_aload_n h 0 rfl dX13_init_178 ?_
  refine h_bipush h 6 (v := 6) (by decide) dX13_init_179 ?_
  obtain ⟨⟨zk, zn, zl⟩, zf⟩ := pre_ck zf
  refine h_newI h 6 zl zk zn (by decide) (by decide) (by decide) arr_int (Nat.le_of_ble_eq_true rfl) (Nat.le_of_ble_eq_true rfl) dX13_init_181 ?_
  refine h_nmM zf (fun M44 zf => ?_)
  obtain ⟨⟨zk, zl⟩, zf⟩ := pre_ck zf
  refine hpX13_80 h zk zl hi dX13_init_183 ?_
  refine h_nmM zf (fun M45 zf => ?_)
  refine h_aload_n h 0 rfl dX13_init_186 ?_
  refine h_bipush h 7 (v := 7) (by decide) dX13_init_187 ?_
  obtain ⟨⟨zk, zn, zl⟩, zf⟩ := pre_ck zf
  refine h_newI h 7 zl zk zn (by decide) (by decide) (by decide) arr_int (Nat.le_of_ble_eq_true rfl) (Nat.le_of_ble_eq_true rfl) dX13_init_189 ?_
  refine h_nmM zf (fun M46 zf => ?_)
  obtain ⟨⟨zk, zl⟩, zf⟩ := pre_ck zf
  refine hpX13_83 h zk zl hi dX13_init_191 ?_
  refine h_nmM zf (fun M47 zf => ?_)
  refine h_aload_n h 0 rfl dX13_init_194 ?_
  refine h_bipush h 7 (v := 7) (by decide) dX13_init_195 ?_
  obtain ⟨⟨zk, zn, zl⟩, zf⟩ := pre_ck zf
  refine h_newI h 7 zl zk zn (by decide) (by decide) (by decide) arr_int (Nat.le_of_ble_eq_true rfl) (Nat.le_of_ble_eq_true rfl) dX13_init_197 ?_
  refine h_nmM zf (fun M48 zf => ?_)
  obtain ⟨⟨zk, zl⟩, zf⟩ := pre_ck zf
  refine hpX13_86 h zk zl hi dX13_init_199 ?_
  refine h_nmM zf (fun M49 zf => ?_)
  refine h_aload_n h 0 rfl dX13_init_202 ?_
  refine h_bipush h 7 (v := 7) (by decide) dX13_init_203 ?_
  obtain ⟨⟨zk, zn, zl⟩, zf⟩ := pre_ck zf
  refine h_newI h 7 zl zk zn (by decide) (by decide) (by decide) arr_int (Nat.le_of_ble_eq_true rfl) (Nat.le_of_ble_eq_true rfl) dX13_init_205 ?_
  refine h_nmM zf (fun M50 zf => ?_)
  obtain ⟨⟨zk, zl⟩, zf⟩ := pre_ck zf
  refine hpX13_89 h zk zl hi dX13_init_207 ?_
  refine h_nmM zf (fun M51 zf => ?_)
  refine h_aload_n h 0 rfl dX13_init_210 ?_
  refine h_bipush h 7 (v := 7) (by decide) dX13_init_211 ?_
  obtain ⟨⟨zk, zn, zl⟩, zf⟩ := pre_ck zf
  refine h_newI h 7 zl zk zn (by decide) (by decide) (by decide) arr_int (Nat.le_of_ble_eq_true rfl) (Nat.le_of_ble_eq_true rfl) dX13_init_213 ?_
  refine h_nmM zf (fun M52 zf => ?_)
  obtain ⟨⟨zk, zl⟩, zf⟩ := pre_ck zf
  refine hpX13_92 h zk zl hi dX13_init_215 ?_
  refine h_nmM zf (fun M53 zf => ?_)
  refine h_aload_n h 0 rfl dX13_init_218 ?_
  refine h_bipush h 31 (v := 31) (by decide) dX13_init_219 ?_
  obtain ⟨⟨zk, zn, zl⟩, zf⟩ := pre_ck zf
  refine h_newI h 31 zl zk zn (by decide) (by decide) (by decide) arr_int (Nat.le_of_ble_eq_true rfl) (Nat.le_of_ble_eq_true rfl) dX13_init_221 ?_
  refine h_nmM zf (fun M54 zf => ?_)
  obtain ⟨⟨zk, zl⟩, zf⟩ := pre_ck zf
  refine hpX13_95 h zk zl hi dX13_init_223 ?_
  refine h_nmM zf (fun M55 zf => ?_)
  refine h_aload_n h 0 rfl dX13_init_226 ?_
  refine h_sipush h 1400 (v := 1400) (by decide) dX13_init_227 ?_
  obtain ⟨⟨zk, zn, zl⟩, zf⟩ := pre_ck zf
  refine h_newI h 1400 zl zk zn (by decide) (by decide) (by decide) arr_int (Nat.le_of_ble_eq_true rfl) (Nat.le_of_ble_eq_true rfl) dX13_init_230 ?_
  refine h_nmM zf (fun M56 zf => ?_)
  obtain ⟨⟨zk, zl⟩, zf⟩ := pre_ck zf
  refine hpX13_98 h zk zl hi dX13_init_232 ?_
  refine h_nmM zf (fun M57 zf => ?_)
  refine h_aload_n h 0 rfl dX13_init_235 ?_
  refine h_sipush h 950 (v := 950) (by decide) dX13_init_236 ?_
  obtain ⟨⟨zk, zn, zl⟩, zf⟩ := pre_ck zf
  refine h_newI h 950 zl zk zn (by decide) (by decide) (by decide) arr_int (Nat.le_of_ble_eq_true rfl) (Nat.le_of_ble_eq_true rfl) dX13_init_239 ?_
  refine h_nmM zf (fun M58 zf => ?_)
  obtain ⟨⟨zk, zl⟩, zf⟩ := pre_ck zf
  refine hpX13_101 h zk zl hi dX13_init_241 ?_
  refine h_nmM zf (fun M59 zf => ?_)
  refine h_aload_n h 0 rfl dX13_init_244 ?_
  refine h_bipush h 9 (v := 9) (by decide) dX13_init_245 ?_
  obtain ⟨⟨zk, zn, zl⟩, zf⟩ := pre_ck zf
  refine h_newZ h 9 zl zk zn (by decide) (by decide) (by decide) arr_boolean (Nat.le_of_ble_eq_true rfl) (Nat.le_of_ble_eq_true rfl) dX13_init_247 ?_
  refine h_nmM zf (fun M60 zf => ?_)
  obtain ⟨⟨zk, zl⟩, zf⟩ := pre_ck zf
  refine hpX13_104 h zk zl hi dX13_init_249 ?_
  refine h_nmM zf (fun M61 zf => ?_)
  refine h_aload_n h 0 rfl dX13_init_252 ?_
  refine h_sipush h 186 (v := 186) (by decide) dX13_init_253 ?_
  obtain ⟨⟨zk, zn, zl⟩, zf⟩ := pre_ck zf
  refine h_newI h 186 zl zk zn (by decide) (by decide) (by decide) arr_int (Nat.le_of_ble_eq_true rfl) (Nat.le_of_ble_eq_true rfl) dX13_init_256 ?_
  refine h_nmM zf (fun M62 zf => ?_)
  obtain ⟨⟨zk, zl⟩, zf⟩ := pre_ck zf
  refine hpX13_108 h zk zl hi dX13_init_258 ?_
  refine h_nmM zf (fun M63 zf => ?_)
  refine h_aload_n h 0 rfl dX13_init_261 ?_
  refine h_sipush h 1240 (v := 1240) (by decide) dX13_init_262 ?_
  obtain ⟨⟨zk, zn, zl⟩, zf⟩ := pre_ck zf
  refine h_newI h 1240 zl zk zn (by decide) (by decide) (by decide) arr_int (Nat.le_of_ble_eq_true rfl) (Nat.le_of_ble_eq_true rfl) dX13_init_265 ?_
  refine h_nmM zf (fun M64 zf => ?_)
  obtain ⟨⟨zk, zl⟩, zf⟩ := pre_ck zf
  refine hpX13_111 h zk zl hi dX13_init_267 ?_
  refine h_nmM zf (fun M65 zf => ?_)
  refine h_aload_n h 0 rfl dX13_init_270 ?_
  refine h_bipush h 8 (v := 8) (by decide) dX13_init_271 ?_
  obtain ⟨⟨zk, zn, zl⟩, zf⟩ := pre_ck zf
  refine h_newI h 8 zl zk zn (by decide) (by decide) (by decide) arr_int (Nat.le_of_ble_eq_true rfl) (Nat.le_of_ble_eq_true rfl) dX13_init_273 ?_
  refine h_nmM zf (fun M66 zf => ?_)
  obtain ⟨⟨zk, zl⟩, zf⟩ := pre_ck zf
  refine hpX13_114 h zk zl hi dX13_init_275 ?_
  refine h_nmM zf (fun M67 zf => ?_)
  refine h_aload_n h 0 rfl dX13_init_278 ?_
  refine h_sipush h 950 (v := 950) (by decide) dX13_init_279 ?_
  obtain ⟨⟨zk, zn, zl⟩, zf⟩ := pre_ck zf
  refine h_newI h 950 zl zk zn (by decide) (by decide) (by decide) arr_int (Nat.le_of_ble_eq_true rfl) (Nat.le_of_ble_eq_true rfl) dX13_init_282 ?_
  refine h_nmM zf (fun M68 zf => ?_)
  obtain ⟨⟨zk, zl⟩, zf⟩ := pre_ck zf
  refine hpX13_117 h zk zl hi dX13_init_284 ?_
  refine h_nmM zf (fun M69 zf => ?_)
  refine h_aload_n h 0 rfl dX13_init_287 ?_
  refine h_sipush h 1024 (v := 1024) (by decide) dX13_init_288 ?_
  obtain ⟨⟨zk, zn, zl⟩, zf⟩ := pre_ck zf
  refine h_newI h 1024 zl zk zn (by decide) (by decide) (by decide) arr_int (Nat.le_of_ble_eq_true rfl) (Nat.le_of_ble_eq_true rfl) dX13_init_291 ?_
  refine h_nmM zf (fun M70 zf => ?_)
  obtain ⟨⟨zk, zl⟩, zf⟩ := pre_ck zf
  refine hpX13_120 h zk zl hi dX13_init_293 ?_
  refine h_nmM zf (fun M71 zf => ?_)
  refine h_aload_n h 0 rfl dX13_init_296 ?_
  refine h_bipush h 16 (v := 16) (by decide) dX13_init_297 ?_
  obtain ⟨⟨zk, zn, zl⟩, zf⟩ := pre_ck zf
  refine h_newI h 16 zl zk zn (by decide) (by decide) (by decide) arr_int (Nat.le_of_ble_eq_true rfl) (Nat.le_of_ble_eq_true rfl) dX13_init_299 ?_
  refine h_nmM zf (fun M72 zf => ?_)
  obtain ⟨⟨zk, zl⟩, zf⟩ := pre_ck zf
  refine hpX13_123 h zk zl hi dX13_init_301 ?_
  refine h_nmM zf (fun M73 zf => ?_)
  refine h_aload_n h 0 rfl dX13_init_304 ?_
  refine h_bipush h 30 (v := 30) (by decide) dX13_init_305 ?_
  obtain ⟨⟨zk, zn, zl⟩, zf⟩ := pre_ck zf
  refine h_newI h 30 zl zk zn (by decide) (by decide) (by decide) arr_int (Nat.le_of_ble_eq_true rfl) (Nat.le_of_ble_eq_true rfl) dX13_init_307 ?_
  refine h_nmM zf (fun M74 zf => ?_)
  obtain ⟨⟨zk, zl⟩, zf⟩ := pre_ck zf
  refine hpX13_126 h zk zl hi dX13_init_309 ?_
  refine h_nmM zf (fun M75 zf => ?_)
  refine h_aload_n h 0 rfl dX13_init_312 ?_
  refine h_sipush h 2520 (v := 2520) (by decide) dX13_init_313 ?_
  obtain ⟨⟨zk, zn, zl⟩, zf⟩ := pre_ck zf
  refine h_newI h 2520 zl zk zn (by decide) (by decide) (by decide) arr_int (Nat.le_of_ble_eq_true rfl) (Nat.le_of_ble_eq_true rfl) dX13_init_316 ?_
  refine h_nmM zf (fun M76 zf => ?_)
  obtain ⟨⟨zk, zl⟩, zf⟩ := pre_ck zf
  refine hpX13_129 h zk zl hi dX13_init_318 ?_
  refine h_nmM zf (fun M77 zf => ?_)
  refine h_aload_n h 0 rfl dX13_init_321 ?_
  refine h_bipush h 31 (v := 31) (by decide) dX13_init_322 ?_
  obtain ⟨⟨zk, zn, zl⟩, zf⟩ := pre_ck zf
  refine h_newI h 31 zl zk zn (by decide) (by decide) (by decide) arr_int (Nat.le_of_ble_eq_true rfl) (Nat.le_of_ble_eq_true rfl) dX13_init_324 ?_
  refine h_nmM zf (fun M78 zf => ?_)
  obtain ⟨⟨zk, zl⟩, zf⟩ := pre_ck zf
  refine hpX13_132 h zk zl hi dX13_init_326 ?_
  refine h_nmM zf (fun M79 zf => ?_)
  refine h_aload_n h 0 rfl dX13_init_329 ?_
  refine h_sipush h 1240 (v := 1240) (by decide) dX13_init_330 ?_
  obtain ⟨⟨zk, zn, zl⟩, zf⟩ := pre_ck zf
  refine h_newI h 1240 zl zk zn (by decide) (by decide) (by decide) arr_int (Nat.le_of_ble_eq_true rfl) (Nat.le_of_ble_eq_true rfl) dX13_init_333 ?_
  refine h_nmM zf (fun M80 zf => ?_)
  obtain ⟨⟨zk, zl⟩, zf⟩ := pre_ck zf
  refine hpX13_135 h zk zl hi dX13_init_335 ?_
  refine h_nmM zf (fun M81 zf => ?_)
  refine h_aload_n h 0 rfl dX13_init_338 ?_
  refine h_bipush h 16 (v := 16) (by decide) dX13_init_339 ?_
  obtain ⟨⟨zk, zn, zl⟩, zf⟩ := pre_ck zf
  refine h_newI h 16 zl zk zn (by decide) (by decide) (by decide) arr_int (Nat.le_of_ble_eq_true rfl) (Nat.le_of_ble_eq_true rfl) dX13_init_341 ?_
  refine h_nmM zf (fun M82 zf => ?_)
  obtain ⟨⟨zk, zl⟩, zf⟩ := pre_ck zf
  refine hpX13_138 h zk zl hi dX13_init_343 ?_
  refine h_nmM zf (fun M83 zf => ?_)
  refine h_aload_n h 0 rfl dX13_init_346 ?_
  obtain ⟨⟨zk, zl⟩, zf⟩ := pre_ck zf
  refine hgX13_108 h zk zl zf dX13_init_347 (fun o84 zf => ?_)
  refine h_iconst h 0 (v := 0) (by decide) dX13_init_350 ?_
  refine h_bipush h 50 (v := 50) (by decide) dX13_init_351 ?_
  obtain ⟨⟨zk, zn, zl⟩, zf⟩ := pre_ck zf
  refine h_iast h 186 zk zl zn zf dX13_init_353 (fun M85 zf => ?_)
  refine h_aload_n h 0 rfl dX13_init_354 ?_
  obtain ⟨⟨zk, zl⟩, zf⟩ := pre_ck zf
  refine hgX13_108 h zk zl zf dX13_init_355 (fun o86 zf => ?_)
  refine h_iconst h 1 (v := 1) (by decide) dX13_init_358 ?_
  refine h_bipush h 20 (v := 20) (by decide) dX13_init_359 ?_
  obtain ⟨⟨zk, zn, zl⟩, zf⟩ := pre_ck zf
  refine h_iast h 186 zk zl zn zf dX13_init_361 (fun M87 zf => ?_)
  refine h_aload_n h 0 rfl dX13_init_362 ?_
  obtain ⟨⟨zk, zl⟩, zf⟩ := pre_ck zf
  refine hgX13_108 h zk zl zf dX13_init_363 (fun o88 zf => ?_)
  refine h_bipush h 12 (v := 12) (by decide) dX13_init_366 ?_
  refine h_iconst h 1 (v := 1) (by decide) dX13_init_368 ?_
  obtain ⟨⟨zk, zn, zl⟩, zf⟩ := pre_ck zf
  refine h_iast h 186 zk zl zn zf dX13_init_369 (fun M89 zf => ?_)
  obtain rfl := Option.some.inj zf
  exact h_vret h rfl ⟨rfl, rfl⟩ (Nat.le_of_ble_eq_true rfl) (Nat.le_of_ble_eq_true rfl) dX13_init_370
theorem ccX13_init {l : Launch} {w : WX} {nn : Nat} {M : Mem} {x0 : Nat} {res : Nat × Mem} (zf : qX13_init nn M x0 = some res) : CC l w yX13_init cX13_init 1 { frames := 1, cells := 40, slots := 11902, locals := 40 } 40 11902 [rv w x0] nn M (Pcc res.1 res.2) := by
  refine CC_of (by decide) (Nat.le_of_ble_eq_true rfl) (fun G hw hl h hi => ?_)
  subst hw
  exact kcX13_init h hi zf
