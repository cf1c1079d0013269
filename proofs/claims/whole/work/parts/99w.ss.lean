/-! WHAT HOLDS OF THE STATE: the tables -/
def tWO : Term := .static "TurnBrothers" "WORDS" "[LTurnBrothers$Word;"
def tSW : Term := .static "TurnBrothers$1" "$SwitchMap$TurnBrothers$Word" "[I"
theorem x_wl : Cond.laysStatic "TurnBrothers" "WORDS" "[LTurnBrothers$Word;" ∈ lw_tbl := by decide +kernel
theorem x_wi : Cond.initialized "TurnBrothers" ∈ lw_tbl := by decide +kernel
theorem x_sl : Cond.laysStatic "TurnBrothers$1" "$SwitchMap$TurnBrothers$Word" "[I" ∈ lw_tbl := by decide +kernel
theorem x_si : Cond.initialized "TurnBrothers$1" ∈ lw_tbl := by decide +kernel
theorem x_cl : Cond.laysStatic "java/lang/String" "COMPACT_STRINGS" "Z" ∈ lw_tbl := by decide +kernel
theorem x_ci : Cond.initialized "java/lang/String" ∈ lw_tbl := by decide +kernel
theorem x_pl : Cond.laysStatic "jdk/internal/util/Preconditions" "SIOOBE_FORMATTER" "Ljava/util/function/BiFunction;" ∈ lw_tbl := by decide +kernel
theorem x_pi : Cond.initialized "jdk/internal/util/Preconditions" ∈ lw_tbl := by decide +kernel
theorem x_tl : Cond.laysStatic Bundle.tN "UNASSIGNED_STACK" Bundle.steD ∈ lw_tbl := by decide +kernel
theorem x_ul : Cond.laysStatic Bundle.tN "SUPPRESSED_SENTINEL" Bundle.listD ∈ lw_tbl := by decide +kernel
theorem x_ti : Cond.initialized Bundle.tN ∈ lw_tbl := by decide +kernel
theorem x_wa : Cond.arrayOf tWO (.object "TurnBrothers$Word") ∈ FLc := by decide +kernel
theorem x_wn : Cond.eq (.length tWO) (.int (Int32.ofNat 23)) ∈ FLc := by decide +kernel
theorem x_we : ∀ j, j < 23 → Cond.eq (.elem tWO (.int (Int32.ofNat j))) (wSt j) ∈ FLc := by decide +kernel
theorem x_sa : Cond.arrayOf tSW .int ∈ FLc := by decide +kernel
theorem x_sn : Cond.eq (.length tSW) (.int (Int32.ofNat 23)) ∈ FLc := by decide +kernel
theorem x_se : ∀ j, j < 23 → Cond.eq (.elem tSW (.int (Int32.ofNat j))) (.int (swm j)) ∈ FLc := by decide +kernel
theorem x_cc : Cond.eq (.static "java/lang/String" "COMPACT_STRINGS" "Z") (.int 1) ∈ FLc := by decide +kernel
theorem x_pr : Cond.isRef (.static "jdk/internal/util/Preconditions" "SIOOBE_FORMATTER" "Ljava/util/function/BiFunction;") ∈ FLc := by decide +kernel
theorem x_tr : Cond.isRef (.static Bundle.tN "UNASSIGNED_STACK" Bundle.steD) ∈ FLc := by decide +kernel
theorem x_ur : Cond.isRef (.static Bundle.tN "SUPPRESSED_SENTINEL" Bundle.listD) ∈ FLc := by decide +kernel
theorem XS_ok {s : State} {args : Array Value} (hts : ∀ w ∈ lw_tbl, w.before args s = true) (hgv : (Jvm.Cond.and given_1 narrow_1).before args s = true) : ∃ W : Nat → Nat, ∀ (D : va_G) (f : Nat → ClassId), XS (s.heap.size, W, D, f) s s.heap := by
  have hA : ∀ a : Nat, a < s.heap.size → ¬ s.heap.size ≤ a := fun a ha hq => absurd ha (Nat.not_lt.mpr hq)
  obtain ⟨ad, hE, hev⟩ := en_ok (A := fun q => s.heap.size ≤ q) hts hgv hA
  obtain ⟨adK, adV, hS, hek⟩ := tx_ok (A := fun q => s.heap.size ≤ q) hgv hA
  obtain ⟨t1, ht1, hT1⟩ := va_Tof (tm := tWO) (ty := .object "TurnBrothers$Word") (N := 23) (f := fun j => .ref (ad j)) (A := fun q => s.heap.size ≤ q) (by decide) (flat_of_before _ hgv _ x_wa) (va_eqt (flat_of_before _ hgv _ x_wn)) (fun j hj => va_eqv (flat_of_before _ hgv _ (x_we j hj)) (hev j hj)) hA
  obtain ⟨t2, ht2, hT2⟩ := va_Tof (tm := tSW) (ty := .int) (N := 23) (f := fun j => .int (swm j)) (A := fun q => s.heap.size ≤ q) (by decide) (flat_of_before _ hgv _ x_sa) (va_eqt (flat_of_before _ hgv _ x_sn)) (fun j hj => va_eqt (flat_of_before _ hgv _ (x_se j hj))) hA
  have hF : va_Ef 23 "TurnBrothers$Word" "text" "Ljava/lang/String;" (fun i => .ref (adK i)) ad (fun q => s.heap.size ≤ q) s s.heap := va_Efof (tm := wTx) (nm := wNm) (E := "TurnBrothers$Word") (d0 := "LTurnBrothers$Word;") hev (fun i hi => flat_of_before _ hgv _ (w_txt i hi)) hek hA
  have hZ1 : va_Z "TurnBrothers" "WORDS" "[LTurnBrothers$Word;" (.ref t1) (fun q => s.heap.size ≤ q) s s.heap := va_Zref (hts _ x_wl) (hts _ x_wi) ht1 hA
  have hZ2 : va_Z "TurnBrothers$1" "$SwitchMap$TurnBrothers$Word" "[I" (.ref t2) (fun q => s.heap.size ≤ q) s s.heap := va_Zref (hts _ x_sl) (hts _ x_si) ht2 hA
  have hZ3 : va_Z "java/lang/String" "COMPACT_STRINGS" "Z" (.int 1) (fun q => s.heap.size ≤ q) s s.heap := va_Zof (hts _ x_cl) (hts _ x_ci) (va_eqt (flat_of_before _ hgv _ x_cc)) hA
  have hQ1 := va_Zqof (A := fun q => s.heap.size ≤ q) (hts _ x_pl) (hts _ x_pi) (flat_of_before _ hgv _ x_pr) hA
  have hQ2 := vx_Zqof (A := fun q => s.heap.size ≤ q) (hts _ x_tl) (hts _ x_ti) (flat_of_before _ hgv _ x_tr) hA
  have hQ3 := vx_Zqof (A := fun q => s.heap.size ≤ q) (hts _ x_ul) (hts _ x_ti) (flat_of_before _ hgv _ x_ur) hA
  let W : Nat → Nat := fun i => if i < 23 then ad i else if i = 23 then t1 else if i = 24 then t2 else if i < 200 then adK (i - 100) else adV (i - 200)
  have w0 : ∀ i, i < 23 → W i = ad i := fun i hi => if_pos hi
  have w1 : W 23 = t1 := rfl
  have w2 : W 24 = t2 := rfl
  have wk : ∀ i, i < 23 → W (100 + i) = adK i := fun i hi => by
    show (if 100 + i < 23 then ad (100 + i) else if 100 + i = 23 then t1 else if 100 + i = 24 then t2 else if 100 + i < 200 then adK (100 + i - 100) else adV (100 + i - 200)) = adK i
    rw [if_neg (by omega), if_neg (by omega), if_neg (by omega), if_pos (by omega), Nat.add_sub_cancel_left]
  have wv : ∀ i, W (200 + i) = adV i := fun i => by
    show (if 200 + i < 23 then ad (200 + i) else if 200 + i = 23 then t1 else if 200 + i = 24 then t2 else if 200 + i < 200 then adK (200 + i - 100) else adV (200 + i - 200)) = adV i
    rw [if_neg (by omega), if_neg (by omega), if_neg (by omega), if_neg (by omega), Nat.add_sub_cancel_left]
  refine ⟨W, fun D f => ⟨⟨fun i hi => ?_, fun i j hi hj e => ?_⟩, fun i hi => ?_, ?_, ?_, ?_, ?_, ⟨fun i hi => ?_, fun i j hi hj e => ?_⟩, hZ3, hQ1, hQ2, hQ3⟩⟩
  · have h := hE.1 i hi
    show va_Z "TurnBrothers$Word" (wNm.getD i "") "LTurnBrothers$Word;" (.ref (W i)) (fun q => s.heap.size ≤ q) s s.heap ∧ va_O "TurnBrothers$Word" (W i) (fun q => s.heap.size ≤ q) s s.heap ∧ ∀ q ∈ wFl, va_OF q.1 q.2.1 q.2.2.1 (.int (q.2.2.2.getD i 0)) (W i) (fun q => s.heap.size ≤ q) s s.heap
    rw [w0 i hi]
    exact h
  · have e' : W i = W j := e
    rw [w0 i hi, w0 j hj] at e'
    exact hE.2 i j hi hj e'
  · show va_OF "TurnBrothers$Word" "text" "Ljava/lang/String;" (.ref (W (100 + i))) (W i) (fun q => s.heap.size ≤ q) s s.heap
    rw [w0 i hi, wk i hi]
    exact hF i hi
  · exact hZ1
  · show va_T (.object "TurnBrothers$Word") t1 23 (fun j => .ref (W j)) (fun q => s.heap.size ≤ q) s s.heap
    obtain ⟨cell, a1, a2, a3, a4, a5, a6, a7⟩ := hT1
    exact ⟨cell, a1, a2, a3, a4, a5, fun j hj => (a6 j hj).trans (by show some (Value.ref (ad j)) = some (Value.ref (W j)); rw [w0 j hj]), a7⟩
  · exact hZ2
  · exact hT2
  · show va_O "java/lang/String" (W (100 + i)) (fun q => s.heap.size ≤ q) s s.heap ∧ va_OF "java/lang/String" "coder" "B" (.int 0) (W (100 + i)) (fun q => s.heap.size ≤ q) s s.heap ∧ va_OF "java/lang/String" "value" "[B" (.ref (W (200 + i))) (W (100 + i)) (fun q => s.heap.size ≤ q) s s.heap ∧ va_T .byte (W (200 + i)) (wLn.getD i 0) (fun j => .int ((wBy.getD i []).getD j 0)) (fun q => s.heap.size ≤ q) s s.heap
    rw [wk i hi, wv i]
    exact hS.1 i hi
  · have e' : W (100 + i) = W (100 + j) := e
    rw [wk i hi, wk j hj] at e'
    exact hS.2 i j hi hj e'
theorem SS_ok {s : State} {args : Array Value} (hts : ∀ w ∈ lw_tbl, w.before args s = true) (hgv : (Jvm.Cond.and given_1 narrow_1).before args s = true) : ∃ w : WX, w.1 = s.heap.size ∧ SS w s := by
  have hLW : ∀ x ∈ LW, x.before args s = true := fun x hx => hts x (LW_tbl hx)
  obtain ⟨W, hX⟩ := XS_ok hts hgv
  obtain ⟨D, hD⟩ := cls_ok hLW
  obtain ⟨f, hf⟩ := arr_all hLW hts
  exact ⟨(s.heap.size, W, D, f), rfl, ⟨hD, hf⟩, hX D f, SM_ok hts hgv, Nat.le_refl _, SN_ok hts hgv⟩
theorem whole_start {p : Program} {e : Env} {s : State} {m : MethodId} {below : List Frame} {meth : Method} {c : Code} (l : Launch) (hflags : l.flags = flags0) {b L : Nat} {xs : Nat → Int32} (hL : L ≤ 3072) (C0 : lw_At p s m meth c b L xs) : W p l e room_1 s m #[Value.ref b] below meth c s.heap [] 0 0 (lw_Z below #[Value.ref b] s) (entryFrame m ([Value.ref b] : List Value).toArray 7) := by
  have C1 := C0
  obtain ⟨-, -, -, -, -, hts, -, -, -, hgv⟩ := C1
  obtain ⟨w, hw, hSS⟩ := SS_ok hts hgv
  exact start_of l hflags hL C0 hw hSS
