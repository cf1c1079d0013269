/-! WHAT HOLDS OF THE STATE: the words' cells and texts -/
def tkL : List Nat := [109, 115, 118, 121, 124, 127, 130, 133, 136, 139, 142, 145, 148, 151, 154, 157, 160, 163, 166, 169, 172, 175, 178]
def wTx (i : Nat) : Term := .string "TurnBrothers$Word" (tkL.getD i 0)
theorem en_ok {s : State} {args : Array Value} {A : Nat → Prop} (hts : ∀ w ∈ lw_tbl, w.before args s = true) (hgv : (Jvm.Cond.and given_1 narrow_1).before args s = true) (hA : ∀ a : Nat, a < s.heap.size → ¬ A a) : ∃ ad : Nat → Nat, va_En "TurnBrothers$Word" "LTurnBrothers$Word;" wNm wFl ad A s s.heap ∧ ∀ i, i < 23 → (wSt i).eval args s none [] s = some (.ref (ad i)) :=
  va_Enof2 (nm := wNm) (F := wFl) (fun i hi => hts _ (w_lay i hi)) (hts _ w_ini) (fun i hi => flat_of_before _ hgv _ (w_exa i hi)) (fun q hq i hi => flat_of_before _ hgv _ (w_fld q hq i hi)) (fun i j hi hj h => (w_dis hi hj h).imp (fun z => flat_of_before _ hgv _ z) (fun z => flat_of_before _ hgv _ z)) hA
theorem w_txt : ∀ i, i < 23 → Cond.eq (.field (wSt i) "TurnBrothers$Word" "text" "Ljava/lang/String;") (wTx i) ∈ FLc := by decide +kernel
theorem w_tex : ∀ i, i < 23 → Cond.exactly (wTx i) "java/lang/String" ∈ FLc := by decide +kernel
theorem w_tco : ∀ i, i < 23 → Cond.eq (.field (wTx i) "java/lang/String" "coder" "B") (.int 0) ∈ FLc := by decide +kernel
theorem w_tar : ∀ i, i < 23 → Cond.arrayOf (.field (wTx i) "java/lang/String" "value" "[B") .byte ∈ FLc := by decide +kernel
theorem w_tle : ∀ i, i < 23 → Cond.eq (.length (.field (wTx i) "java/lang/String" "value" "[B")) (.int (Int32.ofNat (wLn.getD i 0))) ∈ FLc := by decide +kernel
