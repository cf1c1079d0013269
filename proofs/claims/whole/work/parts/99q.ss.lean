/-! WHAT HOLDS OF THE STATE: words of the tables -/
theorem wDe_t : ∀ y ∈ wDe, Cond.declares y ∈ lw_tbl := by decide +kernel
theorem wNe_t : ∀ q ∈ wNe, Cond.methodLinkNest q.1 q.2.1 q.2.2.1 q.2.2.2 ∈ lw_tbl := by decide +kernel
theorem wMs_t : ∀ q ∈ wMs, Cond.stringRef q.1 q.2.1 q.2.2 ∈ lw_tbl := by decide +kernel
theorem SN_ok {s : State} {args : Array Value} (hts : ∀ w ∈ lw_tbl, w.before args s = true) (hgv : (Jvm.Cond.and given_1 narrow_1).before args s = true) : SN s :=
  ⟨fun y hy => va_Nw.of rfl (hts _ (wDe_t y hy)), va_Nw.of rfl (hts (.castable xNSE xNSE) (by decide +kernel)), va_Nw.of rfl (hts (.castable xIAE xIAE) (by decide +kernel)), va_Nc.of (flat_of_before _ hgv (.not (.castable xIAE xNSE)) (by decide +kernel)), va_Nw.of rfl (hts (.fieldLinkNest "TurnBrothers$Tokens" 63 "TurnBrothers" "WORDS" "[LTurnBrothers$Word;" "TurnBrothers") (by decide +kernel)), fun q hq => va_Nw.of rfl (hts _ (wNe_t q hq)), va_AO.of (hts (.arrayOver (.object "TurnBrothers$City")) (by decide +kernel))⟩
