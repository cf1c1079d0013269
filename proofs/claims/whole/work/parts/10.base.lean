def FU : Nat := 100000
def b1 {α β : Type} (o : Option α) (k : α → Option β) : Option β := Option.bind o k
def b2 {α β : Type} (o : Option (α × Mem)) (k : α → Mem → Option β) : Option β := Option.bind o fun q => k q.1 q.2
theorem b2_some {α β : Type} {o : Option (α × Mem)} {k : α → Mem → Option β} {res : β} (h : b2 o k = some res) : ∃ (r : α) (M1 : Mem), o = some (r, M1) ∧ k r M1 = some res := by
  obtain ⟨q, h1, h2⟩ := bd_some h
  exact ⟨q.1, q.2, h1, h2⟩
def Pwv (res : Mem) : Option Value → Mem → Prop := fun v M' => v = none ∧ M' = res
def Pri (res : Int32) (M : Mem) : Option Value → Mem → Prop := fun v M' => v = some (.int res) ∧ M' = M
def Prl (res : Int64) (M : Mem) : Option Value → Mem → Prop := fun v M' => v = some (.long res) ∧ M' = M
def Pwi (res : Int32 × Mem) : Option Value → Mem → Prop := fun v M' => v = some (.int res.1) ∧ M' = res.2
theorem g_nmV {G : GX} {Q : State → Prop} {kc ks pc : Nat} {lv : List (Nat × Value)} {st : List Value} {M : Mem} {i : Nat} {e : Int32} {β : Type} {kf : Int32 → Option β} {res : β} (hf : pu e kf = some res) (kk : ∀ x, kf x = some res → GG G Q kc ks pc ((i, .int x) :: lv) st M) : GG G Q kc ks pc ((i, .int e) :: lv) st M := kk e hf
theorem g_callVri {G : GX} {Q : State → Prop} {kc ks pc nL : Nat} {lv : List (Nat × Value)} {st : List Value} {M : Mem} {b : ByteArray} {own : String} {ret : Option FieldType} {rm : Room} (h : OKm G b own nL ret rm) {o : Nat} {r : Int32} {ci : Nat} {fs : List Value} {T : u_T} {N : Nat} {idx n maxL : Nat} {y : MethodName} {bytes : ByteArray} {ret1 : Option FieldType} {rm1 : Room} {As rest : List Value}  (hce : CE y bytes maxL ret1 n) (hmk : Cond.methodLink own idx y ∈ LW) (hin : Cond.instanceMethod y ∈ LW) (hse : ∀ x ∈ [Cond.selects y.cls y y], x ∈ lw_tbl) (hc : vwCl[ci]? = some (y.cls, T, N)) (ho : o < KN) (he : ent G.1 M o = .inr (ci, fs)) (hrc : rm1.cells = 0) (hrs : rm1.slots = 0) (hRR : rm1.frames + 1 ≤ rm.frames ∧ 8 + (maxL + 11) + rm1.locals ≤ rm.locals) (hroom : kc + 0 ≤ rm.cells ∧ ks + 0 ≤ rm.slots) (hn : As.length = n) (hd : decode b pc = .ok (.invokevirtual idx, 3)) (hst : st = As.reverse ++ rv G.1 o :: rest) (hcat : (rest.map fun v => v.category).sum ≤ 8) (cm : CM G.2.2.1 G.1 y bytes maxL ret1 rm1 0 0 (rv G.1 o :: As) M (Pri r M)) (k : GG G Q kc ks (pc + 3) lv (.int r :: rest) M) : GG G Q kc ks pc lv st M :=
  g_callV h hce hmk hin hse hc ho he hrc hrs hRR hroom hn hd hst hcat cm (fun z M2 hp => by obtain ⟨rfl, rfl⟩ := hp; exact k)
theorem g_callSri {G : GX} {Q : State → Prop} {kc ks pc nL : Nat} {lv : List (Nat × Value)} {st : List Value} {M : Mem} {b : ByteArray} {own : String} {ret : Option FieldType} {rm : Room} (h : OKm G b own nL ret rm) {r : Int32} {idx n maxL : Nat} {y : MethodName} {bytes : ByteArray} {ret1 : Option FieldType} {rm1 : Room} {As rest : List Value}  (hce : CE y bytes maxL ret1 n) (hmk : Cond.methodLink own idx y ∈ LW) (hst0 : Cond.static y ∈ LW) (hrc : rm1.cells = 0) (hrs : rm1.slots = 0) (hRR : rm1.frames + 1 ≤ rm.frames ∧ 8 + (maxL + 11) + rm1.locals ≤ rm.locals) (hroom : kc + 0 ≤ rm.cells ∧ ks + 0 ≤ rm.slots) (hn : As.length = n) (hd : decode b pc = .ok (.invokestatic idx, 3)) (hst : st = As.reverse ++ rest) (hcat : (rest.map fun v => v.category).sum ≤ 8) (cm : CM G.2.2.1 G.1 y bytes maxL ret1 rm1 0 0 As M (Pri r M)) (k : GG G Q kc ks (pc + 3) lv (.int r :: rest) M) : GG G Q kc ks pc lv st M :=
  g_callS h hce hmk hst0 hrc hrs hRR hroom hn hd hst hcat cm (fun z M2 hp => by obtain ⟨rfl, rfl⟩ := hp; exact k)
theorem g_callVrl {G : GX} {Q : State → Prop} {kc ks pc nL : Nat} {lv : List (Nat × Value)} {st : List Value} {M : Mem} {b : ByteArray} {own : String} {ret : Option FieldType} {rm : Room} (h : OKm G b own nL ret rm) {o : Nat} {r : Int64} {ci : Nat} {fs : List Value} {T : u_T} {N : Nat} {idx n maxL : Nat} {y : MethodName} {bytes : ByteArray} {ret1 : Option FieldType} {rm1 : Room} {As rest : List Value}  (hce : CE y bytes maxL ret1 n) (hmk : Cond.methodLink own idx y ∈ LW) (hin : Cond.instanceMethod y ∈ LW) (hse : ∀ x ∈ [Cond.selects y.cls y y], x ∈ lw_tbl) (hc : vwCl[ci]? = some (y.cls, T, N)) (ho : o < KN) (he : ent G.1 M o = .inr (ci, fs)) (hrc : rm1.cells = 0) (hrs : rm1.slots = 0) (hRR : rm1.frames + 1 ≤ rm.frames ∧ 8 + (maxL + 11) + rm1.locals ≤ rm.locals) (hroom : kc + 0 ≤ rm.cells ∧ ks + 0 ≤ rm.slots) (hn : As.length = n) (hd : decode b pc = .ok (.invokevirtual idx, 3)) (hst : st = As.reverse ++ rv G.1 o :: rest) (hcat : (rest.map fun v => v.category).sum ≤ 8) (cm : CM G.2.2.1 G.1 y bytes maxL ret1 rm1 0 0 (rv G.1 o :: As) M (Prl r M)) (k : GG G Q kc ks (pc + 3) lv (.long r :: rest) M) : GG G Q kc ks pc lv st M :=
  g_callV h hce hmk hin hse hc ho he hrc hrs hRR hroom hn hd hst hcat cm (fun z M2 hp => by obtain ⟨rfl, rfl⟩ := hp; exact k)
theorem g_callSrl {G : GX} {Q : State → Prop} {kc ks pc nL : Nat} {lv : List (Nat × Value)} {st : List Value} {M : Mem} {b : ByteArray} {own : String} {ret : Option FieldType} {rm : Room} (h : OKm G b own nL ret rm) {r : Int64} {idx n maxL : Nat} {y : MethodName} {bytes : ByteArray} {ret1 : Option FieldType} {rm1 : Room} {As rest : List Value}  (hce : CE y bytes maxL ret1 n) (hmk : Cond.methodLink own idx y ∈ LW) (hst0 : Cond.static y ∈ LW) (hrc : rm1.cells = 0) (hrs : rm1.slots = 0) (hRR : rm1.frames + 1 ≤ rm.frames ∧ 8 + (maxL + 11) + rm1.locals ≤ rm.locals) (hroom : kc + 0 ≤ rm.cells ∧ ks + 0 ≤ rm.slots) (hn : As.length = n) (hd : decode b pc = .ok (.invokestatic idx, 3)) (hst : st = As.reverse ++ rest) (hcat : (rest.map fun v => v.category).sum ≤ 8) (cm : CM G.2.2.1 G.1 y bytes maxL ret1 rm1 0 0 As M (Prl r M)) (k : GG G Q kc ks (pc + 3) lv (.long r :: rest) M) : GG G Q kc ks pc lv st M :=
  g_callS h hce hmk hst0 hrc hrs hRR hroom hn hd hst hcat cm (fun z M2 hp => by obtain ⟨rfl, rfl⟩ := hp; exact k)
theorem g_callVwv {G : GX} {Q : State → Prop} {kc ks pc nL : Nat} {lv : List (Nat × Value)} {st : List Value} {M : Mem} {b : ByteArray} {own : String} {ret : Option FieldType} {rm : Room} (h : OKm G b own nL ret rm) {o : Nat} {M1 : Mem} {ci : Nat} {fs : List Value} {T : u_T} {N : Nat} {idx n maxL : Nat} {y : MethodName} {bytes : ByteArray} {ret1 : Option FieldType} {rm1 : Room} {As rest : List Value}  (hce : CE y bytes maxL ret1 n) (hmk : Cond.methodLink own idx y ∈ LW) (hin : Cond.instanceMethod y ∈ LW) (hse : ∀ x ∈ [Cond.selects y.cls y y], x ∈ lw_tbl) (hc : vwCl[ci]? = some (y.cls, T, N)) (ho : o < KN) (he : ent G.1 M o = .inr (ci, fs)) (hrc : rm1.cells = 0) (hrs : rm1.slots = 0) (hRR : rm1.frames + 1 ≤ rm.frames ∧ 8 + (maxL + 11) + rm1.locals ≤ rm.locals) (hroom : kc + 0 ≤ rm.cells ∧ ks + 0 ≤ rm.slots) (hn : As.length = n) (hd : decode b pc = .ok (.invokevirtual idx, 3)) (hst : st = As.reverse ++ rv G.1 o :: rest) (hcat : (rest.map fun v => v.category).sum ≤ 8) (cm : CM G.2.2.1 G.1 y bytes maxL ret1 rm1 0 0 (rv G.1 o :: As) M (Pwv M1)) (k : GG G Q kc ks (pc + 3) lv (rest) M1) : GG G Q kc ks pc lv st M :=
  g_callV h hce hmk hin hse hc ho he hrc hrs hRR hroom hn hd hst hcat cm (fun z M2 hp => by obtain ⟨rfl, rfl⟩ := hp; exact k)
theorem g_callSwv {G : GX} {Q : State → Prop} {kc ks pc nL : Nat} {lv : List (Nat × Value)} {st : List Value} {M : Mem} {b : ByteArray} {own : String} {ret : Option FieldType} {rm : Room} (h : OKm G b own nL ret rm) {M1 : Mem} {idx n maxL : Nat} {y : MethodName} {bytes : ByteArray} {ret1 : Option FieldType} {rm1 : Room} {As rest : List Value}  (hce : CE y bytes maxL ret1 n) (hmk : Cond.methodLink own idx y ∈ LW) (hst0 : Cond.static y ∈ LW) (hrc : rm1.cells = 0) (hrs : rm1.slots = 0) (hRR : rm1.frames + 1 ≤ rm.frames ∧ 8 + (maxL + 11) + rm1.locals ≤ rm.locals) (hroom : kc + 0 ≤ rm.cells ∧ ks + 0 ≤ rm.slots) (hn : As.length = n) (hd : decode b pc = .ok (.invokestatic idx, 3)) (hst : st = As.reverse ++ rest) (hcat : (rest.map fun v => v.category).sum ≤ 8) (cm : CM G.2.2.1 G.1 y bytes maxL ret1 rm1 0 0 As M (Pwv M1)) (k : GG G Q kc ks (pc + 3) lv (rest) M1) : GG G Q kc ks pc lv st M :=
  g_callS h hce hmk hst0 hrc hrs hRR hroom hn hd hst hcat cm (fun z M2 hp => by obtain ⟨rfl, rfl⟩ := hp; exact k)
theorem g_callVwi {G : GX} {Q : State → Prop} {kc ks pc nL : Nat} {lv : List (Nat × Value)} {st : List Value} {M : Mem} {b : ByteArray} {own : String} {ret : Option FieldType} {rm : Room} (h : OKm G b own nL ret rm) {o : Nat} {r : Int32} {M1 : Mem} {ci : Nat} {fs : List Value} {T : u_T} {N : Nat} {idx n maxL : Nat} {y : MethodName} {bytes : ByteArray} {ret1 : Option FieldType} {rm1 : Room} {As rest : List Value}  (hce : CE y bytes maxL ret1 n) (hmk : Cond.methodLink own idx y ∈ LW) (hin : Cond.instanceMethod y ∈ LW) (hse : ∀ x ∈ [Cond.selects y.cls y y], x ∈ lw_tbl) (hc : vwCl[ci]? = some (y.cls, T, N)) (ho : o < KN) (he : ent G.1 M o = .inr (ci, fs)) (hrc : rm1.cells = 0) (hrs : rm1.slots = 0) (hRR : rm1.frames + 1 ≤ rm.frames ∧ 8 + (maxL + 11) + rm1.locals ≤ rm.locals) (hroom : kc + 0 ≤ rm.cells ∧ ks + 0 ≤ rm.slots) (hn : As.length = n) (hd : decode b pc = .ok (.invokevirtual idx, 3)) (hst : st = As.reverse ++ rv G.1 o :: rest) (hcat : (rest.map fun v => v.category).sum ≤ 8) (cm : CM G.2.2.1 G.1 y bytes maxL ret1 rm1 0 0 (rv G.1 o :: As) M (Pwi (r, M1))) (k : GG G Q kc ks (pc + 3) lv (.int r :: rest) M1) : GG G Q kc ks pc lv st M :=
  g_callV h hce hmk hin hse hc ho he hrc hrs hRR hroom hn hd hst hcat cm (fun z M2 hp => by obtain ⟨rfl, rfl⟩ := hp; exact k)
theorem g_callSwi {G : GX} {Q : State → Prop} {kc ks pc nL : Nat} {lv : List (Nat × Value)} {st : List Value} {M : Mem} {b : ByteArray} {own : String} {ret : Option FieldType} {rm : Room} (h : OKm G b own nL ret rm) {r : Int32} {M1 : Mem} {idx n maxL : Nat} {y : MethodName} {bytes : ByteArray} {ret1 : Option FieldType} {rm1 : Room} {As rest : List Value}  (hce : CE y bytes maxL ret1 n) (hmk : Cond.methodLink own idx y ∈ LW) (hst0 : Cond.static y ∈ LW) (hrc : rm1.cells = 0) (hrs : rm1.slots = 0) (hRR : rm1.frames + 1 ≤ rm.frames ∧ 8 + (maxL + 11) + rm1.locals ≤ rm.locals) (hroom : kc + 0 ≤ rm.cells ∧ ks + 0 ≤ rm.slots) (hn : As.length = n) (hd : decode b pc = .ok (.invokestatic idx, 3)) (hst : st = As.reverse ++ rest) (hcat : (rest.map fun v => v.category).sum ≤ 8) (cm : CM G.2.2.1 G.1 y bytes maxL ret1 rm1 0 0 As M (Pwi (r, M1))) (k : GG G Q kc ks (pc + 3) lv (.int r :: rest) M1) : GG G Q kc ks pc lv st M :=
  g_callS h hce hmk hst0 hrc hrs hRR hroom hn hd hst hcat cm (fun z M2 hp => by obtain ⟨rfl, rfl⟩ := hp; exact k)
theorem gfX12_9 {G : GX} {Q : State → Prop} {kc ks pc nL : Nat} {lv : List (Nat × Value)} {st : List Value} {M : Mem} {b : ByteArray} {ret : Option FieldType} {rm : Room} (h : OKm G b RX12 nL ret rm) {o : Nat} (hk : kd o = 10) (hd : decode b pc = .ok (.getfield 9, 3)) (k : GG G Q kc ks (pc + 3) lv (rv G.1 1 :: st) M) : GG G Q kc ks pc lv (rv G.1 o :: st) M :=
  g_get h inW12 rfl 0 (by decide) flX12_9 (kd_lt (by rw [hk]; decide)) (ent_10 hk) rfl hd k
theorem gfX12_13 {G : GX} {Q : State → Prop} {kc ks pc nL : Nat} {lv : List (Nat × Value)} {st : List Value} {M : Mem} {b : ByteArray} {ret : Option FieldType} {rm : Room} (h : OKm G b RX12 nL ret rm) {o : Nat} (hk : kd o = 10) (hd : decode b pc = .ok (.getfield 13, 3)) (k : GG G Q kc ks (pc + 3) lv (.int (gI M o 1) :: st) M) : GG G Q kc ks pc lv (rv G.1 o :: st) M :=
  g_get h inW12 rfl 1 (by decide) flX12_13 (kd_lt (by rw [hk]; decide)) (ent_10 hk) rfl hd k
theorem pfX12_13 {G : GX} {Q : State → Prop} {kc ks pc nL : Nat} {lv : List (Nat × Value)} {st : List Value} {M : Mem} {b : ByteArray} {ret : Option FieldType} {rm : Room} (h : OKm G b RX12 nL ret rm) {o : Nat} {x : Int32} (hk : kd o = 10) (hd : decode b pc = .ok (.putfield 13, 3)) (k : GG G Q kc ks (pc + 3) lv st (sI M o 1 x)) : GG G Q kc ks pc lv (.int x :: rv G.1 o :: st) M := by
  refine g_put h inW12 rfl 1 (by decide) flX12_13 tyX12_ok nmX12 rfl (kd_lt (by rw [hk]; decide)) (ent_10 hk) (Nat.le_of_ble_eq_true rfl) ?_ (fun q hq => ent_aI hq) rfl rfl rfl hd k
  show ent G.1 (sI M o 1 x) o = _
  unfold sI
  rw [ent_aI_s]
  unfold entK
  rw [hk]
  rfl
theorem gfX12_17 {G : GX} {Q : State → Prop} {kc ks pc nL : Nat} {lv : List (Nat × Value)} {st : List Value} {M : Mem} {b : ByteArray} {ret : Option FieldType} {rm : Room} (h : OKm G b RX12 nL ret rm) {o : Nat} (hk : kd o = 10) (hd : decode b pc = .ok (.getfield 17, 3)) (k : GG G Q kc ks (pc + 3) lv (.int (gI M o 2) :: st) M) : GG G Q kc ks pc lv (rv G.1 o :: st) M :=
  g_get h inW12 rfl 2 (by decide) flX12_17 (kd_lt (by rw [hk]; decide)) (ent_10 hk) rfl hd k
theorem pfX12_17 {G : GX} {Q : State → Prop} {kc ks pc nL : Nat} {lv : List (Nat × Value)} {st : List Value} {M : Mem} {b : ByteArray} {ret : Option FieldType} {rm : Room} (h : OKm G b RX12 nL ret rm) {o : Nat} {x : Int32} (hk : kd o = 10) (hd : decode b pc = .ok (.putfield 17, 3)) (k : GG G Q kc ks (pc + 3) lv st (sI M o 2 x)) : GG G Q kc ks pc lv (.int x :: rv G.1 o :: st) M := by
  refine g_put h inW12 rfl 2 (by decide) flX12_17 tyX12_ok nmX12 rfl (kd_lt (by rw [hk]; decide)) (ent_10 hk) (Nat.le_of_ble_eq_true rfl) ?_ (fun q hq => ent_aI hq) rfl rfl rfl hd k
  show ent G.1 (sI M o 2 x) o = _
  unfold sI
  rw [ent_aI_s]
  unfold entK
  rw [hk]
  rfl
theorem gfX12_20 {G : GX} {Q : State → Prop} {kc ks pc nL : Nat} {lv : List (Nat × Value)} {st : List Value} {M : Mem} {b : ByteArray} {ret : Option FieldType} {rm : Room} (h : OKm G b RX12 nL ret rm) {o : Nat} (hk : kd o = 10) (hd : decode b pc = .ok (.getfield 20, 3)) (k : GG G Q kc ks (pc + 3) lv (rv G.1 2 :: st) M) : GG G Q kc ks pc lv (rv G.1 o :: st) M :=
  g_get h inW12 rfl 3 (by decide) flX12_20 (kd_lt (by rw [hk]; decide)) (ent_10 hk) rfl hd k
theorem gfX12_29 {G : GX} {Q : State → Prop} {kc ks pc nL : Nat} {lv : List (Nat × Value)} {st : List Value} {M : Mem} {b : ByteArray} {ret : Option FieldType} {rm : Room} (h : OKm G b RX12 nL ret rm) {o : Nat} (hk : kd o = 10) (hd : decode b pc = .ok (.getfield 29, 3)) (k : GG G Q kc ks (pc + 3) lv (rv G.1 3 :: st) M) : GG G Q kc ks pc lv (rv G.1 o :: st) M :=
  g_get h inW12 rfl 4 (by decide) flX12_29 (kd_lt (by rw [hk]; decide)) (ent_10 hk) rfl hd k
theorem gfX12_36 {G : GX} {Q : State → Prop} {kc ks pc nL : Nat} {lv : List (Nat × Value)} {st : List Value} {M : Mem} {b : ByteArray} {ret : Option FieldType} {rm : Room} (h : OKm G b RX12 nL ret rm) {o : Nat} (hk : kd o = 10) (hd : decode b pc = .ok (.getfield 36, 3)) (k : GG G Q kc ks (pc + 3) lv (rv G.1 28 :: st) M) : GG G Q kc ks pc lv (rv G.1 o :: st) M :=
  g_get h inW12 rfl 5 (by decide) flX12_36 (kd_lt (by rw [hk]; decide)) (ent_10 hk) rfl hd k
theorem gfX12_45 {G : GX} {Q : State → Prop} {kc ks pc nL : Nat} {lv : List (Nat × Value)} {st : List Value} {M : Mem} {b : ByteArray} {ret : Option FieldType} {rm : Room} (h : OKm G b RX12 nL ret rm) {o : Nat} (hk : kd o = 10) (hd : decode b pc = .ok (.getfield 45, 3)) (k : GG G Q kc ks (pc + 3) lv (rv G.1 49 :: st) M) : GG G Q kc ks pc lv (rv G.1 o :: st) M :=
  g_get h inW12 rfl 6 (by decide) flX12_45 (kd_lt (by rw [hk]; decide)) (ent_10 hk) rfl hd k
theorem gfX12_52 {G : GX} {Q : State → Prop} {kc ks pc nL : Nat} {lv : List (Nat × Value)} {st : List Value} {M : Mem} {b : ByteArray} {ret : Option FieldType} {rm : Room} (h : OKm G b RX12 nL ret rm) {o : Nat} (hk : kd o = 10) (hd : decode b pc = .ok (.getfield 52, 3)) (k : GG G Q kc ks (pc + 3) lv (rv G.1 81 :: st) M) : GG G Q kc ks pc lv (rv G.1 o :: st) M :=
  g_get h inW12 rfl 7 (by decide) flX12_52 (kd_lt (by rw [hk]; decide)) (ent_10 hk) rfl hd k
theorem gfX12_56 {G : GX} {Q : State → Prop} {kc ks pc nL : Nat} {lv : List (Nat × Value)} {st : List Value} {M : Mem} {b : ByteArray} {ret : Option FieldType} {rm : Room} (h : OKm G b RX12 nL ret rm) {o : Nat} (hk : kd o = 10) (hd : decode b pc = .ok (.getfield 56, 3)) (k : GG G Q kc ks (pc + 3) lv (rv G.1 86 :: st) M) : GG G Q kc ks pc lv (rv G.1 o :: st) M :=
  g_get h inW12 rfl 8 (by decide) flX12_56 (kd_lt (by rw [hk]; decide)) (ent_10 hk) rfl hd k
theorem gfX12_62 {G : GX} {Q : State → Prop} {kc ks pc nL : Nat} {lv : List (Nat × Value)} {st : List Value} {M : Mem} {b : ByteArray} {ret : Option FieldType} {rm : Room} (h : OKm G b RX12 nL ret rm) {o : Nat} (hk : kd o = 10) (hd : decode b pc = .ok (.getfield 62, 3)) (k : GG G Q kc ks (pc + 3) lv (rv G.1 91 :: st) M) : GG G Q kc ks pc lv (rv G.1 o :: st) M :=
  g_get h inW12 rfl 9 (by decide) flX12_62 (kd_lt (by rw [hk]; decide)) (ent_10 hk) rfl hd k
theorem gfX12_69 {G : GX} {Q : State → Prop} {kc ks pc nL : Nat} {lv : List (Nat × Value)} {st : List Value} {M : Mem} {b : ByteArray} {ret : Option FieldType} {rm : Room} (h : OKm G b RX12 nL ret rm) {o : Nat} (hk : kd o = 10) (hd : decode b pc = .ok (.getfield 69, 3)) (k : GG G Q kc ks (pc + 3) lv (rv G.1 93 :: st) M) : GG G Q kc ks pc lv (rv G.1 o :: st) M :=
  g_get h inW12 rfl 10 (by decide) flX12_69 (kd_lt (by rw [hk]; decide)) (ent_10 hk) rfl hd k
theorem gfX12_73 {G : GX} {Q : State → Prop} {kc ks pc nL : Nat} {lv : List (Nat × Value)} {st : List Value} {M : Mem} {b : ByteArray} {ret : Option FieldType} {rm : Room} (h : OKm G b RX12 nL ret rm) {o : Nat} (hk : kd o = 10) (hd : decode b pc = .ok (.getfield 73, 3)) (k : GG G Q kc ks (pc + 3) lv (.int (gI M o 11) :: st) M) : GG G Q kc ks pc lv (rv G.1 o :: st) M :=
  g_get h inW12 rfl 11 (by decide) flX12_73 (kd_lt (by rw [hk]; decide)) (ent_10 hk) rfl hd k
theorem pfX12_73 {G : GX} {Q : State → Prop} {kc ks pc nL : Nat} {lv : List (Nat × Value)} {st : List Value} {M : Mem} {b : ByteArray} {ret : Option FieldType} {rm : Room} (h : OKm G b RX12 nL ret rm) {o : Nat} {x : Int32} (hk : kd o = 10) (hz : x = 0 ∨ x = 1) (hd : decode b pc = .ok (.putfield 73, 3)) (k : GG G Q kc ks (pc + 3) lv st (sI M o 11 x)) : GG G Q kc ks pc lv (.int x :: rv G.1 o :: st) M := by
  refine g_put h inW12 rfl 11 (by decide) flX12_73 tyX12_ok nmX12 rfl (kd_lt (by rw [hk]; decide)) (ent_10 hk) (Nat.le_of_ble_eq_true rfl) ?_ (fun q hq => ent_aI hq) rfl (by rcases hz with rfl | rfl <;> rfl) (by rcases hz with rfl | rfl <;> rfl) hd k
  show ent G.1 (sI M o 11 x) o = _
  unfold sI
  rw [ent_aI_s]
  unfold entK
  rw [hk]
  rfl
theorem gfX12_77 {G : GX} {Q : State → Prop} {kc ks pc nL : Nat} {lv : List (Nat × Value)} {st : List Value} {M : Mem} {b : ByteArray} {ret : Option FieldType} {rm : Room} (h : OKm G b RX12 nL ret rm) {o : Nat} (hk : kd o = 10) (hd : decode b pc = .ok (.getfield 77, 3)) (k : GG G Q kc ks (pc + 3) lv (rv G.1 96 :: st) M) : GG G Q kc ks pc lv (rv G.1 o :: st) M :=
  g_get h inW12 rfl 12 (by decide) flX12_77 (kd_lt (by rw [hk]; decide)) (ent_10 hk) rfl hd k
theorem gfX12_80 {G : GX} {Q : State → Prop} {kc ks pc nL : Nat} {lv : List (Nat × Value)} {st : List Value} {M : Mem} {b : ByteArray} {ret : Option FieldType} {rm : Room} (h : OKm G b RX12 nL ret rm) {o : Nat} (hk : kd o = 10) (hd : decode b pc = .ok (.getfield 80, 3)) (k : GG G Q kc ks (pc + 3) lv (rv G.1 97 :: st) M) : GG G Q kc ks pc lv (rv G.1 o :: st) M :=
  g_get h inW12 rfl 13 (by decide) flX12_80 (kd_lt (by rw [hk]; decide)) (ent_10 hk) rfl hd k
theorem gfX12_83 {G : GX} {Q : State → Prop} {kc ks pc nL : Nat} {lv : List (Nat × Value)} {st : List Value} {M : Mem} {b : ByteArray} {ret : Option FieldType} {rm : Room} (h : OKm G b RX12 nL ret rm) {o : Nat} (hk : kd o = 10) (hd : decode b pc = .ok (.getfield 83, 3)) (k : GG G Q kc ks (pc + 3) lv (rv G.1 99 :: st) M) : GG G Q kc ks pc lv (rv G.1 o :: st) M :=
  g_get h inW12 rfl 14 (by decide) flX12_83 (kd_lt (by rw [hk]; decide)) (ent_10 hk) rfl hd k
theorem gfX12_86 {G : GX} {Q : State → Prop} {kc ks pc nL : Nat} {lv : List (Nat × Value)} {st : List Value} {M : Mem} {b : ByteArray} {ret : Option FieldType} {rm : Room} (h : OKm G b RX12 nL ret rm) {o : Nat} (hk : kd o = 10) (hd : decode b pc = .ok (.getfield 86, 3)) (k : GG G Q kc ks (pc + 3) lv (rv G.1 102 :: st) M) : GG G Q kc ks pc lv (rv G.1 o :: st) M :=
  g_get h inW12 rfl 15 (by decide) flX12_86 (kd_lt (by rw [hk]; decide)) (ent_10 hk) rfl hd k
theorem gfX12_104 {G : GX} {Q : State → Prop} {kc ks pc nL : Nat} {lv : List (Nat × Value)} {st : List Value} {M : Mem} {b : ByteArray} {ret : Option FieldType} {rm : Room} (h : OKm G b RX12 nL ret rm) {o : Nat} (hk : kd o = 5) (hd : decode b pc = .ok (.getfield 104, 3)) (k : GG G Q kc ks (pc + 3) lv (.int (gI M o 4) :: st) M) : GG G Q kc ks pc lv (rv G.1 o :: st) M :=
  g_get h inW6 rfl 4 (by decide) flX12_104 (kd_lt (by rw [hk]; decide)) (ent_5 hk) rfl hd k
theorem pfX12_104 {G : GX} {Q : State → Prop} {kc ks pc nL : Nat} {lv : List (Nat × Value)} {st : List Value} {M : Mem} {b : ByteArray} {ret : Option FieldType} {rm : Room} (h : OKm G b RX12 nL ret rm) {o : Nat} {x : Int32} (hk : kd o = 5) (hd : decode b pc = .ok (.putfield 104, 3)) (k : GG G Q kc ks (pc + 3) lv st (sI M o 4 x)) : GG G Q kc ks pc lv (.int x :: rv G.1 o :: st) M := by
  refine g_put h inW6 rfl 4 (by decide) flX12_104 tyX6_ok nmX6 rfl (kd_lt (by rw [hk]; decide)) (ent_5 hk) (Nat.le_of_ble_eq_true rfl) ?_ (fun q hq => ent_aI hq) rfl rfl rfl hd k
  show ent G.1 (sI M o 4 x) o = _
  unfold sI
  rw [ent_aI_s]
  unfold entK
  rw [hk]
  rfl
theorem gfX12_107 {G : GX} {Q : State → Prop} {kc ks pc nL : Nat} {lv : List (Nat × Value)} {st : List Value} {M : Mem} {b : ByteArray} {ret : Option FieldType} {rm : Room} (h : OKm G b RX12 nL ret rm) {o : Nat} (hk : kd o = 5) (hd : decode b pc = .ok (.getfield 107, 3)) (k : GG G Q kc ks (pc + 3) lv (rv G.1 (gR M o 1) :: st) M) : GG G Q kc ks pc lv (rv G.1 o :: st) M :=
  g_get h inW6 rfl 1 (by decide) flX12_107 (kd_lt (by rw [hk]; decide)) (ent_5 hk) rfl hd k
theorem pfX12_107 {G : GX} {Q : State → Prop} {kc ks pc nL : Nat} {lv : List (Nat × Value)} {st : List Value} {M : Mem} {b : ByteArray} {ret : Option FieldType} {rm : Room} (h : OKm G b RX12 nL ret rm) {o : Nat} {x : Nat} (hk : kd o = 5) (hd : decode b pc = .ok (.putfield 107, 3)) (k : GG G Q kc ks (pc + 3) lv st (sR M o 1 x)) : GG G Q kc ks pc lv (rv G.1 x :: rv G.1 o :: st) M := by
  refine g_put h inW6 rfl 1 (by decide) flX12_107 tyX6_ok nmX6 rfl (kd_lt (by rw [hk]; decide)) (ent_5 hk) (Nat.le_of_ble_eq_true rfl) ?_ (fun q hq => ent_aR hq) rfl rfl rfl hd k
  show ent G.1 (sR M o 1 x) o = _
  unfold sR
  rw [ent_aR_s]
  unfold entK
  rw [hk]
  rfl
theorem gfX12_111 {G : GX} {Q : State → Prop} {kc ks pc nL : Nat} {lv : List (Nat × Value)} {st : List Value} {M : Mem} {b : ByteArray} {ret : Option FieldType} {rm : Room} (h : OKm G b RX12 nL ret rm) {o : Nat} (hk : kd o = 6) (hd : decode b pc = .ok (.getfield 111, 3)) (k : GG G Q kc ks (pc + 3) lv (rv G.1 (gR M o 0) :: st) M) : GG G Q kc ks pc lv (rv G.1 o :: st) M :=
  g_get h inW7 rfl 0 (by decide) flX12_111 (kd_lt (by rw [hk]; decide)) (ent_6 hk) rfl hd k
theorem pfX12_111 {G : GX} {Q : State → Prop} {kc ks pc nL : Nat} {lv : List (Nat × Value)} {st : List Value} {M : Mem} {b : ByteArray} {ret : Option FieldType} {rm : Room} (h : OKm G b RX12 nL ret rm) {o : Nat} {x : Nat} (hk : kd o = 6) (hd : decode b pc = .ok (.putfield 111, 3)) (k : GG G Q kc ks (pc + 3) lv st (sR M o 0 x)) : GG G Q kc ks pc lv (rv G.1 x :: rv G.1 o :: st) M := by
  refine g_put h inW7 rfl 0 (by decide) flX12_111 tyX7_ok nmX7 rfl (kd_lt (by rw [hk]; decide)) (ent_6 hk) (Nat.le_of_ble_eq_true rfl) ?_ (fun q hq => ent_aR hq) rfl rfl rfl hd k
  show ent G.1 (sR M o 0 x) o = _
  unfold sR
  rw [ent_aR_s]
  unfold entK
  rw [hk]
  rfl
theorem gfX12_112 {G : GX} {Q : State → Prop} {kc ks pc nL : Nat} {lv : List (Nat × Value)} {st : List Value} {M : Mem} {b : ByteArray} {ret : Option FieldType} {rm : Room} (h : OKm G b RX12 nL ret rm) {o : Nat} (hk : kd o = 5) (hd : decode b pc = .ok (.getfield 112, 3)) (k : GG G Q kc ks (pc + 3) lv (rv G.1 21 :: st) M) : GG G Q kc ks pc lv (rv G.1 o :: st) M :=
  g_get h inW6 rfl 2 (by decide) flX12_112 (kd_lt (by rw [hk]; decide)) (ent_5 hk) rfl hd k
theorem gfX12_119 {G : GX} {Q : State → Prop} {kc ks pc nL : Nat} {lv : List (Nat × Value)} {st : List Value} {M : Mem} {b : ByteArray} {ret : Option FieldType} {rm : Room} (h : OKm G b RX12 nL ret rm) {o : Nat} (hk : kd o = 0) (hd : decode b pc = .ok (.getfield 119, 3)) (k : GG G Q kc ks (pc + 3) lv (.int (gI M o 0) :: st) M) : GG G Q kc ks pc lv (rv G.1 o :: st) M :=
  g_get h inW1 rfl 0 (by decide) flX12_119 (kd_lt (by rw [hk]; decide)) (ent_0 hk) rfl hd k
theorem pfX12_119 {G : GX} {Q : State → Prop} {kc ks pc nL : Nat} {lv : List (Nat × Value)} {st : List Value} {M : Mem} {b : ByteArray} {ret : Option FieldType} {rm : Room} (h : OKm G b RX12 nL ret rm) {o : Nat} {x : Int32} (hk : kd o = 0) (hd : decode b pc = .ok (.putfield 119, 3)) (k : GG G Q kc ks (pc + 3) lv st (sI M o 0 x)) : GG G Q kc ks pc lv (.int x :: rv G.1 o :: st) M := by
  refine g_put h inW1 rfl 0 (by decide) flX12_119 tyX1_ok nmX1 rfl (kd_lt (by rw [hk]; decide)) (ent_0 hk) (Nat.le_of_ble_eq_true rfl) ?_ (fun q hq => ent_aI hq) rfl rfl rfl hd k
  show ent G.1 (sI M o 0 x) o = _
  unfold sI
  rw [ent_aI_s]
  unfold entK
  rw [hk]
  rfl
theorem gfX12_122 {G : GX} {Q : State → Prop} {kc ks pc nL : Nat} {lv : List (Nat × Value)} {st : List Value} {M : Mem} {b : ByteArray} {ret : Option FieldType} {rm : Room} (h : OKm G b RX12 nL ret rm) {o : Nat} (hk : kd o = 8) (hd : decode b pc = .ok (.getfield 122, 3)) (k : GG G Q kc ks (pc + 3) lv (.int (gI M o 0) :: st) M) : GG G Q kc ks pc lv (rv G.1 o :: st) M :=
  g_get h inW9 rfl 0 (by decide) flX12_122 (kd_lt (by rw [hk]; decide)) (ent_8 hk) rfl hd k
theorem pfX12_122 {G : GX} {Q : State → Prop} {kc ks pc nL : Nat} {lv : List (Nat × Value)} {st : List Value} {M : Mem} {b : ByteArray} {ret : Option FieldType} {rm : Room} (h : OKm G b RX12 nL ret rm) {o : Nat} {x : Int32} (hk : kd o = 8) (hd : decode b pc = .ok (.putfield 122, 3)) (k : GG G Q kc ks (pc + 3) lv st (sI M o 0 x)) : GG G Q kc ks pc lv (.int x :: rv G.1 o :: st) M := by
  refine g_put h inW9 rfl 0 (by decide) flX12_122 tyX9_ok nmX9 rfl (kd_lt (by rw [hk]; decide)) (ent_8 hk) (Nat.le_of_ble_eq_true rfl) ?_ (fun q hq => ent_aI hq) rfl rfl rfl hd k
  show ent G.1 (sI M o 0 x) o = _
  unfold sI
  rw [ent_aI_s]
  unfold entK
  rw [hk]
  rfl
theorem gfX12_123 {G : GX} {Q : State → Prop} {kc ks pc nL : Nat} {lv : List (Nat × Value)} {st : List Value} {M : Mem} {b : ByteArray} {ret : Option FieldType} {rm : Room} (h : OKm G b RX12 nL ret rm) {o : Nat} (hk : kd o = 2) (hd : decode b pc = .ok (.getfield 123, 3)) (k : GG G Q kc ks (pc + 3) lv (.int (gI M o 0) :: st) M) : GG G Q kc ks pc lv (rv G.1 o :: st) M :=
  g_get h inW3 rfl 0 (by decide) flX12_123 (kd_lt (by rw [hk]; decide)) (ent_2 hk) rfl hd k
theorem pfX12_123 {G : GX} {Q : State → Prop} {kc ks pc nL : Nat} {lv : List (Nat × Value)} {st : List Value} {M : Mem} {b : ByteArray} {ret : Option FieldType} {rm : Room} (h : OKm G b RX12 nL ret rm) {o : Nat} {x : Int32} (hk : kd o = 2) (hd : decode b pc = .ok (.putfield 123, 3)) (k : GG G Q kc ks (pc + 3) lv st (sI M o 0 x)) : GG G Q kc ks pc lv (.int x :: rv G.1 o :: st) M := by
  refine g_put h inW3 rfl 0 (by decide) flX12_123 tyX3_ok nmX3 rfl (kd_lt (by rw [hk]; decide)) (ent_2 hk) (Nat.le_of_ble_eq_true rfl) ?_ (fun q hq => ent_aI hq) rfl rfl rfl hd k
  show ent G.1 (sI M o 0 x) o = _
  unfold sI
  rw [ent_aI_s]
  unfold entK
  rw [hk]
  rfl
theorem gfX12_126 {G : GX} {Q : State → Prop} {kc ks pc nL : Nat} {lv : List (Nat × Value)} {st : List Value} {M : Mem} {b : ByteArray} {ret : Option FieldType} {rm : Room} (h : OKm G b RX12 nL ret rm) {o : Nat} (hk : kd o = 2) (hd : decode b pc = .ok (.getfield 126, 3)) (k : GG G Q kc ks (pc + 3) lv (.int (gI M o 1) :: st) M) : GG G Q kc ks pc lv (rv G.1 o :: st) M :=
  g_get h inW3 rfl 1 (by decide) flX12_126 (kd_lt (by rw [hk]; decide)) (ent_2 hk) rfl hd k
theorem pfX12_126 {G : GX} {Q : State → Prop} {kc ks pc nL : Nat} {lv : List (Nat × Value)} {st : List Value} {M : Mem} {b : ByteArray} {ret : Option FieldType} {rm : Room} (h : OKm G b RX12 nL ret rm) {o : Nat} {x : Int32} (hk : kd o = 2) (hd : decode b pc = .ok (.putfield 126, 3)) (k : GG G Q kc ks (pc + 3) lv st (sI M o 1 x)) : GG G Q kc ks pc lv (.int x :: rv G.1 o :: st) M := by
  refine g_put h inW3 rfl 1 (by decide) flX12_126 tyX3_ok nmX3 rfl (kd_lt (by rw [hk]; decide)) (ent_2 hk) (Nat.le_of_ble_eq_true rfl) ?_ (fun q hq => ent_aI hq) rfl rfl rfl hd k
  show ent G.1 (sI M o 1 x) o = _
  unfold sI
  rw [ent_aI_s]
  unfold entK
  rw [hk]
  rfl
theorem gfX12_129 {G : GX} {Q : State → Prop} {kc ks pc nL : Nat} {lv : List (Nat × Value)} {st : List Value} {M : Mem} {b : ByteArray} {ret : Option FieldType} {rm : Room} (h : OKm G b RX12 nL ret rm) {o : Nat} (hk : kd o = 2) (hd : decode b pc = .ok (.getfield 129, 3)) (k : GG G Q kc ks (pc + 3) lv (.int (gI M o 2) :: st) M) : GG G Q kc ks pc lv (rv G.1 o :: st) M :=
  g_get h inW3 rfl 2 (by decide) flX12_129 (kd_lt (by rw [hk]; decide)) (ent_2 hk) rfl hd k
theorem pfX12_129 {G : GX} {Q : State → Prop} {kc ks pc nL : Nat} {lv : List (Nat × Value)} {st : List Value} {M : Mem} {b : ByteArray} {ret : Option FieldType} {rm : Room} (h : OKm G b RX12 nL ret rm) {o : Nat} {x : Int32} (hk : kd o = 2) (hd : decode b pc = .ok (.putfield 129, 3)) (k : GG G Q kc ks (pc + 3) lv st (sI M o 2 x)) : GG G Q kc ks pc lv (.int x :: rv G.1 o :: st) M := by
  refine g_put h inW3 rfl 2 (by decide) flX12_129 tyX3_ok nmX3 rfl (kd_lt (by rw [hk]; decide)) (ent_2 hk) (Nat.le_of_ble_eq_true rfl) ?_ (fun q hq => ent_aI hq) rfl rfl rfl hd k
  show ent G.1 (sI M o 2 x) o = _
  unfold sI
  rw [ent_aI_s]
  unfold entK
  rw [hk]
  rfl
theorem gfX12_132 {G : GX} {Q : State → Prop} {kc ks pc nL : Nat} {lv : List (Nat × Value)} {st : List Value} {M : Mem} {b : ByteArray} {ret : Option FieldType} {rm : Room} (h : OKm G b RX12 nL ret rm) {o : Nat} (hk : kd o = 2) (hd : decode b pc = .ok (.getfield 132, 3)) (k : GG G Q kc ks (pc + 3) lv (.int (gI M o 3) :: st) M) : GG G Q kc ks pc lv (rv G.1 o :: st) M :=
  g_get h inW3 rfl 3 (by decide) flX12_132 (kd_lt (by rw [hk]; decide)) (ent_2 hk) rfl hd k
theorem pfX12_132 {G : GX} {Q : State → Prop} {kc ks pc nL : Nat} {lv : List (Nat × Value)} {st : List Value} {M : Mem} {b : ByteArray} {ret : Option FieldType} {rm : Room} (h : OKm G b RX12 nL ret rm) {o : Nat} {x : Int32} (hk : kd o = 2) (hd : decode b pc = .ok (.putfield 132, 3)) (k : GG G Q kc ks (pc + 3) lv st (sI M o 3 x)) : GG G Q kc ks pc lv (.int x :: rv G.1 o :: st) M := by
  refine g_put h inW3 rfl 3 (by decide) flX12_132 tyX3_ok nmX3 rfl (kd_lt (by rw [hk]; decide)) (ent_2 hk) (Nat.le_of_ble_eq_true rfl) ?_ (fun q hq => ent_aI hq) rfl rfl rfl hd k
  show ent G.1 (sI M o 3 x) o = _
  unfold sI
  rw [ent_aI_s]
  unfold entK
  rw [hk]
  rfl
theorem gfX12_135 {G : GX} {Q : State → Prop} {kc ks pc nL : Nat} {lv : List (Nat × Value)} {st : List Value} {M : Mem} {b : ByteArray} {ret : Option FieldType} {rm : Room} (h : OKm G b RX12 nL ret rm) {o : Nat} (hk : kd o = 2) (hd : decode b pc = .ok (.getfield 135, 3)) (k : GG G Q kc ks (pc + 3) lv (.int (gI M o 4) :: st) M) : GG G Q kc ks pc lv (rv G.1 o :: st) M :=
  g_get h inW3 rfl 4 (by decide) flX12_135 (kd_lt (by rw [hk]; decide)) (ent_2 hk) rfl hd k
theorem pfX12_135 {G : GX} {Q : State → Prop} {kc ks pc nL : Nat} {lv : List (Nat × Value)} {st : List Value} {M : Mem} {b : ByteArray} {ret : Option FieldType} {rm : Room} (h : OKm G b RX12 nL ret rm) {o : Nat} {x : Int32} (hk : kd o = 2) (hd : decode b pc = .ok (.putfield 135, 3)) (k : GG G Q kc ks (pc + 3) lv st (sI M o 4 x)) : GG G Q kc ks pc lv (.int x :: rv G.1 o :: st) M := by
  refine g_put h inW3 rfl 4 (by decide) flX12_135 tyX3_ok nmX3 rfl (kd_lt (by rw [hk]; decide)) (ent_2 hk) (Nat.le_of_ble_eq_true rfl) ?_ (fun q hq => ent_aI hq) rfl rfl rfl hd k
  show ent G.1 (sI M o 4 x) o = _
  unfold sI
  rw [ent_aI_s]
  unfold entK
  rw [hk]
  rfl
theorem gfX12_138 {G : GX} {Q : State → Prop} {kc ks pc nL : Nat} {lv : List (Nat × Value)} {st : List Value} {M : Mem} {b : ByteArray} {ret : Option FieldType} {rm : Room} (h : OKm G b RX12 nL ret rm) {o : Nat} (hk : kd o = 2) (hd : decode b pc = .ok (.getfield 138, 3)) (k : GG G Q kc ks (pc + 3) lv (.int (gI M o 5) :: st) M) : GG G Q kc ks pc lv (rv G.1 o :: st) M :=
  g_get h inW3 rfl 5 (by decide) flX12_138 (kd_lt (by rw [hk]; decide)) (ent_2 hk) rfl hd k
theorem pfX12_138 {G : GX} {Q : State → Prop} {kc ks pc nL : Nat} {lv : List (Nat × Value)} {st : List Value} {M : Mem} {b : ByteArray} {ret : Option FieldType} {rm : Room} (h : OKm G b RX12 nL ret rm) {o : Nat} {x : Int32} (hk : kd o = 2) (hd : decode b pc = .ok (.putfield 138, 3)) (k : GG G Q kc ks (pc + 3) lv st (sI M o 5 x)) : GG G Q kc ks pc lv (.int x :: rv G.1 o :: st) M := by
  refine g_put h inW3 rfl 5 (by decide) flX12_138 tyX3_ok nmX3 rfl (kd_lt (by rw [hk]; decide)) (ent_2 hk) (Nat.le_of_ble_eq_true rfl) ?_ (fun q hq => ent_aI hq) rfl rfl rfl hd k
  show ent G.1 (sI M o 5 x) o = _
  unfold sI
  rw [ent_aI_s]
  unfold entK
  rw [hk]
  rfl
theorem gfX12_141 {G : GX} {Q : State → Prop} {kc ks pc nL : Nat} {lv : List (Nat × Value)} {st : List Value} {M : Mem} {b : ByteArray} {ret : Option FieldType} {rm : Room} (h : OKm G b RX12 nL ret rm) {o : Nat} (hk : kd o = 2) (hd : decode b pc = .ok (.getfield 141, 3)) (k : GG G Q kc ks (pc + 3) lv (.int (gI M o 8) :: st) M) : GG G Q kc ks pc lv (rv G.1 o :: st) M :=
  g_get h inW3 rfl 8 (by decide) flX12_141 (kd_lt (by rw [hk]; decide)) (ent_2 hk) rfl hd k
theorem pfX12_141 {G : GX} {Q : State → Prop} {kc ks pc nL : Nat} {lv : List (Nat × Value)} {st : List Value} {M : Mem} {b : ByteArray} {ret : Option FieldType} {rm : Room} (h : OKm G b RX12 nL ret rm) {o : Nat} {x : Int32} (hk : kd o = 2) (hd : decode b pc = .ok (.putfield 141, 3)) (k : GG G Q kc ks (pc + 3) lv st (sI M o 8 x)) : GG G Q kc ks pc lv (.int x :: rv G.1 o :: st) M := by
  refine g_put h inW3 rfl 8 (by decide) flX12_141 tyX3_ok nmX3 rfl (kd_lt (by rw [hk]; decide)) (ent_2 hk) (Nat.le_of_ble_eq_true rfl) ?_ (fun q hq => ent_aI hq) rfl rfl rfl hd k
  show ent G.1 (sI M o 8 x) o = _
  unfold sI
  rw [ent_aI_s]
  unfold entK
  rw [hk]
  rfl
theorem gfX12_144 {G : GX} {Q : State → Prop} {kc ks pc nL : Nat} {lv : List (Nat × Value)} {st : List Value} {M : Mem} {b : ByteArray} {ret : Option FieldType} {rm : Room} (h : OKm G b RX12 nL ret rm) {o : Nat} (hk : kd o = 2) (hd : decode b pc = .ok (.getfield 144, 3)) (k : GG G Q kc ks (pc + 3) lv (.int (gI M o 6) :: st) M) : GG G Q kc ks pc lv (rv G.1 o :: st) M :=
  g_get h inW3 rfl 6 (by decide) flX12_144 (kd_lt (by rw [hk]; decide)) (ent_2 hk) rfl hd k
theorem pfX12_144 {G : GX} {Q : State → Prop} {kc ks pc nL : Nat} {lv : List (Nat × Value)} {st : List Value} {M : Mem} {b : ByteArray} {ret : Option FieldType} {rm : Room} (h : OKm G b RX12 nL ret rm) {o : Nat} {x : Int32} (hk : kd o = 2) (hd : decode b pc = .ok (.putfield 144, 3)) (k : GG G Q kc ks (pc + 3) lv st (sI M o 6 x)) : GG G Q kc ks pc lv (.int x :: rv G.1 o :: st) M := by
  refine g_put h inW3 rfl 6 (by decide) flX12_144 tyX3_ok nmX3 rfl (kd_lt (by rw [hk]; decide)) (ent_2 hk) (Nat.le_of_ble_eq_true rfl) ?_ (fun q hq => ent_aI hq) rfl rfl rfl hd k
  show ent G.1 (sI M o 6 x) o = _
  unfold sI
  rw [ent_aI_s]
  unfold entK
  rw [hk]
  rfl
theorem gfX12_147 {G : GX} {Q : State → Prop} {kc ks pc nL : Nat} {lv : List (Nat × Value)} {st : List Value} {M : Mem} {b : ByteArray} {ret : Option FieldType} {rm : Room} (h : OKm G b RX12 nL ret rm) {o : Nat} (hk : kd o = 2) (hd : decode b pc = .ok (.getfield 147, 3)) (k : GG G Q kc ks (pc + 3) lv (.int (gI M o 7) :: st) M) : GG G Q kc ks pc lv (rv G.1 o :: st) M :=
  g_get h inW3 rfl 7 (by decide) flX12_147 (kd_lt (by rw [hk]; decide)) (ent_2 hk) rfl hd k
theorem pfX12_147 {G : GX} {Q : State → Prop} {kc ks pc nL : Nat} {lv : List (Nat × Value)} {st : List Value} {M : Mem} {b : ByteArray} {ret : Option FieldType} {rm : Room} (h : OKm G b RX12 nL ret rm) {o : Nat} {x : Int32} (hk : kd o = 2) (hd : decode b pc = .ok (.putfield 147, 3)) (k : GG G Q kc ks (pc + 3) lv st (sI M o 7 x)) : GG G Q kc ks pc lv (.int x :: rv G.1 o :: st) M := by
  refine g_put h inW3 rfl 7 (by decide) flX12_147 tyX3_ok nmX3 rfl (kd_lt (by rw [hk]; decide)) (ent_2 hk) (Nat.le_of_ble_eq_true rfl) ?_ (fun q hq => ent_aI hq) rfl rfl rfl hd k
  show ent G.1 (sI M o 7 x) o = _
  unfold sI
  rw [ent_aI_s]
  unfold entK
  rw [hk]
  rfl
theorem gfX12_150 {G : GX} {Q : State → Prop} {kc ks pc nL : Nat} {lv : List (Nat × Value)} {st : List Value} {M : Mem} {b : ByteArray} {ret : Option FieldType} {rm : Room} (h : OKm G b RX12 nL ret rm) {o : Nat} (hk : kd o = 4) (hd : decode b pc = .ok (.getfield 150, 3)) (k : GG G Q kc ks (pc + 3) lv (.int (gI M o 0) :: st) M) : GG G Q kc ks pc lv (rv G.1 o :: st) M :=
  g_get h inW5 rfl 0 (by decide) flX12_150 (kd_lt (by rw [hk]; decide)) (ent_4 hk) rfl hd k
theorem pfX12_150 {G : GX} {Q : State → Prop} {kc ks pc nL : Nat} {lv : List (Nat × Value)} {st : List Value} {M : Mem} {b : ByteArray} {ret : Option FieldType} {rm : Room} (h : OKm G b RX12 nL ret rm) {o : Nat} {x : Int32} (hk : kd o = 4) (hd : decode b pc = .ok (.putfield 150, 3)) (k : GG G Q kc ks (pc + 3) lv st (sI M o 0 x)) : GG G Q kc ks pc lv (.int x :: rv G.1 o :: st) M := by
  refine g_put h inW5 rfl 0 (by decide) flX12_150 tyX5_ok nmX5 rfl (kd_lt (by rw [hk]; decide)) (ent_4 hk) (Nat.le_of_ble_eq_true rfl) ?_ (fun q hq => ent_aI hq) rfl rfl rfl hd k
  show ent G.1 (sI M o 0 x) o = _
  unfold sI
  rw [ent_aI_s]
  unfold entK
  rw [hk]
  rfl
theorem gfX12_155 {G : GX} {Q : State → Prop} {kc ks pc nL : Nat} {lv : List (Nat × Value)} {st : List Value} {M : Mem} {b : ByteArray} {ret : Option FieldType} {rm : Room} (h : OKm G b RX12 nL ret rm) {o : Nat} (hk : kd o = 4) (hd : decode b pc = .ok (.getfield 155, 3)) (k : GG G Q kc ks (pc + 3) lv (.int (gI M o 8) :: st) M) : GG G Q kc ks pc lv (rv G.1 o :: st) M :=
  g_get h inW5 rfl 8 (by decide) flX12_155 (kd_lt (by rw [hk]; decide)) (ent_4 hk) rfl hd k
theorem pfX12_155 {G : GX} {Q : State → Prop} {kc ks pc nL : Nat} {lv : List (Nat × Value)} {st : List Value} {M : Mem} {b : ByteArray} {ret : Option FieldType} {rm : Room} (h : OKm G b RX12 nL ret rm) {o : Nat} {x : Int32} (hk : kd o = 4) (hd : decode b pc = .ok (.putfield 155, 3)) (k : GG G Q kc ks (pc + 3) lv st (sI M o 8 x)) : GG G Q kc ks pc lv (.int x :: rv G.1 o :: st) M := by
  refine g_put h inW5 rfl 8 (by decide) flX12_155 tyX5_ok nmX5 rfl (kd_lt (by rw [hk]; decide)) (ent_4 hk) (Nat.le_of_ble_eq_true rfl) ?_ (fun q hq => ent_aI hq) rfl rfl rfl hd k
  show ent G.1 (sI M o 8 x) o = _
  unfold sI
  rw [ent_aI_s]
  unfold entK
  rw [hk]
  rfl
theorem gfX12_158 {G : GX} {Q : State → Prop} {kc ks pc nL : Nat} {lv : List (Nat × Value)} {st : List Value} {M : Mem} {b : ByteArray} {ret : Option FieldType} {rm : Room} (h : OKm G b RX12 nL ret rm) {o : Nat} (hk : kd o = 4) (hd : decode b pc = .ok (.getfield 158, 3)) (k : GG G Q kc ks (pc + 3) lv (rv G.1 (o + 8) :: st) M) : GG G Q kc ks pc lv (rv G.1 o :: st) M :=
  g_get h inW5 rfl 10 (by decide) flX12_158 (kd_lt (by rw [hk]; decide)) (ent_4 hk) rfl hd k
theorem gfX12_162 {G : GX} {Q : State → Prop} {kc ks pc nL : Nat} {lv : List (Nat × Value)} {st : List Value} {M : Mem} {b : ByteArray} {ret : Option FieldType} {rm : Room} (h : OKm G b RX12 nL ret rm) {o : Nat} (hk : kd o = 3) (hd : decode b pc = .ok (.getfield 162, 3)) (k : GG G Q kc ks (pc + 3) lv (.int (gI M o 0) :: st) M) : GG G Q kc ks pc lv (rv G.1 o :: st) M :=
  g_get h inW4 rfl 0 (by decide) flX12_162 (kd_lt (by rw [hk]; decide)) (ent_3 hk) rfl hd k
theorem pfX12_162 {G : GX} {Q : State → Prop} {kc ks pc nL : Nat} {lv : List (Nat × Value)} {st : List Value} {M : Mem} {b : ByteArray} {ret : Option FieldType} {rm : Room} (h : OKm G b RX12 nL ret rm) {o : Nat} {x : Int32} (hk : kd o = 3) (hd : decode b pc = .ok (.putfield 162, 3)) (k : GG G Q kc ks (pc + 3) lv st (sI M o 0 x)) : GG G Q kc ks pc lv (.int x :: rv G.1 o :: st) M := by
  refine g_put h inW4 rfl 0 (by decide) flX12_162 tyX4_ok nmX4 rfl (kd_lt (by rw [hk]; decide)) (ent_3 hk) (Nat.le_of_ble_eq_true rfl) ?_ (fun q hq => ent_aI hq) rfl rfl rfl hd k
  show ent G.1 (sI M o 0 x) o = _
  unfold sI
  rw [ent_aI_s]
  unfold entK
  rw [hk]
  rfl
theorem gfX12_165 {G : GX} {Q : State → Prop} {kc ks pc nL : Nat} {lv : List (Nat × Value)} {st : List Value} {M : Mem} {b : ByteArray} {ret : Option FieldType} {rm : Room} (h : OKm G b RX12 nL ret rm) {o : Nat} (hk : kd o = 4) (hd : decode b pc = .ok (.getfield 165, 3)) (k : GG G Q kc ks (pc + 3) lv (rv G.1 (o + 11) :: st) M) : GG G Q kc ks pc lv (rv G.1 o :: st) M :=
  g_get h inW5 rfl 11 (by decide) flX12_165 (kd_lt (by rw [hk]; decide)) (ent_4 hk) rfl hd k
theorem gfX12_176 {G : GX} {Q : State → Prop} {kc ks pc nL : Nat} {lv : List (Nat × Value)} {st : List Value} {M : Mem} {b : ByteArray} {ret : Option FieldType} {rm : Room} (h : OKm G b RX12 nL ret rm) {o : Nat} (hk : kd o = 4) (hd : decode b pc = .ok (.getfield 176, 3)) (k : GG G Q kc ks (pc + 3) lv (rv G.1 (o + 1) :: st) M) : GG G Q kc ks pc lv (rv G.1 o :: st) M :=
  g_get h inW5 rfl 1 (by decide) flX12_176 (kd_lt (by rw [hk]; decide)) (ent_4 hk) rfl hd k
theorem gfX12_179 {G : GX} {Q : State → Prop} {kc ks pc nL : Nat} {lv : List (Nat × Value)} {st : List Value} {M : Mem} {b : ByteArray} {ret : Option FieldType} {rm : Room} (h : OKm G b RX12 nL ret rm) {o : Nat} (hk : kd o = 4) (hd : decode b pc = .ok (.getfield 179, 3)) (k : GG G Q kc ks (pc + 3) lv (rv G.1 (o + 2) :: st) M) : GG G Q kc ks pc lv (rv G.1 o :: st) M :=
  g_get h inW5 rfl 2 (by decide) flX12_179 (kd_lt (by rw [hk]; decide)) (ent_4 hk) rfl hd k
theorem gfX12_182 {G : GX} {Q : State → Prop} {kc ks pc nL : Nat} {lv : List (Nat × Value)} {st : List Value} {M : Mem} {b : ByteArray} {ret : Option FieldType} {rm : Room} (h : OKm G b RX12 nL ret rm) {o : Nat} (hk : kd o = 4) (hd : decode b pc = .ok (.getfield 182, 3)) (k : GG G Q kc ks (pc + 3) lv (rv G.1 (o + 3) :: st) M) : GG G Q kc ks pc lv (rv G.1 o :: st) M :=
  g_get h inW5 rfl 3 (by decide) flX12_182 (kd_lt (by rw [hk]; decide)) (ent_4 hk) rfl hd k
theorem gfX12_185 {G : GX} {Q : State → Prop} {kc ks pc nL : Nat} {lv : List (Nat × Value)} {st : List Value} {M : Mem} {b : ByteArray} {ret : Option FieldType} {rm : Room} (h : OKm G b RX12 nL ret rm) {o : Nat} (hk : kd o = 4) (hd : decode b pc = .ok (.getfield 185, 3)) (k : GG G Q kc ks (pc + 3) lv (rv G.1 (o + 4) :: st) M) : GG G Q kc ks pc lv (rv G.1 o :: st) M :=
  g_get h inW5 rfl 4 (by decide) flX12_185 (kd_lt (by rw [hk]; decide)) (ent_4 hk) rfl hd k
theorem gfX12_191 {G : GX} {Q : State → Prop} {kc ks pc nL : Nat} {lv : List (Nat × Value)} {st : List Value} {M : Mem} {b : ByteArray} {ret : Option FieldType} {rm : Room} (h : OKm G b RX12 nL ret rm) {o : Nat} (hk : kd o = 2) (hd : decode b pc = .ok (.getfield 191, 3)) (k : GG G Q kc ks (pc + 3) lv (rv G.1 (o + 2) :: st) M) : GG G Q kc ks pc lv (rv G.1 o :: st) M :=
  g_get h inW3 rfl 10 (by decide) flX12_191 (kd_lt (by rw [hk]; decide)) (ent_2 hk) rfl hd k
theorem gfX12_192 {G : GX} {Q : State → Prop} {kc ks pc nL : Nat} {lv : List (Nat × Value)} {st : List Value} {M : Mem} {b : ByteArray} {ret : Option FieldType} {rm : Room} (h : OKm G b RX12 nL ret rm) {o : Nat} (hk : kd o = 2) (hd : decode b pc = .ok (.getfield 192, 3)) (k : GG G Q kc ks (pc + 3) lv (rv G.1 (o + 1) :: st) M) : GG G Q kc ks pc lv (rv G.1 o :: st) M :=
  g_get h inW3 rfl 9 (by decide) flX12_192 (kd_lt (by rw [hk]; decide)) (ent_2 hk) rfl hd k
theorem gfX12_195 {G : GX} {Q : State → Prop} {kc ks pc nL : Nat} {lv : List (Nat × Value)} {st : List Value} {M : Mem} {b : ByteArray} {ret : Option FieldType} {rm : Room} (h : OKm G b RX12 nL ret rm) {o : Nat} (hk : kd o = 4) (hd : decode b pc = .ok (.getfield 195, 3)) (k : GG G Q kc ks (pc + 3) lv (rv G.1 (o + 5) :: st) M) : GG G Q kc ks pc lv (rv G.1 o :: st) M :=
  g_get h inW5 rfl 5 (by decide) flX12_195 (kd_lt (by rw [hk]; decide)) (ent_4 hk) rfl hd k
theorem gfX12_214 {G : GX} {Q : State → Prop} {kc ks pc nL : Nat} {lv : List (Nat × Value)} {st : List Value} {M : Mem} {b : ByteArray} {ret : Option FieldType} {rm : Room} (h : OKm G b RX12 nL ret rm) {o : Nat} (hk : kd o = 2) (hd : decode b pc = .ok (.getfield 214, 3)) (k : GG G Q kc ks (pc + 3) lv (rv G.1 (o + 3) :: st) M) : GG G Q kc ks pc lv (rv G.1 o :: st) M :=
  g_get h inW3 rfl 11 (by decide) flX12_214 (kd_lt (by rw [hk]; decide)) (ent_2 hk) rfl hd k
theorem gfX12_220 {G : GX} {Q : State → Prop} {kc ks pc nL : Nat} {lv : List (Nat × Value)} {st : List Value} {M : Mem} {b : ByteArray} {ret : Option FieldType} {rm : Room} (h : OKm G b RX12 nL ret rm) {o : Nat} (hk : kd o = 2) (hd : decode b pc = .ok (.getfield 220, 3)) (k : GG G Q kc ks (pc + 3) lv (rv G.1 (o + 4) :: st) M) : GG G Q kc ks pc lv (rv G.1 o :: st) M :=
  g_get h inW3 rfl 12 (by decide) flX12_220 (kd_lt (by rw [hk]; decide)) (ent_2 hk) rfl hd k
theorem gfX12_223 {G : GX} {Q : State → Prop} {kc ks pc nL : Nat} {lv : List (Nat × Value)} {st : List Value} {M : Mem} {b : ByteArray} {ret : Option FieldType} {rm : Room} (h : OKm G b RX12 nL ret rm) {o : Nat} (hk : kd o = 4) (hd : decode b pc = .ok (.getfield 223, 3)) (k : GG G Q kc ks (pc + 3) lv (rv G.1 (o + 7) :: st) M) : GG G Q kc ks pc lv (rv G.1 o :: st) M :=
  g_get h inW5 rfl 9 (by decide) flX12_223 (kd_lt (by rw [hk]; decide)) (ent_4 hk) rfl hd k
theorem gfX12_282 {G : GX} {Q : State → Prop} {kc ks pc nL : Nat} {lv : List (Nat × Value)} {st : List Value} {M : Mem} {b : ByteArray} {ret : Option FieldType} {rm : Room} (h : OKm G b RX12 nL ret rm) {o : Nat} (hk : kd o = 1) (hd : decode b pc = .ok (.getfield 282, 3)) (k : GG G Q kc ks (pc + 3) lv (.int (gI M o 3) :: st) M) : GG G Q kc ks pc lv (rv G.1 o :: st) M :=
  g_get h inW2 rfl 3 (by decide) flX12_282 (kd_lt (by rw [hk]; decide)) (ent_1 hk) rfl hd k
theorem pfX12_282 {G : GX} {Q : State → Prop} {kc ks pc nL : Nat} {lv : List (Nat × Value)} {st : List Value} {M : Mem} {b : ByteArray} {ret : Option FieldType} {rm : Room} (h : OKm G b RX12 nL ret rm) {o : Nat} {x : Int32} (hk : kd o = 1) (hd : decode b pc = .ok (.putfield 282, 3)) (k : GG G Q kc ks (pc + 3) lv st (sI M o 3 x)) : GG G Q kc ks pc lv (.int x :: rv G.1 o :: st) M := by
  refine g_put h inW2 rfl 3 (by decide) flX12_282 tyX2_ok nmX2 rfl (kd_lt (by rw [hk]; decide)) (ent_1 hk) (Nat.le_of_ble_eq_true rfl) ?_ (fun q hq => ent_aI hq) rfl rfl rfl hd k
  show ent G.1 (sI M o 3 x) o = _
  unfold sI
  rw [ent_aI_s]
  unfold entK
  rw [hk]
  rfl
theorem gfX12_294 {G : GX} {Q : State → Prop} {kc ks pc nL : Nat} {lv : List (Nat × Value)} {st : List Value} {M : Mem} {b : ByteArray} {ret : Option FieldType} {rm : Room} (h : OKm G b RX12 nL ret rm) {o : Nat} (hk : kd o = 3) (hd : decode b pc = .ok (.getfield 294, 3)) (k : GG G Q kc ks (pc + 3) lv (rv G.1 (o + 1) :: st) M) : GG G Q kc ks pc lv (rv G.1 o :: st) M :=
  g_get h inW4 rfl 1 (by decide) flX12_294 (kd_lt (by rw [hk]; decide)) (ent_3 hk) rfl hd k
theorem gfX12_311 {G : GX} {Q : State → Prop} {kc ks pc nL : Nat} {lv : List (Nat × Value)} {st : List Value} {M : Mem} {b : ByteArray} {ret : Option FieldType} {rm : Room} (h : OKm G b RX12 nL ret rm) {o : Nat} (hk : kd o = 3) (hd : decode b pc = .ok (.getfield 311, 3)) (k : GG G Q kc ks (pc + 3) lv (rv G.1 (o + 2) :: st) M) : GG G Q kc ks pc lv (rv G.1 o :: st) M :=
  g_get h inW4 rfl 2 (by decide) flX12_311 (kd_lt (by rw [hk]; decide)) (ent_3 hk) rfl hd k
theorem gfX12_340 {G : GX} {Q : State → Prop} {kc ks pc nL : Nat} {lv : List (Nat × Value)} {st : List Value} {M : Mem} {b : ByteArray} {ret : Option FieldType} {rm : Room} (h : OKm G b RX12 nL ret rm) {o : Nat} (hk : kd o = 1) (hd : decode b pc = .ok (.getfield 340, 3)) (k : GG G Q kc ks (pc + 3) lv (rv G.1 58 :: st) M) : GG G Q kc ks pc lv (rv G.1 o :: st) M :=
  g_get h inW2 rfl 6 (by decide) flX12_340 (kd_lt (by rw [hk]; decide)) (ent_1 hk) rfl hd k
theorem gfX1_9 {G : GX} {Q : State → Prop} {kc ks pc nL : Nat} {lv : List (Nat × Value)} {st : List Value} {M : Mem} {b : ByteArray} {ret : Option FieldType} {rm : Room} (h : OKm G b RX1 nL ret rm) {o : Nat} (hk : kd o = 0) (hd : decode b pc = .ok (.getfield 9, 3)) (k : GG G Q kc ks (pc + 3) lv (.int (gI M o 0) :: st) M) : GG G Q kc ks pc lv (rv G.1 o :: st) M :=
  g_get h inW1 rfl 0 (by decide) flX1_9 (kd_lt (by rw [hk]; decide)) (ent_0 hk) rfl hd k
theorem pfX1_9 {G : GX} {Q : State → Prop} {kc ks pc nL : Nat} {lv : List (Nat × Value)} {st : List Value} {M : Mem} {b : ByteArray} {ret : Option FieldType} {rm : Room} (h : OKm G b RX1 nL ret rm) {o : Nat} {x : Int32} (hk : kd o = 0) (hd : decode b pc = .ok (.putfield 9, 3)) (k : GG G Q kc ks (pc + 3) lv st (sI M o 0 x)) : GG G Q kc ks pc lv (.int x :: rv G.1 o :: st) M := by
  refine g_put h inW1 rfl 0 (by decide) flX1_9 tyX1_ok nmX1 rfl (kd_lt (by rw [hk]; decide)) (ent_0 hk) (Nat.le_of_ble_eq_true rfl) ?_ (fun q hq => ent_aI hq) rfl rfl rfl hd k
  show ent G.1 (sI M o 0 x) o = _
  unfold sI
  rw [ent_aI_s]
  unfold entK
  rw [hk]
  rfl
theorem gfX1_17 {G : GX} {Q : State → Prop} {kc ks pc nL : Nat} {lv : List (Nat × Value)} {st : List Value} {M : Mem} {b : ByteArray} {ret : Option FieldType} {rm : Room} (h : OKm G b RX1 nL ret rm) {o : Nat} (hk : kd o = 0) (hd : decode b pc = .ok (.getfield 17, 3)) (k : GG G Q kc ks (pc + 3) lv (rv G.1 (o + 1) :: st) M) : GG G Q kc ks pc lv (rv G.1 o :: st) M :=
  g_get h inW1 rfl 1 (by decide) flX1_17 (kd_lt (by rw [hk]; decide)) (ent_0 hk) rfl hd k
theorem gfX2_12 {G : GX} {Q : State → Prop} {kc ks pc nL : Nat} {lv : List (Nat × Value)} {st : List Value} {M : Mem} {b : ByteArray} {ret : Option FieldType} {rm : Room} (h : OKm G b RX2 nL ret rm) {o : Nat} (hk : kd o = 1) (hd : decode b pc = .ok (.getfield 12, 3)) (k : GG G Q kc ks (pc + 3) lv (rv G.1 50 :: st) M) : GG G Q kc ks pc lv (rv G.1 o :: st) M :=
  g_get h inW2 rfl 1 (by decide) flX2_12 (kd_lt (by rw [hk]; decide)) (ent_1 hk) rfl hd k
theorem gfX2_18 {G : GX} {Q : State → Prop} {kc ks pc nL : Nat} {lv : List (Nat × Value)} {st : List Value} {M : Mem} {b : ByteArray} {ret : Option FieldType} {rm : Room} (h : OKm G b RX2 nL ret rm) {o : Nat} (hk : kd o = 1) (hd : decode b pc = .ok (.getfield 18, 3)) (k : GG G Q kc ks (pc + 3) lv (rv G.1 55 :: st) M) : GG G Q kc ks pc lv (rv G.1 o :: st) M :=
  g_get h inW2 rfl 2 (by decide) flX2_18 (kd_lt (by rw [hk]; decide)) (ent_1 hk) rfl hd k
theorem gfX2_22 {G : GX} {Q : State → Prop} {kc ks pc nL : Nat} {lv : List (Nat × Value)} {st : List Value} {M : Mem} {b : ByteArray} {ret : Option FieldType} {rm : Room} (h : OKm G b RX2 nL ret rm) {o : Nat} (hk : kd o = 1) (hd : decode b pc = .ok (.getfield 22, 3)) (k : GG G Q kc ks (pc + 3) lv (.int (gI M o 3) :: st) M) : GG G Q kc ks pc lv (rv G.1 o :: st) M :=
  g_get h inW2 rfl 3 (by decide) flX2_22 (kd_lt (by rw [hk]; decide)) (ent_1 hk) rfl hd k
theorem pfX2_22 {G : GX} {Q : State → Prop} {kc ks pc nL : Nat} {lv : List (Nat × Value)} {st : List Value} {M : Mem} {b : ByteArray} {ret : Option FieldType} {rm : Room} (h : OKm G b RX2 nL ret rm) {o : Nat} {x : Int32} (hk : kd o = 1) (hd : decode b pc = .ok (.putfield 22, 3)) (k : GG G Q kc ks (pc + 3) lv st (sI M o 3 x)) : GG G Q kc ks pc lv (.int x :: rv G.1 o :: st) M := by
  refine g_put h inW2 rfl 3 (by decide) flX2_22 tyX2_ok nmX2 rfl (kd_lt (by rw [hk]; decide)) (ent_1 hk) (Nat.le_of_ble_eq_true rfl) ?_ (fun q hq => ent_aI hq) rfl rfl rfl hd k
  show ent G.1 (sI M o 3 x) o = _
  unfold sI
  rw [ent_aI_s]
  unfold entK
  rw [hk]
  rfl
theorem gfX2_26 {G : GX} {Q : State → Prop} {kc ks pc nL : Nat} {lv : List (Nat × Value)} {st : List Value} {M : Mem} {b : ByteArray} {ret : Option FieldType} {rm : Room} (h : OKm G b RX2 nL ret rm) {o : Nat} (hk : kd o = 1) (hd : decode b pc = .ok (.getfield 26, 3)) (k : GG G Q kc ks (pc + 3) lv (rv G.1 56 :: st) M) : GG G Q kc ks pc lv (rv G.1 o :: st) M :=
  g_get h inW2 rfl 4 (by decide) flX2_26 (kd_lt (by rw [hk]; decide)) (ent_1 hk) rfl hd k
theorem gfX2_30 {G : GX} {Q : State → Prop} {kc ks pc nL : Nat} {lv : List (Nat × Value)} {st : List Value} {M : Mem} {b : ByteArray} {ret : Option FieldType} {rm : Room} (h : OKm G b RX2 nL ret rm) {o : Nat} (hk : kd o = 1) (hd : decode b pc = .ok (.getfield 30, 3)) (k : GG G Q kc ks (pc + 3) lv (rv G.1 57 :: st) M) : GG G Q kc ks pc lv (rv G.1 o :: st) M :=
  g_get h inW2 rfl 5 (by decide) flX2_30 (kd_lt (by rw [hk]; decide)) (ent_1 hk) rfl hd k
theorem gfX2_34 {G : GX} {Q : State → Prop} {kc ks pc nL : Nat} {lv : List (Nat × Value)} {st : List Value} {M : Mem} {b : ByteArray} {ret : Option FieldType} {rm : Room} (h : OKm G b RX2 nL ret rm) {o : Nat} (hk : kd o = 1) (hd : decode b pc = .ok (.getfield 34, 3)) (k : GG G Q kc ks (pc + 3) lv (rv G.1 58 :: st) M) : GG G Q kc ks pc lv (rv G.1 o :: st) M :=
  g_get h inW2 rfl 6 (by decide) flX2_34 (kd_lt (by rw [hk]; decide)) (ent_1 hk) rfl hd k
theorem gfX2_37 {G : GX} {Q : State → Prop} {kc ks pc nL : Nat} {lv : List (Nat × Value)} {st : List Value} {M : Mem} {b : ByteArray} {ret : Option FieldType} {rm : Room} (h : OKm G b RX2 nL ret rm) {o : Nat} (hk : kd o = 1) (hd : decode b pc = .ok (.getfield 37, 3)) (k : GG G Q kc ks (pc + 3) lv (rv G.1 59 :: st) M) : GG G Q kc ks pc lv (rv G.1 o :: st) M :=
  g_get h inW2 rfl 7 (by decide) flX2_37 (kd_lt (by rw [hk]; decide)) (ent_1 hk) rfl hd k
theorem gfX2_40 {G : GX} {Q : State → Prop} {kc ks pc nL : Nat} {lv : List (Nat × Value)} {st : List Value} {M : Mem} {b : ByteArray} {ret : Option FieldType} {rm : Room} (h : OKm G b RX2 nL ret rm) {o : Nat} (hk : kd o = 1) (hd : decode b pc = .ok (.getfield 40, 3)) (k : GG G Q kc ks (pc + 3) lv (rv G.1 60 :: st) M) : GG G Q kc ks pc lv (rv G.1 o :: st) M :=
  g_get h inW2 rfl 8 (by decide) flX2_40 (kd_lt (by rw [hk]; decide)) (ent_1 hk) rfl hd k
theorem gfX2_43 {G : GX} {Q : State → Prop} {kc ks pc nL : Nat} {lv : List (Nat × Value)} {st : List Value} {M : Mem} {b : ByteArray} {ret : Option FieldType} {rm : Room} (h : OKm G b RX2 nL ret rm) {o : Nat} (hk : kd o = 1) (hd : decode b pc = .ok (.getfield 43, 3)) (k : GG G Q kc ks (pc + 3) lv (rv G.1 28 :: st) M) : GG G Q kc ks pc lv (rv G.1 o :: st) M :=
  g_get h inW2 rfl 0 (by decide) flX2_43 (kd_lt (by rw [hk]; decide)) (ent_1 hk) rfl hd k
theorem gfX2_55 {G : GX} {Q : State → Prop} {kc ks pc nL : Nat} {lv : List (Nat × Value)} {st : List Value} {M : Mem} {b : ByteArray} {ret : Option FieldType} {rm : Room} (h : OKm G b RX2 nL ret rm) {o : Nat} (hk : kd o = 6) (hd : decode b pc = .ok (.getfield 55, 3)) (k : GG G Q kc ks (pc + 3) lv (rv G.1 (gR M o 0) :: st) M) : GG G Q kc ks pc lv (rv G.1 o :: st) M :=
  g_get h inW7 rfl 0 (by decide) flX2_55 (kd_lt (by rw [hk]; decide)) (ent_6 hk) rfl hd k
theorem pfX2_55 {G : GX} {Q : State → Prop} {kc ks pc nL : Nat} {lv : List (Nat × Value)} {st : List Value} {M : Mem} {b : ByteArray} {ret : Option FieldType} {rm : Room} (h : OKm G b RX2 nL ret rm) {o : Nat} {x : Nat} (hk : kd o = 6) (hd : decode b pc = .ok (.putfield 55, 3)) (k : GG G Q kc ks (pc + 3) lv st (sR M o 0 x)) : GG G Q kc ks pc lv (rv G.1 x :: rv G.1 o :: st) M := by
  refine g_put h inW7 rfl 0 (by decide) flX2_55 tyX7_ok nmX7 rfl (kd_lt (by rw [hk]; decide)) (ent_6 hk) (Nat.le_of_ble_eq_true rfl) ?_ (fun q hq => ent_aR hq) rfl rfl rfl hd k
  show ent G.1 (sR M o 0 x) o = _
  unfold sR
  rw [ent_aR_s]
  unfold entK
  rw [hk]
  rfl
theorem gfX2_61 {G : GX} {Q : State → Prop} {kc ks pc nL : Nat} {lv : List (Nat × Value)} {st : List Value} {M : Mem} {b : ByteArray} {ret : Option FieldType} {rm : Room} (h : OKm G b RX2 nL ret rm) {o : Nat} (hk : kd o = 2) (hd : decode b pc = .ok (.getfield 61, 3)) (k : GG G Q kc ks (pc + 3) lv (.int (gI M o 3) :: st) M) : GG G Q kc ks pc lv (rv G.1 o :: st) M :=
  g_get h inW3 rfl 3 (by decide) flX2_61 (kd_lt (by rw [hk]; decide)) (ent_2 hk) rfl hd k
theorem pfX2_61 {G : GX} {Q : State → Prop} {kc ks pc nL : Nat} {lv : List (Nat × Value)} {st : List Value} {M : Mem} {b : ByteArray} {ret : Option FieldType} {rm : Room} (h : OKm G b RX2 nL ret rm) {o : Nat} {x : Int32} (hk : kd o = 2) (hd : decode b pc = .ok (.putfield 61, 3)) (k : GG G Q kc ks (pc + 3) lv st (sI M o 3 x)) : GG G Q kc ks pc lv (.int x :: rv G.1 o :: st) M := by
  refine g_put h inW3 rfl 3 (by decide) flX2_61 tyX3_ok nmX3 rfl (kd_lt (by rw [hk]; decide)) (ent_2 hk) (Nat.le_of_ble_eq_true rfl) ?_ (fun q hq => ent_aI hq) rfl rfl rfl hd k
  show ent G.1 (sI M o 3 x) o = _
  unfold sI
  rw [ent_aI_s]
  unfold entK
  rw [hk]
  rfl
theorem gfX2_72 {G : GX} {Q : State → Prop} {kc ks pc nL : Nat} {lv : List (Nat × Value)} {st : List Value} {M : Mem} {b : ByteArray} {ret : Option FieldType} {rm : Room} (h : OKm G b RX2 nL ret rm) {o : Nat} (hk : kd o = 4) (hd : decode b pc = .ok (.getfield 72, 3)) (k : GG G Q kc ks (pc + 3) lv (.int (gI M o 0) :: st) M) : GG G Q kc ks pc lv (rv G.1 o :: st) M :=
  g_get h inW5 rfl 0 (by decide) flX2_72 (kd_lt (by rw [hk]; decide)) (ent_4 hk) rfl hd k
theorem pfX2_72 {G : GX} {Q : State → Prop} {kc ks pc nL : Nat} {lv : List (Nat × Value)} {st : List Value} {M : Mem} {b : ByteArray} {ret : Option FieldType} {rm : Room} (h : OKm G b RX2 nL ret rm) {o : Nat} {x : Int32} (hk : kd o = 4) (hd : decode b pc = .ok (.putfield 72, 3)) (k : GG G Q kc ks (pc + 3) lv st (sI M o 0 x)) : GG G Q kc ks pc lv (.int x :: rv G.1 o :: st) M := by
  refine g_put h inW5 rfl 0 (by decide) flX2_72 tyX5_ok nmX5 rfl (kd_lt (by rw [hk]; decide)) (ent_4 hk) (Nat.le_of_ble_eq_true rfl) ?_ (fun q hq => ent_aI hq) rfl rfl rfl hd k
  show ent G.1 (sI M o 0 x) o = _
  unfold sI
  rw [ent_aI_s]
  unfold entK
  rw [hk]
  rfl
theorem gfX2_77 {G : GX} {Q : State → Prop} {kc ks pc nL : Nat} {lv : List (Nat × Value)} {st : List Value} {M : Mem} {b : ByteArray} {ret : Option FieldType} {rm : Room} (h : OKm G b RX2 nL ret rm) {o : Nat} (hk : kd o = 4) (hd : decode b pc = .ok (.getfield 77, 3)) (k : GG G Q kc ks (pc + 3) lv (rv G.1 (o + 1) :: st) M) : GG G Q kc ks pc lv (rv G.1 o :: st) M :=
  g_get h inW5 rfl 1 (by decide) flX2_77 (kd_lt (by rw [hk]; decide)) (ent_4 hk) rfl hd k
theorem gfX2_80 {G : GX} {Q : State → Prop} {kc ks pc nL : Nat} {lv : List (Nat × Value)} {st : List Value} {M : Mem} {b : ByteArray} {ret : Option FieldType} {rm : Room} (h : OKm G b RX2 nL ret rm) {o : Nat} (hk : kd o = 2) (hd : decode b pc = .ok (.getfield 80, 3)) (k : GG G Q kc ks (pc + 3) lv (.int (gI M o 0) :: st) M) : GG G Q kc ks pc lv (rv G.1 o :: st) M :=
  g_get h inW3 rfl 0 (by decide) flX2_80 (kd_lt (by rw [hk]; decide)) (ent_2 hk) rfl hd k
theorem pfX2_80 {G : GX} {Q : State → Prop} {kc ks pc nL : Nat} {lv : List (Nat × Value)} {st : List Value} {M : Mem} {b : ByteArray} {ret : Option FieldType} {rm : Room} (h : OKm G b RX2 nL ret rm) {o : Nat} {x : Int32} (hk : kd o = 2) (hd : decode b pc = .ok (.putfield 80, 3)) (k : GG G Q kc ks (pc + 3) lv st (sI M o 0 x)) : GG G Q kc ks pc lv (.int x :: rv G.1 o :: st) M := by
  refine g_put h inW3 rfl 0 (by decide) flX2_80 tyX3_ok nmX3 rfl (kd_lt (by rw [hk]; decide)) (ent_2 hk) (Nat.le_of_ble_eq_true rfl) ?_ (fun q hq => ent_aI hq) rfl rfl rfl hd k
  show ent G.1 (sI M o 0 x) o = _
  unfold sI
  rw [ent_aI_s]
  unfold entK
  rw [hk]
  rfl
theorem gfX2_83 {G : GX} {Q : State → Prop} {kc ks pc nL : Nat} {lv : List (Nat × Value)} {st : List Value} {M : Mem} {b : ByteArray} {ret : Option FieldType} {rm : Room} (h : OKm G b RX2 nL ret rm) {o : Nat} (hk : kd o = 4) (hd : decode b pc = .ok (.getfield 83, 3)) (k : GG G Q kc ks (pc + 3) lv (rv G.1 (o + 4) :: st) M) : GG G Q kc ks pc lv (rv G.1 o :: st) M :=
  g_get h inW5 rfl 4 (by decide) flX2_83 (kd_lt (by rw [hk]; decide)) (ent_4 hk) rfl hd k
theorem gfX2_90 {G : GX} {Q : State → Prop} {kc ks pc nL : Nat} {lv : List (Nat × Value)} {st : List Value} {M : Mem} {b : ByteArray} {ret : Option FieldType} {rm : Room} (h : OKm G b RX2 nL ret rm) {o : Nat} (hk : kd o = 2) (hd : decode b pc = .ok (.getfield 90, 3)) (k : GG G Q kc ks (pc + 3) lv (.int (gI M o 4) :: st) M) : GG G Q kc ks pc lv (rv G.1 o :: st) M :=
  g_get h inW3 rfl 4 (by decide) flX2_90 (kd_lt (by rw [hk]; decide)) (ent_2 hk) rfl hd k
theorem pfX2_90 {G : GX} {Q : State → Prop} {kc ks pc nL : Nat} {lv : List (Nat × Value)} {st : List Value} {M : Mem} {b : ByteArray} {ret : Option FieldType} {rm : Room} (h : OKm G b RX2 nL ret rm) {o : Nat} {x : Int32} (hk : kd o = 2) (hd : decode b pc = .ok (.putfield 90, 3)) (k : GG G Q kc ks (pc + 3) lv st (sI M o 4 x)) : GG G Q kc ks pc lv (.int x :: rv G.1 o :: st) M := by
  refine g_put h inW3 rfl 4 (by decide) flX2_90 tyX3_ok nmX3 rfl (kd_lt (by rw [hk]; decide)) (ent_2 hk) (Nat.le_of_ble_eq_true rfl) ?_ (fun q hq => ent_aI hq) rfl rfl rfl hd k
  show ent G.1 (sI M o 4 x) o = _
  unfold sI
  rw [ent_aI_s]
  unfold entK
  rw [hk]
  rfl
theorem gfX3_9 {G : GX} {Q : State → Prop} {kc ks pc nL : Nat} {lv : List (Nat × Value)} {st : List Value} {M : Mem} {b : ByteArray} {ret : Option FieldType} {rm : Room} (h : OKm G b RX3 nL ret rm) {o : Nat} (hk : kd o = 2) (hd : decode b pc = .ok (.getfield 9, 3)) (k : GG G Q kc ks (pc + 3) lv (rv G.1 (o + 1) :: st) M) : GG G Q kc ks pc lv (rv G.1 o :: st) M :=
  g_get h inW3 rfl 9 (by decide) flX3_9 (kd_lt (by rw [hk]; decide)) (ent_2 hk) rfl hd k
theorem gfX3_15 {G : GX} {Q : State → Prop} {kc ks pc nL : Nat} {lv : List (Nat × Value)} {st : List Value} {M : Mem} {b : ByteArray} {ret : Option FieldType} {rm : Room} (h : OKm G b RX3 nL ret rm) {o : Nat} (hk : kd o = 2) (hd : decode b pc = .ok (.getfield 15, 3)) (k : GG G Q kc ks (pc + 3) lv (rv G.1 (o + 2) :: st) M) : GG G Q kc ks pc lv (rv G.1 o :: st) M :=
  g_get h inW3 rfl 10 (by decide) flX3_15 (kd_lt (by rw [hk]; decide)) (ent_2 hk) rfl hd k
theorem gfX3_18 {G : GX} {Q : State → Prop} {kc ks pc nL : Nat} {lv : List (Nat × Value)} {st : List Value} {M : Mem} {b : ByteArray} {ret : Option FieldType} {rm : Room} (h : OKm G b RX3 nL ret rm) {o : Nat} (hk : kd o = 2) (hd : decode b pc = .ok (.getfield 18, 3)) (k : GG G Q kc ks (pc + 3) lv (rv G.1 (o + 3) :: st) M) : GG G Q kc ks pc lv (rv G.1 o :: st) M :=
  g_get h inW3 rfl 11 (by decide) flX3_18 (kd_lt (by rw [hk]; decide)) (ent_2 hk) rfl hd k
theorem gfX3_21 {G : GX} {Q : State → Prop} {kc ks pc nL : Nat} {lv : List (Nat × Value)} {st : List Value} {M : Mem} {b : ByteArray} {ret : Option FieldType} {rm : Room} (h : OKm G b RX3 nL ret rm) {o : Nat} (hk : kd o = 2) (hd : decode b pc = .ok (.getfield 21, 3)) (k : GG G Q kc ks (pc + 3) lv (rv G.1 (o + 4) :: st) M) : GG G Q kc ks pc lv (rv G.1 o :: st) M :=
  g_get h inW3 rfl 12 (by decide) flX3_21 (kd_lt (by rw [hk]; decide)) (ent_2 hk) rfl hd k
theorem gfX3_27 {G : GX} {Q : State → Prop} {kc ks pc nL : Nat} {lv : List (Nat × Value)} {st : List Value} {M : Mem} {b : ByteArray} {ret : Option FieldType} {rm : Room} (h : OKm G b RX3 nL ret rm) {o : Nat} (hk : kd o = 2) (hd : decode b pc = .ok (.getfield 27, 3)) (k : GG G Q kc ks (pc + 3) lv (.int (gI M o 0) :: st) M) : GG G Q kc ks pc lv (rv G.1 o :: st) M :=
  g_get h inW3 rfl 0 (by decide) flX3_27 (kd_lt (by rw [hk]; decide)) (ent_2 hk) rfl hd k
theorem pfX3_27 {G : GX} {Q : State → Prop} {kc ks pc nL : Nat} {lv : List (Nat × Value)} {st : List Value} {M : Mem} {b : ByteArray} {ret : Option FieldType} {rm : Room} (h : OKm G b RX3 nL ret rm) {o : Nat} {x : Int32} (hk : kd o = 2) (hd : decode b pc = .ok (.putfield 27, 3)) (k : GG G Q kc ks (pc + 3) lv st (sI M o 0 x)) : GG G Q kc ks pc lv (.int x :: rv G.1 o :: st) M := by
  refine g_put h inW3 rfl 0 (by decide) flX3_27 tyX3_ok nmX3 rfl (kd_lt (by rw [hk]; decide)) (ent_2 hk) (Nat.le_of_ble_eq_true rfl) ?_ (fun q hq => ent_aI hq) rfl rfl rfl hd k
  show ent G.1 (sI M o 0 x) o = _
  unfold sI
  rw [ent_aI_s]
  unfold entK
  rw [hk]
  rfl
theorem gfX3_31 {G : GX} {Q : State → Prop} {kc ks pc nL : Nat} {lv : List (Nat × Value)} {st : List Value} {M : Mem} {b : ByteArray} {ret : Option FieldType} {rm : Room} (h : OKm G b RX3 nL ret rm) {o : Nat} (hk : kd o = 2) (hd : decode b pc = .ok (.getfield 31, 3)) (k : GG G Q kc ks (pc + 3) lv (.int (gI M o 1) :: st) M) : GG G Q kc ks pc lv (rv G.1 o :: st) M :=
  g_get h inW3 rfl 1 (by decide) flX3_31 (kd_lt (by rw [hk]; decide)) (ent_2 hk) rfl hd k
theorem pfX3_31 {G : GX} {Q : State → Prop} {kc ks pc nL : Nat} {lv : List (Nat × Value)} {st : List Value} {M : Mem} {b : ByteArray} {ret : Option FieldType} {rm : Room} (h : OKm G b RX3 nL ret rm) {o : Nat} {x : Int32} (hk : kd o = 2) (hd : decode b pc = .ok (.putfield 31, 3)) (k : GG G Q kc ks (pc + 3) lv st (sI M o 1 x)) : GG G Q kc ks pc lv (.int x :: rv G.1 o :: st) M := by
  refine g_put h inW3 rfl 1 (by decide) flX3_31 tyX3_ok nmX3 rfl (kd_lt (by rw [hk]; decide)) (ent_2 hk) (Nat.le_of_ble_eq_true rfl) ?_ (fun q hq => ent_aI hq) rfl rfl rfl hd k
  show ent G.1 (sI M o 1 x) o = _
  unfold sI
  rw [ent_aI_s]
  unfold entK
  rw [hk]
  rfl
theorem gfX3_34 {G : GX} {Q : State → Prop} {kc ks pc nL : Nat} {lv : List (Nat × Value)} {st : List Value} {M : Mem} {b : ByteArray} {ret : Option FieldType} {rm : Room} (h : OKm G b RX3 nL ret rm) {o : Nat} (hk : kd o = 2) (hd : decode b pc = .ok (.getfield 34, 3)) (k : GG G Q kc ks (pc + 3) lv (.int (gI M o 2) :: st) M) : GG G Q kc ks pc lv (rv G.1 o :: st) M :=
  g_get h inW3 rfl 2 (by decide) flX3_34 (kd_lt (by rw [hk]; decide)) (ent_2 hk) rfl hd k
theorem pfX3_34 {G : GX} {Q : State → Prop} {kc ks pc nL : Nat} {lv : List (Nat × Value)} {st : List Value} {M : Mem} {b : ByteArray} {ret : Option FieldType} {rm : Room} (h : OKm G b RX3 nL ret rm) {o : Nat} {x : Int32} (hk : kd o = 2) (hd : decode b pc = .ok (.putfield 34, 3)) (k : GG G Q kc ks (pc + 3) lv st (sI M o 2 x)) : GG G Q kc ks pc lv (.int x :: rv G.1 o :: st) M := by
  refine g_put h inW3 rfl 2 (by decide) flX3_34 tyX3_ok nmX3 rfl (kd_lt (by rw [hk]; decide)) (ent_2 hk) (Nat.le_of_ble_eq_true rfl) ?_ (fun q hq => ent_aI hq) rfl rfl rfl hd k
  show ent G.1 (sI M o 2 x) o = _
  unfold sI
  rw [ent_aI_s]
  unfold entK
  rw [hk]
  rfl
theorem gfX3_37 {G : GX} {Q : State → Prop} {kc ks pc nL : Nat} {lv : List (Nat × Value)} {st : List Value} {M : Mem} {b : ByteArray} {ret : Option FieldType} {rm : Room} (h : OKm G b RX3 nL ret rm) {o : Nat} (hk : kd o = 2) (hd : decode b pc = .ok (.getfield 37, 3)) (k : GG G Q kc ks (pc + 3) lv (.int (gI M o 3) :: st) M) : GG G Q kc ks pc lv (rv G.1 o :: st) M :=
  g_get h inW3 rfl 3 (by decide) flX3_37 (kd_lt (by rw [hk]; decide)) (ent_2 hk) rfl hd k
theorem pfX3_37 {G : GX} {Q : State → Prop} {kc ks pc nL : Nat} {lv : List (Nat × Value)} {st : List Value} {M : Mem} {b : ByteArray} {ret : Option FieldType} {rm : Room} (h : OKm G b RX3 nL ret rm) {o : Nat} {x : Int32} (hk : kd o = 2) (hd : decode b pc = .ok (.putfield 37, 3)) (k : GG G Q kc ks (pc + 3) lv st (sI M o 3 x)) : GG G Q kc ks pc lv (.int x :: rv G.1 o :: st) M := by
  refine g_put h inW3 rfl 3 (by decide) flX3_37 tyX3_ok nmX3 rfl (kd_lt (by rw [hk]; decide)) (ent_2 hk) (Nat.le_of_ble_eq_true rfl) ?_ (fun q hq => ent_aI hq) rfl rfl rfl hd k
  show ent G.1 (sI M o 3 x) o = _
  unfold sI
  rw [ent_aI_s]
  unfold entK
  rw [hk]
  rfl
theorem gfX3_40 {G : GX} {Q : State → Prop} {kc ks pc nL : Nat} {lv : List (Nat × Value)} {st : List Value} {M : Mem} {b : ByteArray} {ret : Option FieldType} {rm : Room} (h : OKm G b RX3 nL ret rm) {o : Nat} (hk : kd o = 2) (hd : decode b pc = .ok (.getfield 40, 3)) (k : GG G Q kc ks (pc + 3) lv (.int (gI M o 4) :: st) M) : GG G Q kc ks pc lv (rv G.1 o :: st) M :=
  g_get h inW3 rfl 4 (by decide) flX3_40 (kd_lt (by rw [hk]; decide)) (ent_2 hk) rfl hd k
theorem pfX3_40 {G : GX} {Q : State → Prop} {kc ks pc nL : Nat} {lv : List (Nat × Value)} {st : List Value} {M : Mem} {b : ByteArray} {ret : Option FieldType} {rm : Room} (h : OKm G b RX3 nL ret rm) {o : Nat} {x : Int32} (hk : kd o = 2) (hd : decode b pc = .ok (.putfield 40, 3)) (k : GG G Q kc ks (pc + 3) lv st (sI M o 4 x)) : GG G Q kc ks pc lv (.int x :: rv G.1 o :: st) M := by
  refine g_put h inW3 rfl 4 (by decide) flX3_40 tyX3_ok nmX3 rfl (kd_lt (by rw [hk]; decide)) (ent_2 hk) (Nat.le_of_ble_eq_true rfl) ?_ (fun q hq => ent_aI hq) rfl rfl rfl hd k
  show ent G.1 (sI M o 4 x) o = _
  unfold sI
  rw [ent_aI_s]
  unfold entK
  rw [hk]
  rfl
theorem gfX3_43 {G : GX} {Q : State → Prop} {kc ks pc nL : Nat} {lv : List (Nat × Value)} {st : List Value} {M : Mem} {b : ByteArray} {ret : Option FieldType} {rm : Room} (h : OKm G b RX3 nL ret rm) {o : Nat} (hk : kd o = 2) (hd : decode b pc = .ok (.getfield 43, 3)) (k : GG G Q kc ks (pc + 3) lv (.int (gI M o 5) :: st) M) : GG G Q kc ks pc lv (rv G.1 o :: st) M :=
  g_get h inW3 rfl 5 (by decide) flX3_43 (kd_lt (by rw [hk]; decide)) (ent_2 hk) rfl hd k
theorem pfX3_43 {G : GX} {Q : State → Prop} {kc ks pc nL : Nat} {lv : List (Nat × Value)} {st : List Value} {M : Mem} {b : ByteArray} {ret : Option FieldType} {rm : Room} (h : OKm G b RX3 nL ret rm) {o : Nat} {x : Int32} (hk : kd o = 2) (hd : decode b pc = .ok (.putfield 43, 3)) (k : GG G Q kc ks (pc + 3) lv st (sI M o 5 x)) : GG G Q kc ks pc lv (.int x :: rv G.1 o :: st) M := by
  refine g_put h inW3 rfl 5 (by decide) flX3_43 tyX3_ok nmX3 rfl (kd_lt (by rw [hk]; decide)) (ent_2 hk) (Nat.le_of_ble_eq_true rfl) ?_ (fun q hq => ent_aI hq) rfl rfl rfl hd k
  show ent G.1 (sI M o 5 x) o = _
  unfold sI
  rw [ent_aI_s]
  unfold entK
  rw [hk]
  rfl
theorem gfX3_46 {G : GX} {Q : State → Prop} {kc ks pc nL : Nat} {lv : List (Nat × Value)} {st : List Value} {M : Mem} {b : ByteArray} {ret : Option FieldType} {rm : Room} (h : OKm G b RX3 nL ret rm) {o : Nat} (hk : kd o = 2) (hd : decode b pc = .ok (.getfield 46, 3)) (k : GG G Q kc ks (pc + 3) lv (.int (gI M o 6) :: st) M) : GG G Q kc ks pc lv (rv G.1 o :: st) M :=
  g_get h inW3 rfl 6 (by decide) flX3_46 (kd_lt (by rw [hk]; decide)) (ent_2 hk) rfl hd k
theorem pfX3_46 {G : GX} {Q : State → Prop} {kc ks pc nL : Nat} {lv : List (Nat × Value)} {st : List Value} {M : Mem} {b : ByteArray} {ret : Option FieldType} {rm : Room} (h : OKm G b RX3 nL ret rm) {o : Nat} {x : Int32} (hk : kd o = 2) (hd : decode b pc = .ok (.putfield 46, 3)) (k : GG G Q kc ks (pc + 3) lv st (sI M o 6 x)) : GG G Q kc ks pc lv (.int x :: rv G.1 o :: st) M := by
  refine g_put h inW3 rfl 6 (by decide) flX3_46 tyX3_ok nmX3 rfl (kd_lt (by rw [hk]; decide)) (ent_2 hk) (Nat.le_of_ble_eq_true rfl) ?_ (fun q hq => ent_aI hq) rfl rfl rfl hd k
  show ent G.1 (sI M o 6 x) o = _
  unfold sI
  rw [ent_aI_s]
  unfold entK
  rw [hk]
  rfl
theorem gfX3_49 {G : GX} {Q : State → Prop} {kc ks pc nL : Nat} {lv : List (Nat × Value)} {st : List Value} {M : Mem} {b : ByteArray} {ret : Option FieldType} {rm : Room} (h : OKm G b RX3 nL ret rm) {o : Nat} (hk : kd o = 2) (hd : decode b pc = .ok (.getfield 49, 3)) (k : GG G Q kc ks (pc + 3) lv (.int (gI M o 7) :: st) M) : GG G Q kc ks pc lv (rv G.1 o :: st) M :=
  g_get h inW3 rfl 7 (by decide) flX3_49 (kd_lt (by rw [hk]; decide)) (ent_2 hk) rfl hd k
theorem pfX3_49 {G : GX} {Q : State → Prop} {kc ks pc nL : Nat} {lv : List (Nat × Value)} {st : List Value} {M : Mem} {b : ByteArray} {ret : Option FieldType} {rm : Room} (h : OKm G b RX3 nL ret rm) {o : Nat} {x : Int32} (hk : kd o = 2) (hd : decode b pc = .ok (.putfield 49, 3)) (k : GG G Q kc ks (pc + 3) lv st (sI M o 7 x)) : GG G Q kc ks pc lv (.int x :: rv G.1 o :: st) M := by
  refine g_put h inW3 rfl 7 (by decide) flX3_49 tyX3_ok nmX3 rfl (kd_lt (by rw [hk]; decide)) (ent_2 hk) (Nat.le_of_ble_eq_true rfl) ?_ (fun q hq => ent_aI hq) rfl rfl rfl hd k
  show ent G.1 (sI M o 7 x) o = _
  unfold sI
  rw [ent_aI_s]
  unfold entK
  rw [hk]
  rfl
theorem gfX3_52 {G : GX} {Q : State → Prop} {kc ks pc nL : Nat} {lv : List (Nat × Value)} {st : List Value} {M : Mem} {b : ByteArray} {ret : Option FieldType} {rm : Room} (h : OKm G b RX3 nL ret rm) {o : Nat} (hk : kd o = 2) (hd : decode b pc = .ok (.getfield 52, 3)) (k : GG G Q kc ks (pc + 3) lv (.int (gI M o 8) :: st) M) : GG G Q kc ks pc lv (rv G.1 o :: st) M :=
  g_get h inW3 rfl 8 (by decide) flX3_52 (kd_lt (by rw [hk]; decide)) (ent_2 hk) rfl hd k
theorem pfX3_52 {G : GX} {Q : State → Prop} {kc ks pc nL : Nat} {lv : List (Nat × Value)} {st : List Value} {M : Mem} {b : ByteArray} {ret : Option FieldType} {rm : Room} (h : OKm G b RX3 nL ret rm) {o : Nat} {x : Int32} (hk : kd o = 2) (hd : decode b pc = .ok (.putfield 52, 3)) (k : GG G Q kc ks (pc + 3) lv st (sI M o 8 x)) : GG G Q kc ks pc lv (.int x :: rv G.1 o :: st) M := by
  refine g_put h inW3 rfl 8 (by decide) flX3_52 tyX3_ok nmX3 rfl (kd_lt (by rw [hk]; decide)) (ent_2 hk) (Nat.le_of_ble_eq_true rfl) ?_ (fun q hq => ent_aI hq) rfl rfl rfl hd k
  show ent G.1 (sI M o 8 x) o = _
  unfold sI
  rw [ent_aI_s]
  unfold entK
  rw [hk]
  rfl
theorem gfX4_9 {G : GX} {Q : State → Prop} {kc ks pc nL : Nat} {lv : List (Nat × Value)} {st : List Value} {M : Mem} {b : ByteArray} {ret : Option FieldType} {rm : Room} (h : OKm G b RX4 nL ret rm) {o : Nat} (hk : kd o = 3) (hd : decode b pc = .ok (.getfield 9, 3)) (k : GG G Q kc ks (pc + 3) lv (.int (gI M o 0) :: st) M) : GG G Q kc ks pc lv (rv G.1 o :: st) M :=
  g_get h inW4 rfl 0 (by decide) flX4_9 (kd_lt (by rw [hk]; decide)) (ent_3 hk) rfl hd k
theorem pfX4_9 {G : GX} {Q : State → Prop} {kc ks pc nL : Nat} {lv : List (Nat × Value)} {st : List Value} {M : Mem} {b : ByteArray} {ret : Option FieldType} {rm : Room} (h : OKm G b RX4 nL ret rm) {o : Nat} {x : Int32} (hk : kd o = 3) (hd : decode b pc = .ok (.putfield 9, 3)) (k : GG G Q kc ks (pc + 3) lv st (sI M o 0 x)) : GG G Q kc ks pc lv (.int x :: rv G.1 o :: st) M := by
  refine g_put h inW4 rfl 0 (by decide) flX4_9 tyX4_ok nmX4 rfl (kd_lt (by rw [hk]; decide)) (ent_3 hk) (Nat.le_of_ble_eq_true rfl) ?_ (fun q hq => ent_aI hq) rfl rfl rfl hd k
  show ent G.1 (sI M o 0 x) o = _
  unfold sI
  rw [ent_aI_s]
  unfold entK
  rw [hk]
  rfl
theorem gfX4_15 {G : GX} {Q : State → Prop} {kc ks pc nL : Nat} {lv : List (Nat × Value)} {st : List Value} {M : Mem} {b : ByteArray} {ret : Option FieldType} {rm : Room} (h : OKm G b RX4 nL ret rm) {o : Nat} (hk : kd o = 3) (hd : decode b pc = .ok (.getfield 15, 3)) (k : GG G Q kc ks (pc + 3) lv (rv G.1 (o + 1) :: st) M) : GG G Q kc ks pc lv (rv G.1 o :: st) M :=
  g_get h inW4 rfl 1 (by decide) flX4_15 (kd_lt (by rw [hk]; decide)) (ent_3 hk) rfl hd k
theorem gfX4_19 {G : GX} {Q : State → Prop} {kc ks pc nL : Nat} {lv : List (Nat × Value)} {st : List Value} {M : Mem} {b : ByteArray} {ret : Option FieldType} {rm : Room} (h : OKm G b RX4 nL ret rm) {o : Nat} (hk : kd o = 3) (hd : decode b pc = .ok (.getfield 19, 3)) (k : GG G Q kc ks (pc + 3) lv (rv G.1 (o + 2) :: st) M) : GG G Q kc ks pc lv (rv G.1 o :: st) M :=
  g_get h inW4 rfl 2 (by decide) flX4_19 (kd_lt (by rw [hk]; decide)) (ent_3 hk) rfl hd k
theorem gfX5_9 {G : GX} {Q : State → Prop} {kc ks pc nL : Nat} {lv : List (Nat × Value)} {st : List Value} {M : Mem} {b : ByteArray} {ret : Option FieldType} {rm : Room} (h : OKm G b RX5 nL ret rm) {o : Nat} (hk : kd o = 4) (hd : decode b pc = .ok (.getfield 9, 3)) (k : GG G Q kc ks (pc + 3) lv (.int (gI M o 0) :: st) M) : GG G Q kc ks pc lv (rv G.1 o :: st) M :=
  g_get h inW5 rfl 0 (by decide) flX5_9 (kd_lt (by rw [hk]; decide)) (ent_4 hk) rfl hd k
theorem pfX5_9 {G : GX} {Q : State → Prop} {kc ks pc nL : Nat} {lv : List (Nat × Value)} {st : List Value} {M : Mem} {b : ByteArray} {ret : Option FieldType} {rm : Room} (h : OKm G b RX5 nL ret rm) {o : Nat} {x : Int32} (hk : kd o = 4) (hd : decode b pc = .ok (.putfield 9, 3)) (k : GG G Q kc ks (pc + 3) lv st (sI M o 0 x)) : GG G Q kc ks pc lv (.int x :: rv G.1 o :: st) M := by
  refine g_put h inW5 rfl 0 (by decide) flX5_9 tyX5_ok nmX5 rfl (kd_lt (by rw [hk]; decide)) (ent_4 hk) (Nat.le_of_ble_eq_true rfl) ?_ (fun q hq => ent_aI hq) rfl rfl rfl hd k
  show ent G.1 (sI M o 0 x) o = _
  unfold sI
  rw [ent_aI_s]
  unfold entK
  rw [hk]
  rfl
theorem gfX5_15 {G : GX} {Q : State → Prop} {kc ks pc nL : Nat} {lv : List (Nat × Value)} {st : List Value} {M : Mem} {b : ByteArray} {ret : Option FieldType} {rm : Room} (h : OKm G b RX5 nL ret rm) {o : Nat} (hk : kd o = 4) (hd : decode b pc = .ok (.getfield 15, 3)) (k : GG G Q kc ks (pc + 3) lv (rv G.1 (o + 1) :: st) M) : GG G Q kc ks pc lv (rv G.1 o :: st) M :=
  g_get h inW5 rfl 1 (by decide) flX5_15 (kd_lt (by rw [hk]; decide)) (ent_4 hk) rfl hd k
theorem gfX5_19 {G : GX} {Q : State → Prop} {kc ks pc nL : Nat} {lv : List (Nat × Value)} {st : List Value} {M : Mem} {b : ByteArray} {ret : Option FieldType} {rm : Room} (h : OKm G b RX5 nL ret rm) {o : Nat} (hk : kd o = 4) (hd : decode b pc = .ok (.getfield 19, 3)) (k : GG G Q kc ks (pc + 3) lv (rv G.1 (o + 2) :: st) M) : GG G Q kc ks pc lv (rv G.1 o :: st) M :=
  g_get h inW5 rfl 2 (by decide) flX5_19 (kd_lt (by rw [hk]; decide)) (ent_4 hk) rfl hd k
theorem gfX5_22 {G : GX} {Q : State → Prop} {kc ks pc nL : Nat} {lv : List (Nat × Value)} {st : List Value} {M : Mem} {b : ByteArray} {ret : Option FieldType} {rm : Room} (h : OKm G b RX5 nL ret rm) {o : Nat} (hk : kd o = 4) (hd : decode b pc = .ok (.getfield 22, 3)) (k : GG G Q kc ks (pc + 3) lv (rv G.1 (o + 3) :: st) M) : GG G Q kc ks pc lv (rv G.1 o :: st) M :=
  g_get h inW5 rfl 3 (by decide) flX5_22 (kd_lt (by rw [hk]; decide)) (ent_4 hk) rfl hd k
theorem gfX5_25 {G : GX} {Q : State → Prop} {kc ks pc nL : Nat} {lv : List (Nat × Value)} {st : List Value} {M : Mem} {b : ByteArray} {ret : Option FieldType} {rm : Room} (h : OKm G b RX5 nL ret rm) {o : Nat} (hk : kd o = 4) (hd : decode b pc = .ok (.getfield 25, 3)) (k : GG G Q kc ks (pc + 3) lv (rv G.1 (o + 4) :: st) M) : GG G Q kc ks pc lv (rv G.1 o :: st) M :=
  g_get h inW5 rfl 4 (by decide) flX5_25 (kd_lt (by rw [hk]; decide)) (ent_4 hk) rfl hd k
theorem gfX5_28 {G : GX} {Q : State → Prop} {kc ks pc nL : Nat} {lv : List (Nat × Value)} {st : List Value} {M : Mem} {b : ByteArray} {ret : Option FieldType} {rm : Room} (h : OKm G b RX5 nL ret rm) {o : Nat} (hk : kd o = 4) (hd : decode b pc = .ok (.getfield 28, 3)) (k : GG G Q kc ks (pc + 3) lv (rv G.1 (o + 5) :: st) M) : GG G Q kc ks pc lv (rv G.1 o :: st) M :=
  g_get h inW5 rfl 5 (by decide) flX5_28 (kd_lt (by rw [hk]; decide)) (ent_4 hk) rfl hd k
theorem gfX5_31 {G : GX} {Q : State → Prop} {kc ks pc nL : Nat} {lv : List (Nat × Value)} {st : List Value} {M : Mem} {b : ByteArray} {ret : Option FieldType} {rm : Room} (h : OKm G b RX5 nL ret rm) {o : Nat} (hk : kd o = 4) (hd : decode b pc = .ok (.getfield 31, 3)) (k : GG G Q kc ks (pc + 3) lv (.int (gI M o 6) :: st) M) : GG G Q kc ks pc lv (rv G.1 o :: st) M :=
  g_get h inW5 rfl 6 (by decide) flX5_31 (kd_lt (by rw [hk]; decide)) (ent_4 hk) rfl hd k
theorem pfX5_31 {G : GX} {Q : State → Prop} {kc ks pc nL : Nat} {lv : List (Nat × Value)} {st : List Value} {M : Mem} {b : ByteArray} {ret : Option FieldType} {rm : Room} (h : OKm G b RX5 nL ret rm) {o : Nat} {x : Int32} (hk : kd o = 4) (hd : decode b pc = .ok (.putfield 31, 3)) (k : GG G Q kc ks (pc + 3) lv st (sI M o 6 x)) : GG G Q kc ks pc lv (.int x :: rv G.1 o :: st) M := by
  refine g_put h inW5 rfl 6 (by decide) flX5_31 tyX5_ok nmX5 rfl (kd_lt (by rw [hk]; decide)) (ent_4 hk) (Nat.le_of_ble_eq_true rfl) ?_ (fun q hq => ent_aI hq) rfl rfl rfl hd k
  show ent G.1 (sI M o 6 x) o = _
  unfold sI
  rw [ent_aI_s]
  unfold entK
  rw [hk]
  rfl
theorem gfX5_34 {G : GX} {Q : State → Prop} {kc ks pc nL : Nat} {lv : List (Nat × Value)} {st : List Value} {M : Mem} {b : ByteArray} {ret : Option FieldType} {rm : Room} (h : OKm G b RX5 nL ret rm) {o : Nat} (hk : kd o = 4) (hd : decode b pc = .ok (.getfield 34, 3)) (k : GG G Q kc ks (pc + 3) lv (rv G.1 (o + 6) :: st) M) : GG G Q kc ks pc lv (rv G.1 o :: st) M :=
  g_get h inW5 rfl 7 (by decide) flX5_34 (kd_lt (by rw [hk]; decide)) (ent_4 hk) rfl hd k
theorem gfX5_37 {G : GX} {Q : State → Prop} {kc ks pc nL : Nat} {lv : List (Nat × Value)} {st : List Value} {M : Mem} {b : ByteArray} {ret : Option FieldType} {rm : Room} (h : OKm G b RX5 nL ret rm) {o : Nat} (hk : kd o = 4) (hd : decode b pc = .ok (.getfield 37, 3)) (k : GG G Q kc ks (pc + 3) lv (.int (gI M o 8) :: st) M) : GG G Q kc ks pc lv (rv G.1 o :: st) M :=
  g_get h inW5 rfl 8 (by decide) flX5_37 (kd_lt (by rw [hk]; decide)) (ent_4 hk) rfl hd k
theorem pfX5_37 {G : GX} {Q : State → Prop} {kc ks pc nL : Nat} {lv : List (Nat × Value)} {st : List Value} {M : Mem} {b : ByteArray} {ret : Option FieldType} {rm : Room} (h : OKm G b RX5 nL ret rm) {o : Nat} {x : Int32} (hk : kd o = 4) (hd : decode b pc = .ok (.putfield 37, 3)) (k : GG G Q kc ks (pc + 3) lv st (sI M o 8 x)) : GG G Q kc ks pc lv (.int x :: rv G.1 o :: st) M := by
  refine g_put h inW5 rfl 8 (by decide) flX5_37 tyX5_ok nmX5 rfl (kd_lt (by rw [hk]; decide)) (ent_4 hk) (Nat.le_of_ble_eq_true rfl) ?_ (fun q hq => ent_aI hq) rfl rfl rfl hd k
  show ent G.1 (sI M o 8 x) o = _
  unfold sI
  rw [ent_aI_s]
  unfold entK
  rw [hk]
  rfl
theorem gfX5_40 {G : GX} {Q : State → Prop} {kc ks pc nL : Nat} {lv : List (Nat × Value)} {st : List Value} {M : Mem} {b : ByteArray} {ret : Option FieldType} {rm : Room} (h : OKm G b RX5 nL ret rm) {o : Nat} (hk : kd o = 4) (hd : decode b pc = .ok (.getfield 40, 3)) (k : GG G Q kc ks (pc + 3) lv (rv G.1 (o + 7) :: st) M) : GG G Q kc ks pc lv (rv G.1 o :: st) M :=
  g_get h inW5 rfl 9 (by decide) flX5_40 (kd_lt (by rw [hk]; decide)) (ent_4 hk) rfl hd k
theorem gfX5_46 {G : GX} {Q : State → Prop} {kc ks pc nL : Nat} {lv : List (Nat × Value)} {st : List Value} {M : Mem} {b : ByteArray} {ret : Option FieldType} {rm : Room} (h : OKm G b RX5 nL ret rm) {o : Nat} (hk : kd o = 4) (hd : decode b pc = .ok (.getfield 46, 3)) (k : GG G Q kc ks (pc + 3) lv (rv G.1 (o + 8) :: st) M) : GG G Q kc ks pc lv (rv G.1 o :: st) M :=
  g_get h inW5 rfl 10 (by decide) flX5_46 (kd_lt (by rw [hk]; decide)) (ent_4 hk) rfl hd k
theorem gfX5_50 {G : GX} {Q : State → Prop} {kc ks pc nL : Nat} {lv : List (Nat × Value)} {st : List Value} {M : Mem} {b : ByteArray} {ret : Option FieldType} {rm : Room} (h : OKm G b RX5 nL ret rm) {o : Nat} (hk : kd o = 4) (hd : decode b pc = .ok (.getfield 50, 3)) (k : GG G Q kc ks (pc + 3) lv (rv G.1 (o + 11) :: st) M) : GG G Q kc ks pc lv (rv G.1 o :: st) M :=
  g_get h inW5 rfl 11 (by decide) flX5_50 (kd_lt (by rw [hk]; decide)) (ent_4 hk) rfl hd k
theorem gfX5_58 {G : GX} {Q : State → Prop} {kc ks pc nL : Nat} {lv : List (Nat × Value)} {st : List Value} {M : Mem} {b : ByteArray} {ret : Option FieldType} {rm : Room} (h : OKm G b RX5 nL ret rm) {o : Nat} (hk : kd o = 4) (hd : decode b pc = .ok (.getfield 58, 3)) (k : GG G Q kc ks (pc + 3) lv (rv G.1 (o + 15) :: st) M) : GG G Q kc ks pc lv (rv G.1 o :: st) M :=
  g_get h inW5 rfl 12 (by decide) flX5_58 (kd_lt (by rw [hk]; decide)) (ent_4 hk) rfl hd k
theorem gfX5_62 {G : GX} {Q : State → Prop} {kc ks pc nL : Nat} {lv : List (Nat × Value)} {st : List Value} {M : Mem} {b : ByteArray} {ret : Option FieldType} {rm : Room} (h : OKm G b RX5 nL ret rm) {o : Nat} (hk : kd o = 4) (hd : decode b pc = .ok (.getfield 62, 3)) (k : GG G Q kc ks (pc + 3) lv (rv G.1 (o + 16) :: st) M) : GG G Q kc ks pc lv (rv G.1 o :: st) M :=
  g_get h inW5 rfl 13 (by decide) flX5_62 (kd_lt (by rw [hk]; decide)) (ent_4 hk) rfl hd k
theorem gfX5_65 {G : GX} {Q : State → Prop} {kc ks pc nL : Nat} {lv : List (Nat × Value)} {st : List Value} {M : Mem} {b : ByteArray} {ret : Option FieldType} {rm : Room} (h : OKm G b RX5 nL ret rm) {o : Nat} (hk : kd o = 3) (hd : decode b pc = .ok (.getfield 65, 3)) (k : GG G Q kc ks (pc + 3) lv (.int (gI M o 0) :: st) M) : GG G Q kc ks pc lv (rv G.1 o :: st) M :=
  g_get h inW4 rfl 0 (by decide) flX5_65 (kd_lt (by rw [hk]; decide)) (ent_3 hk) rfl hd k
theorem pfX5_65 {G : GX} {Q : State → Prop} {kc ks pc nL : Nat} {lv : List (Nat × Value)} {st : List Value} {M : Mem} {b : ByteArray} {ret : Option FieldType} {rm : Room} (h : OKm G b RX5 nL ret rm) {o : Nat} {x : Int32} (hk : kd o = 3) (hd : decode b pc = .ok (.putfield 65, 3)) (k : GG G Q kc ks (pc + 3) lv st (sI M o 0 x)) : GG G Q kc ks pc lv (.int x :: rv G.1 o :: st) M := by
  refine g_put h inW4 rfl 0 (by decide) flX5_65 tyX4_ok nmX4 rfl (kd_lt (by rw [hk]; decide)) (ent_3 hk) (Nat.le_of_ble_eq_true rfl) ?_ (fun q hq => ent_aI hq) rfl rfl rfl hd k
  show ent G.1 (sI M o 0 x) o = _
  unfold sI
  rw [ent_aI_s]
  unfold entK
  rw [hk]
  rfl
theorem gfX6_12 {G : GX} {Q : State → Prop} {kc ks pc nL : Nat} {lv : List (Nat × Value)} {st : List Value} {M : Mem} {b : ByteArray} {ret : Option FieldType} {rm : Room} (h : OKm G b RX6 nL ret rm) {o : Nat} (hk : kd o = 5) (hd : decode b pc = .ok (.getfield 12, 3)) (k : GG G Q kc ks (pc + 3) lv (rv G.1 (gR M o 1) :: st) M) : GG G Q kc ks pc lv (rv G.1 o :: st) M :=
  g_get h inW6 rfl 1 (by decide) flX6_12 (kd_lt (by rw [hk]; decide)) (ent_5 hk) rfl hd k
theorem pfX6_12 {G : GX} {Q : State → Prop} {kc ks pc nL : Nat} {lv : List (Nat × Value)} {st : List Value} {M : Mem} {b : ByteArray} {ret : Option FieldType} {rm : Room} (h : OKm G b RX6 nL ret rm) {o : Nat} {x : Nat} (hk : kd o = 5) (hd : decode b pc = .ok (.putfield 12, 3)) (k : GG G Q kc ks (pc + 3) lv st (sR M o 1 x)) : GG G Q kc ks pc lv (rv G.1 x :: rv G.1 o :: st) M := by
  refine g_put h inW6 rfl 1 (by decide) flX6_12 tyX6_ok nmX6 rfl (kd_lt (by rw [hk]; decide)) (ent_5 hk) (Nat.le_of_ble_eq_true rfl) ?_ (fun q hq => ent_aR hq) rfl rfl rfl hd k
  show ent G.1 (sR M o 1 x) o = _
  unfold sR
  rw [ent_aR_s]
  unfold entK
  rw [hk]
  rfl
theorem gfX6_21 {G : GX} {Q : State → Prop} {kc ks pc nL : Nat} {lv : List (Nat × Value)} {st : List Value} {M : Mem} {b : ByteArray} {ret : Option FieldType} {rm : Room} (h : OKm G b RX6 nL ret rm) {o : Nat} (hk : kd o = 5) (hd : decode b pc = .ok (.getfield 21, 3)) (k : GG G Q kc ks (pc + 3) lv (rv G.1 21 :: st) M) : GG G Q kc ks pc lv (rv G.1 o :: st) M :=
  g_get h inW6 rfl 2 (by decide) flX6_21 (kd_lt (by rw [hk]; decide)) (ent_5 hk) rfl hd k
theorem gfX6_25 {G : GX} {Q : State → Prop} {kc ks pc nL : Nat} {lv : List (Nat × Value)} {st : List Value} {M : Mem} {b : ByteArray} {ret : Option FieldType} {rm : Room} (h : OKm G b RX6 nL ret rm) {o : Nat} (hk : kd o = 5) (hd : decode b pc = .ok (.getfield 25, 3)) (k : GG G Q kc ks (pc + 3) lv (.int (gI M o 3) :: st) M) : GG G Q kc ks pc lv (rv G.1 o :: st) M :=
  g_get h inW6 rfl 3 (by decide) flX6_25 (kd_lt (by rw [hk]; decide)) (ent_5 hk) rfl hd k
theorem pfX6_25 {G : GX} {Q : State → Prop} {kc ks pc nL : Nat} {lv : List (Nat × Value)} {st : List Value} {M : Mem} {b : ByteArray} {ret : Option FieldType} {rm : Room} (h : OKm G b RX6 nL ret rm) {o : Nat} {x : Int32} (hk : kd o = 5) (hd : decode b pc = .ok (.putfield 25, 3)) (k : GG G Q kc ks (pc + 3) lv st (sI M o 3 x)) : GG G Q kc ks pc lv (.int x :: rv G.1 o :: st) M := by
  refine g_put h inW6 rfl 3 (by decide) flX6_25 tyX6_ok nmX6 rfl (kd_lt (by rw [hk]; decide)) (ent_5 hk) (Nat.le_of_ble_eq_true rfl) ?_ (fun q hq => ent_aI hq) rfl rfl rfl hd k
  show ent G.1 (sI M o 3 x) o = _
  unfold sI
  rw [ent_aI_s]
  unfold entK
  rw [hk]
  rfl
theorem gfX6_29 {G : GX} {Q : State → Prop} {kc ks pc nL : Nat} {lv : List (Nat × Value)} {st : List Value} {M : Mem} {b : ByteArray} {ret : Option FieldType} {rm : Room} (h : OKm G b RX6 nL ret rm) {o : Nat} (hk : kd o = 5) (hd : decode b pc = .ok (.getfield 29, 3)) (k : GG G Q kc ks (pc + 3) lv (.int (gI M o 4) :: st) M) : GG G Q kc ks pc lv (rv G.1 o :: st) M :=
  g_get h inW6 rfl 4 (by decide) flX6_29 (kd_lt (by rw [hk]; decide)) (ent_5 hk) rfl hd k
theorem pfX6_29 {G : GX} {Q : State → Prop} {kc ks pc nL : Nat} {lv : List (Nat × Value)} {st : List Value} {M : Mem} {b : ByteArray} {ret : Option FieldType} {rm : Room} (h : OKm G b RX6 nL ret rm) {o : Nat} {x : Int32} (hk : kd o = 5) (hd : decode b pc = .ok (.putfield 29, 3)) (k : GG G Q kc ks (pc + 3) lv st (sI M o 4 x)) : GG G Q kc ks pc lv (.int x :: rv G.1 o :: st) M := by
  refine g_put h inW6 rfl 4 (by decide) flX6_29 tyX6_ok nmX6 rfl (kd_lt (by rw [hk]; decide)) (ent_5 hk) (Nat.le_of_ble_eq_true rfl) ?_ (fun q hq => ent_aI hq) rfl rfl rfl hd k
  show ent G.1 (sI M o 4 x) o = _
  unfold sI
  rw [ent_aI_s]
  unfold entK
  rw [hk]
  rfl
theorem gfX6_32 {G : GX} {Q : State → Prop} {kc ks pc nL : Nat} {lv : List (Nat × Value)} {st : List Value} {M : Mem} {b : ByteArray} {ret : Option FieldType} {rm : Room} (h : OKm G b RX6 nL ret rm) {o : Nat} (hk : kd o = 5) (hd : decode b pc = .ok (.getfield 32, 3)) (k : GG G Q kc ks (pc + 3) lv (.int (gI M o 5) :: st) M) : GG G Q kc ks pc lv (rv G.1 o :: st) M :=
  g_get h inW6 rfl 5 (by decide) flX6_32 (kd_lt (by rw [hk]; decide)) (ent_5 hk) rfl hd k
theorem pfX6_32 {G : GX} {Q : State → Prop} {kc ks pc nL : Nat} {lv : List (Nat × Value)} {st : List Value} {M : Mem} {b : ByteArray} {ret : Option FieldType} {rm : Room} (h : OKm G b RX6 nL ret rm) {o : Nat} {x : Int32} (hk : kd o = 5) (hd : decode b pc = .ok (.putfield 32, 3)) (k : GG G Q kc ks (pc + 3) lv st (sI M o 5 x)) : GG G Q kc ks pc lv (.int x :: rv G.1 o :: st) M := by
  refine g_put h inW6 rfl 5 (by decide) flX6_32 tyX6_ok nmX6 rfl (kd_lt (by rw [hk]; decide)) (ent_5 hk) (Nat.le_of_ble_eq_true rfl) ?_ (fun q hq => ent_aI hq) rfl rfl rfl hd k
  show ent G.1 (sI M o 5 x) o = _
  unfold sI
  rw [ent_aI_s]
  unfold entK
  rw [hk]
  rfl
theorem gfX6_35 {G : GX} {Q : State → Prop} {kc ks pc nL : Nat} {lv : List (Nat × Value)} {st : List Value} {M : Mem} {b : ByteArray} {ret : Option FieldType} {rm : Room} (h : OKm G b RX6 nL ret rm) {o : Nat} (hk : kd o = 5) (hd : decode b pc = .ok (.getfield 35, 3)) (k : GG G Q kc ks (pc + 3) lv (rv G.1 26 :: st) M) : GG G Q kc ks pc lv (rv G.1 o :: st) M :=
  g_get h inW6 rfl 6 (by decide) flX6_35 (kd_lt (by rw [hk]; decide)) (ent_5 hk) rfl hd k
theorem gfX6_44 {G : GX} {Q : State → Prop} {kc ks pc nL : Nat} {lv : List (Nat × Value)} {st : List Value} {M : Mem} {b : ByteArray} {ret : Option FieldType} {rm : Room} (h : OKm G b RX6 nL ret rm) {o : Nat} (hk : kd o = 5) (hd : decode b pc = .ok (.getfield 44, 3)) (k : GG G Q kc ks (pc + 3) lv (rv G.1 27 :: st) M) : GG G Q kc ks pc lv (rv G.1 o :: st) M :=
  g_get h inW6 rfl 0 (by decide) flX6_44 (kd_lt (by rw [hk]; decide)) (ent_5 hk) rfl hd k
theorem gfX6_48 {G : GX} {Q : State → Prop} {kc ks pc nL : Nat} {lv : List (Nat × Value)} {st : List Value} {M : Mem} {b : ByteArray} {ret : Option FieldType} {rm : Room} (h : OKm G b RX6 nL ret rm) {o : Nat} (hk : kd o = 4) (hd : decode b pc = .ok (.getfield 48, 3)) (k : GG G Q kc ks (pc + 3) lv (rv G.1 (o + 15) :: st) M) : GG G Q kc ks pc lv (rv G.1 o :: st) M :=
  g_get h inW5 rfl 12 (by decide) flX6_48 (kd_lt (by rw [hk]; decide)) (ent_4 hk) rfl hd k
theorem gfX6_52 {G : GX} {Q : State → Prop} {kc ks pc nL : Nat} {lv : List (Nat × Value)} {st : List Value} {M : Mem} {b : ByteArray} {ret : Option FieldType} {rm : Room} (h : OKm G b RX6 nL ret rm) {o : Nat} (hk : kd o = 5) (hd : decode b pc = .ok (.getfield 52, 3)) (k : GG G Q kc ks (pc + 3) lv (rv G.1 (gR M o 7) :: st) M) : GG G Q kc ks pc lv (rv G.1 o :: st) M :=
  g_get h inW6 rfl 7 (by decide) flX6_52 (kd_lt (by rw [hk]; decide)) (ent_5 hk) rfl hd k
theorem pfX6_52 {G : GX} {Q : State → Prop} {kc ks pc nL : Nat} {lv : List (Nat × Value)} {st : List Value} {M : Mem} {b : ByteArray} {ret : Option FieldType} {rm : Room} (h : OKm G b RX6 nL ret rm) {o : Nat} {x : Nat} (hk : kd o = 5) (hd : decode b pc = .ok (.putfield 52, 3)) (k : GG G Q kc ks (pc + 3) lv st (sR M o 7 x)) : GG G Q kc ks pc lv (rv G.1 x :: rv G.1 o :: st) M := by
  refine g_put h inW6 rfl 7 (by decide) flX6_52 tyX6_ok nmX6 rfl (kd_lt (by rw [hk]; decide)) (ent_5 hk) (Nat.le_of_ble_eq_true rfl) ?_ (fun q hq => ent_aR hq) rfl rfl rfl hd k
  show ent G.1 (sR M o 7 x) o = _
  unfold sR
  rw [ent_aR_s]
  unfold entK
  rw [hk]
  rfl
theorem gfX6_65 {G : GX} {Q : State → Prop} {kc ks pc nL : Nat} {lv : List (Nat × Value)} {st : List Value} {M : Mem} {b : ByteArray} {ret : Option FieldType} {rm : Room} (h : OKm G b RX6 nL ret rm) {o : Nat} (hk : kd o = 9) (hd : decode b pc = .ok (.getfield 65, 3)) (k : GG G Q kc ks (pc + 3) lv (.int (gI M o 4) :: st) M) : GG G Q kc ks pc lv (rv G.1 o :: st) M :=
  g_get h inW10 rfl 4 (by decide) flX6_65 (kd_lt (by rw [hk]; decide)) (ent_9 hk) rfl hd k
theorem pfX6_65 {G : GX} {Q : State → Prop} {kc ks pc nL : Nat} {lv : List (Nat × Value)} {st : List Value} {M : Mem} {b : ByteArray} {ret : Option FieldType} {rm : Room} (h : OKm G b RX6 nL ret rm) {o : Nat} {x : Int32} (hk : kd o = 9) (hd : decode b pc = .ok (.putfield 65, 3)) (k : GG G Q kc ks (pc + 3) lv st (sI M o 4 x)) : GG G Q kc ks pc lv (.int x :: rv G.1 o :: st) M := by
  refine g_put h inW10 rfl 4 (by decide) flX6_65 tyX10_ok nmX10 rfl (kd_lt (by rw [hk]; decide)) (ent_9 hk) (Nat.le_of_ble_eq_true rfl) ?_ (fun q hq => ent_aI hq) rfl rfl rfl hd k
  show ent G.1 (sI M o 4 x) o = _
  unfold sI
  rw [ent_aI_s]
  unfold entK
  rw [hk]
  rfl
theorem gfX6_72 {G : GX} {Q : State → Prop} {kc ks pc nL : Nat} {lv : List (Nat × Value)} {st : List Value} {M : Mem} {b : ByteArray} {ret : Option FieldType} {rm : Room} (h : OKm G b RX6 nL ret rm) {o : Nat} (hk : kd o = 9) (hd : decode b pc = .ok (.getfield 72, 3)) (k : GG G Q kc ks (pc + 3) lv (.int (gI M o 3) :: st) M) : GG G Q kc ks pc lv (rv G.1 o :: st) M :=
  g_get h inW10 rfl 3 (by decide) flX6_72 (kd_lt (by rw [hk]; decide)) (ent_9 hk) rfl hd k
theorem pfX6_72 {G : GX} {Q : State → Prop} {kc ks pc nL : Nat} {lv : List (Nat × Value)} {st : List Value} {M : Mem} {b : ByteArray} {ret : Option FieldType} {rm : Room} (h : OKm G b RX6 nL ret rm) {o : Nat} {x : Int32} (hk : kd o = 9) (hd : decode b pc = .ok (.putfield 72, 3)) (k : GG G Q kc ks (pc + 3) lv st (sI M o 3 x)) : GG G Q kc ks pc lv (.int x :: rv G.1 o :: st) M := by
  refine g_put h inW10 rfl 3 (by decide) flX6_72 tyX10_ok nmX10 rfl (kd_lt (by rw [hk]; decide)) (ent_9 hk) (Nat.le_of_ble_eq_true rfl) ?_ (fun q hq => ent_aI hq) rfl rfl rfl hd k
  show ent G.1 (sI M o 3 x) o = _
  unfold sI
  rw [ent_aI_s]
  unfold entK
  rw [hk]
  rfl
theorem gfX6_78 {G : GX} {Q : State → Prop} {kc ks pc nL : Nat} {lv : List (Nat × Value)} {st : List Value} {M : Mem} {b : ByteArray} {ret : Option FieldType} {rm : Room} (h : OKm G b RX6 nL ret rm) {o : Nat} (hk : kd o = 9) (hd : decode b pc = .ok (.getfield 78, 3)) (k : GG G Q kc ks (pc + 3) lv (rv G.1 (gR M o 6) :: st) M) : GG G Q kc ks pc lv (rv G.1 o :: st) M :=
  g_get h inW10 rfl 6 (by decide) flX6_78 (kd_lt (by rw [hk]; decide)) (ent_9 hk) rfl hd k
theorem pfX6_78 {G : GX} {Q : State → Prop} {kc ks pc nL : Nat} {lv : List (Nat × Value)} {st : List Value} {M : Mem} {b : ByteArray} {ret : Option FieldType} {rm : Room} (h : OKm G b RX6 nL ret rm) {o : Nat} {x : Nat} (hk : kd o = 9) (hd : decode b pc = .ok (.putfield 78, 3)) (k : GG G Q kc ks (pc + 3) lv st (sR M o 6 x)) : GG G Q kc ks pc lv (rv G.1 x :: rv G.1 o :: st) M := by
  refine g_put h inW10 rfl 6 (by decide) flX6_78 tyX10_ok nmX10 rfl (kd_lt (by rw [hk]; decide)) (ent_9 hk) (Nat.le_of_ble_eq_true rfl) ?_ (fun q hq => ent_aR hq) rfl rfl rfl hd k
  show ent G.1 (sR M o 6 x) o = _
  unfold sR
  rw [ent_aR_s]
  unfold entK
  rw [hk]
  rfl
theorem gfX6_95 {G : GX} {Q : State → Prop} {kc ks pc nL : Nat} {lv : List (Nat × Value)} {st : List Value} {M : Mem} {b : ByteArray} {ret : Option FieldType} {rm : Room} (h : OKm G b RX6 nL ret rm) {o : Nat} (hk : kd o = 4) (hd : decode b pc = .ok (.getfield 95, 3)) (k : GG G Q kc ks (pc + 3) lv (.int (gI M o 0) :: st) M) : GG G Q kc ks pc lv (rv G.1 o :: st) M :=
  g_get h inW5 rfl 0 (by decide) flX6_95 (kd_lt (by rw [hk]; decide)) (ent_4 hk) rfl hd k
theorem pfX6_95 {G : GX} {Q : State → Prop} {kc ks pc nL : Nat} {lv : List (Nat × Value)} {st : List Value} {M : Mem} {b : ByteArray} {ret : Option FieldType} {rm : Room} (h : OKm G b RX6 nL ret rm) {o : Nat} {x : Int32} (hk : kd o = 4) (hd : decode b pc = .ok (.putfield 95, 3)) (k : GG G Q kc ks (pc + 3) lv st (sI M o 0 x)) : GG G Q kc ks pc lv (.int x :: rv G.1 o :: st) M := by
  refine g_put h inW5 rfl 0 (by decide) flX6_95 tyX5_ok nmX5 rfl (kd_lt (by rw [hk]; decide)) (ent_4 hk) (Nat.le_of_ble_eq_true rfl) ?_ (fun q hq => ent_aI hq) rfl rfl rfl hd k
  show ent G.1 (sI M o 0 x) o = _
  unfold sI
  rw [ent_aI_s]
  unfold entK
  rw [hk]
  rfl
theorem gfX6_114 {G : GX} {Q : State → Prop} {kc ks pc nL : Nat} {lv : List (Nat × Value)} {st : List Value} {M : Mem} {b : ByteArray} {ret : Option FieldType} {rm : Room} (h : OKm G b RX6 nL ret rm) {o : Nat} (hk : kd o = 4) (hd : decode b pc = .ok (.getfield 114, 3)) (k : GG G Q kc ks (pc + 3) lv (.int (gI M o 8) :: st) M) : GG G Q kc ks pc lv (rv G.1 o :: st) M :=
  g_get h inW5 rfl 8 (by decide) flX6_114 (kd_lt (by rw [hk]; decide)) (ent_4 hk) rfl hd k
theorem pfX6_114 {G : GX} {Q : State → Prop} {kc ks pc nL : Nat} {lv : List (Nat × Value)} {st : List Value} {M : Mem} {b : ByteArray} {ret : Option FieldType} {rm : Room} (h : OKm G b RX6 nL ret rm) {o : Nat} {x : Int32} (hk : kd o = 4) (hd : decode b pc = .ok (.putfield 114, 3)) (k : GG G Q kc ks (pc + 3) lv st (sI M o 8 x)) : GG G Q kc ks pc lv (.int x :: rv G.1 o :: st) M := by
  refine g_put h inW5 rfl 8 (by decide) flX6_114 tyX5_ok nmX5 rfl (kd_lt (by rw [hk]; decide)) (ent_4 hk) (Nat.le_of_ble_eq_true rfl) ?_ (fun q hq => ent_aI hq) rfl rfl rfl hd k
  show ent G.1 (sI M o 8 x) o = _
  unfold sI
  rw [ent_aI_s]
  unfold entK
  rw [hk]
  rfl
theorem gfX6_120 {G : GX} {Q : State → Prop} {kc ks pc nL : Nat} {lv : List (Nat × Value)} {st : List Value} {M : Mem} {b : ByteArray} {ret : Option FieldType} {rm : Room} (h : OKm G b RX6 nL ret rm) {o : Nat} (hk : kd o = 4) (hd : decode b pc = .ok (.getfield 120, 3)) (k : GG G Q kc ks (pc + 3) lv (rv G.1 (o + 8) :: st) M) : GG G Q kc ks pc lv (rv G.1 o :: st) M :=
  g_get h inW5 rfl 10 (by decide) flX6_120 (kd_lt (by rw [hk]; decide)) (ent_4 hk) rfl hd k
theorem gfX6_124 {G : GX} {Q : State → Prop} {kc ks pc nL : Nat} {lv : List (Nat × Value)} {st : List Value} {M : Mem} {b : ByteArray} {ret : Option FieldType} {rm : Room} (h : OKm G b RX6 nL ret rm) {o : Nat} (hk : kd o = 3) (hd : decode b pc = .ok (.getfield 124, 3)) (k : GG G Q kc ks (pc + 3) lv (.int (gI M o 0) :: st) M) : GG G Q kc ks pc lv (rv G.1 o :: st) M :=
  g_get h inW4 rfl 0 (by decide) flX6_124 (kd_lt (by rw [hk]; decide)) (ent_3 hk) rfl hd k
theorem pfX6_124 {G : GX} {Q : State → Prop} {kc ks pc nL : Nat} {lv : List (Nat × Value)} {st : List Value} {M : Mem} {b : ByteArray} {ret : Option FieldType} {rm : Room} (h : OKm G b RX6 nL ret rm) {o : Nat} {x : Int32} (hk : kd o = 3) (hd : decode b pc = .ok (.putfield 124, 3)) (k : GG G Q kc ks (pc + 3) lv st (sI M o 0 x)) : GG G Q kc ks pc lv (.int x :: rv G.1 o :: st) M := by
  refine g_put h inW4 rfl 0 (by decide) flX6_124 tyX4_ok nmX4 rfl (kd_lt (by rw [hk]; decide)) (ent_3 hk) (Nat.le_of_ble_eq_true rfl) ?_ (fun q hq => ent_aI hq) rfl rfl rfl hd k
  show ent G.1 (sI M o 0 x) o = _
  unfold sI
  rw [ent_aI_s]
  unfold entK
  rw [hk]
  rfl
theorem gfX6_133 {G : GX} {Q : State → Prop} {kc ks pc nL : Nat} {lv : List (Nat × Value)} {st : List Value} {M : Mem} {b : ByteArray} {ret : Option FieldType} {rm : Room} (h : OKm G b RX6 nL ret rm) {o : Nat} (hk : kd o = 4) (hd : decode b pc = .ok (.getfield 133, 3)) (k : GG G Q kc ks (pc + 3) lv (rv G.1 (o + 11) :: st) M) : GG G Q kc ks pc lv (rv G.1 o :: st) M :=
  g_get h inW5 rfl 11 (by decide) flX6_133 (kd_lt (by rw [hk]; decide)) (ent_4 hk) rfl hd k
theorem gfX6_140 {G : GX} {Q : State → Prop} {kc ks pc nL : Nat} {lv : List (Nat × Value)} {st : List Value} {M : Mem} {b : ByteArray} {ret : Option FieldType} {rm : Room} (h : OKm G b RX6 nL ret rm) {o : Nat} (hk : kd o = 4) (hd : decode b pc = .ok (.getfield 140, 3)) (k : GG G Q kc ks (pc + 3) lv (rv G.1 (o + 16) :: st) M) : GG G Q kc ks pc lv (rv G.1 o :: st) M :=
  g_get h inW5 rfl 13 (by decide) flX6_140 (kd_lt (by rw [hk]; decide)) (ent_4 hk) rfl hd k
theorem gfX6_149 {G : GX} {Q : State → Prop} {kc ks pc nL : Nat} {lv : List (Nat × Value)} {st : List Value} {M : Mem} {b : ByteArray} {ret : Option FieldType} {rm : Room} (h : OKm G b RX6 nL ret rm) {o : Nat} (hk : kd o = 9) (hd : decode b pc = .ok (.getfield 149, 3)) (k : GG G Q kc ks (pc + 3) lv (.int (gI M o 5) :: st) M) : GG G Q kc ks pc lv (rv G.1 o :: st) M :=
  g_get h inW10 rfl 5 (by decide) flX6_149 (kd_lt (by rw [hk]; decide)) (ent_9 hk) rfl hd k
theorem pfX6_149 {G : GX} {Q : State → Prop} {kc ks pc nL : Nat} {lv : List (Nat × Value)} {st : List Value} {M : Mem} {b : ByteArray} {ret : Option FieldType} {rm : Room} (h : OKm G b RX6 nL ret rm) {o : Nat} {x : Int32} (hk : kd o = 9) (hd : decode b pc = .ok (.putfield 149, 3)) (k : GG G Q kc ks (pc + 3) lv st (sI M o 5 x)) : GG G Q kc ks pc lv (.int x :: rv G.1 o :: st) M := by
  refine g_put h inW10 rfl 5 (by decide) flX6_149 tyX10_ok nmX10 rfl (kd_lt (by rw [hk]; decide)) (ent_9 hk) (Nat.le_of_ble_eq_true rfl) ?_ (fun q hq => ent_aI hq) rfl rfl rfl hd k
  show ent G.1 (sI M o 5 x) o = _
  unfold sI
  rw [ent_aI_s]
  unfold entK
  rw [hk]
  rfl
theorem gfX6_156 {G : GX} {Q : State → Prop} {kc ks pc nL : Nat} {lv : List (Nat × Value)} {st : List Value} {M : Mem} {b : ByteArray} {ret : Option FieldType} {rm : Room} (h : OKm G b RX6 nL ret rm) {o : Nat} (hk : kd o = 2) (hd : decode b pc = .ok (.getfield 156, 3)) (k : GG G Q kc ks (pc + 3) lv (.int (gI M o 0) :: st) M) : GG G Q kc ks pc lv (rv G.1 o :: st) M :=
  g_get h inW3 rfl 0 (by decide) flX6_156 (kd_lt (by rw [hk]; decide)) (ent_2 hk) rfl hd k
theorem pfX6_156 {G : GX} {Q : State → Prop} {kc ks pc nL : Nat} {lv : List (Nat × Value)} {st : List Value} {M : Mem} {b : ByteArray} {ret : Option FieldType} {rm : Room} (h : OKm G b RX6 nL ret rm) {o : Nat} {x : Int32} (hk : kd o = 2) (hd : decode b pc = .ok (.putfield 156, 3)) (k : GG G Q kc ks (pc + 3) lv st (sI M o 0 x)) : GG G Q kc ks pc lv (.int x :: rv G.1 o :: st) M := by
  refine g_put h inW3 rfl 0 (by decide) flX6_156 tyX3_ok nmX3 rfl (kd_lt (by rw [hk]; decide)) (ent_2 hk) (Nat.le_of_ble_eq_true rfl) ?_ (fun q hq => ent_aI hq) rfl rfl rfl hd k
  show ent G.1 (sI M o 0 x) o = _
  unfold sI
  rw [ent_aI_s]
  unfold entK
  rw [hk]
  rfl
theorem gfX6_159 {G : GX} {Q : State → Prop} {kc ks pc nL : Nat} {lv : List (Nat × Value)} {st : List Value} {M : Mem} {b : ByteArray} {ret : Option FieldType} {rm : Room} (h : OKm G b RX6 nL ret rm) {o : Nat} (hk : kd o = 2) (hd : decode b pc = .ok (.getfield 159, 3)) (k : GG G Q kc ks (pc + 3) lv (.int (gI M o 1) :: st) M) : GG G Q kc ks pc lv (rv G.1 o :: st) M :=
  g_get h inW3 rfl 1 (by decide) flX6_159 (kd_lt (by rw [hk]; decide)) (ent_2 hk) rfl hd k
theorem pfX6_159 {G : GX} {Q : State → Prop} {kc ks pc nL : Nat} {lv : List (Nat × Value)} {st : List Value} {M : Mem} {b : ByteArray} {ret : Option FieldType} {rm : Room} (h : OKm G b RX6 nL ret rm) {o : Nat} {x : Int32} (hk : kd o = 2) (hd : decode b pc = .ok (.putfield 159, 3)) (k : GG G Q kc ks (pc + 3) lv st (sI M o 1 x)) : GG G Q kc ks pc lv (.int x :: rv G.1 o :: st) M := by
  refine g_put h inW3 rfl 1 (by decide) flX6_159 tyX3_ok nmX3 rfl (kd_lt (by rw [hk]; decide)) (ent_2 hk) (Nat.le_of_ble_eq_true rfl) ?_ (fun q hq => ent_aI hq) rfl rfl rfl hd k
  show ent G.1 (sI M o 1 x) o = _
  unfold sI
  rw [ent_aI_s]
  unfold entK
  rw [hk]
  rfl
theorem gfX6_162 {G : GX} {Q : State → Prop} {kc ks pc nL : Nat} {lv : List (Nat × Value)} {st : List Value} {M : Mem} {b : ByteArray} {ret : Option FieldType} {rm : Room} (h : OKm G b RX6 nL ret rm) {o : Nat} (hk : kd o = 2) (hd : decode b pc = .ok (.getfield 162, 3)) (k : GG G Q kc ks (pc + 3) lv (.int (gI M o 2) :: st) M) : GG G Q kc ks pc lv (rv G.1 o :: st) M :=
  g_get h inW3 rfl 2 (by decide) flX6_162 (kd_lt (by rw [hk]; decide)) (ent_2 hk) rfl hd k
theorem pfX6_162 {G : GX} {Q : State → Prop} {kc ks pc nL : Nat} {lv : List (Nat × Value)} {st : List Value} {M : Mem} {b : ByteArray} {ret : Option FieldType} {rm : Room} (h : OKm G b RX6 nL ret rm) {o : Nat} {x : Int32} (hk : kd o = 2) (hd : decode b pc = .ok (.putfield 162, 3)) (k : GG G Q kc ks (pc + 3) lv st (sI M o 2 x)) : GG G Q kc ks pc lv (.int x :: rv G.1 o :: st) M := by
  refine g_put h inW3 rfl 2 (by decide) flX6_162 tyX3_ok nmX3 rfl (kd_lt (by rw [hk]; decide)) (ent_2 hk) (Nat.le_of_ble_eq_true rfl) ?_ (fun q hq => ent_aI hq) rfl rfl rfl hd k
  show ent G.1 (sI M o 2 x) o = _
  unfold sI
  rw [ent_aI_s]
  unfold entK
  rw [hk]
  rfl
theorem gfX6_168 {G : GX} {Q : State → Prop} {kc ks pc nL : Nat} {lv : List (Nat × Value)} {st : List Value} {M : Mem} {b : ByteArray} {ret : Option FieldType} {rm : Room} (h : OKm G b RX6 nL ret rm) {o : Nat} (hk : kd o = 4) (hd : decode b pc = .ok (.getfield 168, 3)) (k : GG G Q kc ks (pc + 3) lv (rv G.1 (o + 1) :: st) M) : GG G Q kc ks pc lv (rv G.1 o :: st) M :=
  g_get h inW5 rfl 1 (by decide) flX6_168 (kd_lt (by rw [hk]; decide)) (ent_4 hk) rfl hd k
theorem gfX6_171 {G : GX} {Q : State → Prop} {kc ks pc nL : Nat} {lv : List (Nat × Value)} {st : List Value} {M : Mem} {b : ByteArray} {ret : Option FieldType} {rm : Room} (h : OKm G b RX6 nL ret rm) {o : Nat} (hk : kd o = 4) (hd : decode b pc = .ok (.getfield 171, 3)) (k : GG G Q kc ks (pc + 3) lv (rv G.1 (o + 2) :: st) M) : GG G Q kc ks pc lv (rv G.1 o :: st) M :=
  g_get h inW5 rfl 2 (by decide) flX6_171 (kd_lt (by rw [hk]; decide)) (ent_4 hk) rfl hd k
theorem gfX6_174 {G : GX} {Q : State → Prop} {kc ks pc nL : Nat} {lv : List (Nat × Value)} {st : List Value} {M : Mem} {b : ByteArray} {ret : Option FieldType} {rm : Room} (h : OKm G b RX6 nL ret rm) {o : Nat} (hk : kd o = 4) (hd : decode b pc = .ok (.getfield 174, 3)) (k : GG G Q kc ks (pc + 3) lv (rv G.1 (o + 3) :: st) M) : GG G Q kc ks pc lv (rv G.1 o :: st) M :=
  g_get h inW5 rfl 3 (by decide) flX6_174 (kd_lt (by rw [hk]; decide)) (ent_4 hk) rfl hd k
theorem gfX6_177 {G : GX} {Q : State → Prop} {kc ks pc nL : Nat} {lv : List (Nat × Value)} {st : List Value} {M : Mem} {b : ByteArray} {ret : Option FieldType} {rm : Room} (h : OKm G b RX6 nL ret rm) {o : Nat} (hk : kd o = 4) (hd : decode b pc = .ok (.getfield 177, 3)) (k : GG G Q kc ks (pc + 3) lv (rv G.1 (o + 4) :: st) M) : GG G Q kc ks pc lv (rv G.1 o :: st) M :=
  g_get h inW5 rfl 4 (by decide) flX6_177 (kd_lt (by rw [hk]; decide)) (ent_4 hk) rfl hd k
theorem gfX6_180 {G : GX} {Q : State → Prop} {kc ks pc nL : Nat} {lv : List (Nat × Value)} {st : List Value} {M : Mem} {b : ByteArray} {ret : Option FieldType} {rm : Room} (h : OKm G b RX6 nL ret rm) {o : Nat} (hk : kd o = 2) (hd : decode b pc = .ok (.getfield 180, 3)) (k : GG G Q kc ks (pc + 3) lv (rv G.1 (o + 3) :: st) M) : GG G Q kc ks pc lv (rv G.1 o :: st) M :=
  g_get h inW3 rfl 11 (by decide) flX6_180 (kd_lt (by rw [hk]; decide)) (ent_2 hk) rfl hd k
theorem gfX6_183 {G : GX} {Q : State → Prop} {kc ks pc nL : Nat} {lv : List (Nat × Value)} {st : List Value} {M : Mem} {b : ByteArray} {ret : Option FieldType} {rm : Room} (h : OKm G b RX6 nL ret rm) {o : Nat} (hk : kd o = 4) (hd : decode b pc = .ok (.getfield 183, 3)) (k : GG G Q kc ks (pc + 3) lv (rv G.1 (o + 5) :: st) M) : GG G Q kc ks pc lv (rv G.1 o :: st) M :=
  g_get h inW5 rfl 5 (by decide) flX6_183 (kd_lt (by rw [hk]; decide)) (ent_4 hk) rfl hd k
theorem gfX6_186 {G : GX} {Q : State → Prop} {kc ks pc nL : Nat} {lv : List (Nat × Value)} {st : List Value} {M : Mem} {b : ByteArray} {ret : Option FieldType} {rm : Room} (h : OKm G b RX6 nL ret rm) {o : Nat} (hk : kd o = 4) (hd : decode b pc = .ok (.getfield 186, 3)) (k : GG G Q kc ks (pc + 3) lv (rv G.1 (o + 6) :: st) M) : GG G Q kc ks pc lv (rv G.1 o :: st) M :=
  g_get h inW5 rfl 7 (by decide) flX6_186 (kd_lt (by rw [hk]; decide)) (ent_4 hk) rfl hd k
theorem gfX6_189 {G : GX} {Q : State → Prop} {kc ks pc nL : Nat} {lv : List (Nat × Value)} {st : List Value} {M : Mem} {b : ByteArray} {ret : Option FieldType} {rm : Room} (h : OKm G b RX6 nL ret rm) {o : Nat} (hk : kd o = 4) (hd : decode b pc = .ok (.getfield 189, 3)) (k : GG G Q kc ks (pc + 3) lv (.int (gI M o 6) :: st) M) : GG G Q kc ks pc lv (rv G.1 o :: st) M :=
  g_get h inW5 rfl 6 (by decide) flX6_189 (kd_lt (by rw [hk]; decide)) (ent_4 hk) rfl hd k
theorem pfX6_189 {G : GX} {Q : State → Prop} {kc ks pc nL : Nat} {lv : List (Nat × Value)} {st : List Value} {M : Mem} {b : ByteArray} {ret : Option FieldType} {rm : Room} (h : OKm G b RX6 nL ret rm) {o : Nat} {x : Int32} (hk : kd o = 4) (hd : decode b pc = .ok (.putfield 189, 3)) (k : GG G Q kc ks (pc + 3) lv st (sI M o 6 x)) : GG G Q kc ks pc lv (.int x :: rv G.1 o :: st) M := by
  refine g_put h inW5 rfl 6 (by decide) flX6_189 tyX5_ok nmX5 rfl (kd_lt (by rw [hk]; decide)) (ent_4 hk) (Nat.le_of_ble_eq_true rfl) ?_ (fun q hq => ent_aI hq) rfl rfl rfl hd k
  show ent G.1 (sI M o 6 x) o = _
  unfold sI
  rw [ent_aI_s]
  unfold entK
  rw [hk]
  rfl
theorem gfX6_192 {G : GX} {Q : State → Prop} {kc ks pc nL : Nat} {lv : List (Nat × Value)} {st : List Value} {M : Mem} {b : ByteArray} {ret : Option FieldType} {rm : Room} (h : OKm G b RX6 nL ret rm) {o : Nat} (hk : kd o = 2) (hd : decode b pc = .ok (.getfield 192, 3)) (k : GG G Q kc ks (pc + 3) lv (.int (gI M o 8) :: st) M) : GG G Q kc ks pc lv (rv G.1 o :: st) M :=
  g_get h inW3 rfl 8 (by decide) flX6_192 (kd_lt (by rw [hk]; decide)) (ent_2 hk) rfl hd k
theorem pfX6_192 {G : GX} {Q : State → Prop} {kc ks pc nL : Nat} {lv : List (Nat × Value)} {st : List Value} {M : Mem} {b : ByteArray} {ret : Option FieldType} {rm : Room} (h : OKm G b RX6 nL ret rm) {o : Nat} {x : Int32} (hk : kd o = 2) (hd : decode b pc = .ok (.putfield 192, 3)) (k : GG G Q kc ks (pc + 3) lv st (sI M o 8 x)) : GG G Q kc ks pc lv (.int x :: rv G.1 o :: st) M := by
  refine g_put h inW3 rfl 8 (by decide) flX6_192 tyX3_ok nmX3 rfl (kd_lt (by rw [hk]; decide)) (ent_2 hk) (Nat.le_of_ble_eq_true rfl) ?_ (fun q hq => ent_aI hq) rfl rfl rfl hd k
  show ent G.1 (sI M o 8 x) o = _
  unfold sI
  rw [ent_aI_s]
  unfold entK
  rw [hk]
  rfl
theorem gfX6_195 {G : GX} {Q : State → Prop} {kc ks pc nL : Nat} {lv : List (Nat × Value)} {st : List Value} {M : Mem} {b : ByteArray} {ret : Option FieldType} {rm : Room} (h : OKm G b RX6 nL ret rm) {o : Nat} (hk : kd o = 2) (hd : decode b pc = .ok (.getfield 195, 3)) (k : GG G Q kc ks (pc + 3) lv (rv G.1 (o + 4) :: st) M) : GG G Q kc ks pc lv (rv G.1 o :: st) M :=
  g_get h inW3 rfl 12 (by decide) flX6_195 (kd_lt (by rw [hk]; decide)) (ent_2 hk) rfl hd k
theorem gfX6_198 {G : GX} {Q : State → Prop} {kc ks pc nL : Nat} {lv : List (Nat × Value)} {st : List Value} {M : Mem} {b : ByteArray} {ret : Option FieldType} {rm : Room} (h : OKm G b RX6 nL ret rm) {o : Nat} (hk : kd o = 4) (hd : decode b pc = .ok (.getfield 198, 3)) (k : GG G Q kc ks (pc + 3) lv (rv G.1 (o + 7) :: st) M) : GG G Q kc ks pc lv (rv G.1 o :: st) M :=
  g_get h inW5 rfl 9 (by decide) flX6_198 (kd_lt (by rw [hk]; decide)) (ent_4 hk) rfl hd k
theorem gfX6_201 {G : GX} {Q : State → Prop} {kc ks pc nL : Nat} {lv : List (Nat × Value)} {st : List Value} {M : Mem} {b : ByteArray} {ret : Option FieldType} {rm : Room} (h : OKm G b RX6 nL ret rm) {o : Nat} (hk : kd o = 3) (hd : decode b pc = .ok (.getfield 201, 3)) (k : GG G Q kc ks (pc + 3) lv (rv G.1 (o + 1) :: st) M) : GG G Q kc ks pc lv (rv G.1 o :: st) M :=
  g_get h inW4 rfl 1 (by decide) flX6_201 (kd_lt (by rw [hk]; decide)) (ent_3 hk) rfl hd k
theorem gfX6_204 {G : GX} {Q : State → Prop} {kc ks pc nL : Nat} {lv : List (Nat × Value)} {st : List Value} {M : Mem} {b : ByteArray} {ret : Option FieldType} {rm : Room} (h : OKm G b RX6 nL ret rm) {o : Nat} (hk : kd o = 3) (hd : decode b pc = .ok (.getfield 204, 3)) (k : GG G Q kc ks (pc + 3) lv (rv G.1 (o + 2) :: st) M) : GG G Q kc ks pc lv (rv G.1 o :: st) M :=
  g_get h inW4 rfl 2 (by decide) flX6_204 (kd_lt (by rw [hk]; decide)) (ent_3 hk) rfl hd k
theorem gfX6_206 {G : GX} {Q : State → Prop} {kc ks pc nL : Nat} {lv : List (Nat × Value)} {st : List Value} {M : Mem} {b : ByteArray} {ret : Option FieldType} {rm : Room} (h : OKm G b RX6 nL ret rm) {o : Nat} (hk : kd o = 7) (hd : decode b pc = .ok (.getfield 206, 3)) (k : GG G Q kc ks (pc + 3) lv (.int (gI M o 2) :: st) M) : GG G Q kc ks pc lv (rv G.1 o :: st) M :=
  g_get h inW8 rfl 2 (by decide) flX6_206 (kd_lt (by rw [hk]; decide)) (ent_7 hk) rfl hd k
theorem pfX6_206 {G : GX} {Q : State → Prop} {kc ks pc nL : Nat} {lv : List (Nat × Value)} {st : List Value} {M : Mem} {b : ByteArray} {ret : Option FieldType} {rm : Room} (h : OKm G b RX6 nL ret rm) {o : Nat} {x : Int32} (hk : kd o = 7) (hd : decode b pc = .ok (.putfield 206, 3)) (k : GG G Q kc ks (pc + 3) lv st (sI M o 2 x)) : GG G Q kc ks pc lv (.int x :: rv G.1 o :: st) M := by
  refine g_put h inW8 rfl 2 (by decide) flX6_206 tyX8_ok nmX8 rfl (kd_lt (by rw [hk]; decide)) (ent_7 hk) (Nat.le_of_ble_eq_true rfl) ?_ (fun q hq => ent_aI hq) rfl rfl rfl hd k
  show ent G.1 (sI M o 2 x) o = _
  unfold sI
  rw [ent_aI_s]
  unfold entK
  rw [hk]
  rfl
theorem gfX6_259 {G : GX} {Q : State → Prop} {kc ks pc nL : Nat} {lv : List (Nat × Value)} {st : List Value} {M : Mem} {b : ByteArray} {ret : Option FieldType} {rm : Room} (h : OKm G b RX6 nL ret rm) {o : Nat} (hk : kd o = 7) (hd : decode b pc = .ok (.getfield 259, 3)) (k : GG G Q kc ks (pc + 3) lv (.int (gI M o 3) :: st) M) : GG G Q kc ks pc lv (rv G.1 o :: st) M :=
  g_get h inW8 rfl 3 (by decide) flX6_259 (kd_lt (by rw [hk]; decide)) (ent_7 hk) rfl hd k
theorem pfX6_259 {G : GX} {Q : State → Prop} {kc ks pc nL : Nat} {lv : List (Nat × Value)} {st : List Value} {M : Mem} {b : ByteArray} {ret : Option FieldType} {rm : Room} (h : OKm G b RX6 nL ret rm) {o : Nat} {x : Int32} (hk : kd o = 7) (hz : x = 0 ∨ x = 1) (hd : decode b pc = .ok (.putfield 259, 3)) (k : GG G Q kc ks (pc + 3) lv st (sI M o 3 x)) : GG G Q kc ks pc lv (.int x :: rv G.1 o :: st) M := by
  refine g_put h inW8 rfl 3 (by decide) flX6_259 tyX8_ok nmX8 rfl (kd_lt (by rw [hk]; decide)) (ent_7 hk) (Nat.le_of_ble_eq_true rfl) ?_ (fun q hq => ent_aI hq) rfl (by rcases hz with rfl | rfl <;> rfl) (by rcases hz with rfl | rfl <;> rfl) hd k
  show ent G.1 (sI M o 3 x) o = _
  unfold sI
  rw [ent_aI_s]
  unfold entK
  rw [hk]
  rfl
theorem gfX7_12 {G : GX} {Q : State → Prop} {kc ks pc nL : Nat} {lv : List (Nat × Value)} {st : List Value} {M : Mem} {b : ByteArray} {ret : Option FieldType} {rm : Room} (h : OKm G b RX7 nL ret rm) {o : Nat} (hk : kd o = 6) (hd : decode b pc = .ok (.getfield 12, 3)) (k : GG G Q kc ks (pc + 3) lv (rv G.1 (gR M o 0) :: st) M) : GG G Q kc ks pc lv (rv G.1 o :: st) M :=
  g_get h inW7 rfl 0 (by decide) flX7_12 (kd_lt (by rw [hk]; decide)) (ent_6 hk) rfl hd k
theorem pfX7_12 {G : GX} {Q : State → Prop} {kc ks pc nL : Nat} {lv : List (Nat × Value)} {st : List Value} {M : Mem} {b : ByteArray} {ret : Option FieldType} {rm : Room} (h : OKm G b RX7 nL ret rm) {o : Nat} {x : Nat} (hk : kd o = 6) (hd : decode b pc = .ok (.putfield 12, 3)) (k : GG G Q kc ks (pc + 3) lv st (sR M o 0 x)) : GG G Q kc ks pc lv (rv G.1 x :: rv G.1 o :: st) M := by
  refine g_put h inW7 rfl 0 (by decide) flX7_12 tyX7_ok nmX7 rfl (kd_lt (by rw [hk]; decide)) (ent_6 hk) (Nat.le_of_ble_eq_true rfl) ?_ (fun q hq => ent_aR hq) rfl rfl rfl hd k
  show ent G.1 (sR M o 0 x) o = _
  unfold sR
  rw [ent_aR_s]
  unfold entK
  rw [hk]
  rfl
theorem gfX7_20 {G : GX} {Q : State → Prop} {kc ks pc nL : Nat} {lv : List (Nat × Value)} {st : List Value} {M : Mem} {b : ByteArray} {ret : Option FieldType} {rm : Room} (h : OKm G b RX7 nL ret rm) {o : Nat} (hk : kd o = 6) (hd : decode b pc = .ok (.getfield 20, 3)) (k : GG G Q kc ks (pc + 3) lv (rv G.1 46 :: st) M) : GG G Q kc ks pc lv (rv G.1 o :: st) M :=
  g_get h inW7 rfl 1 (by decide) flX7_20 (kd_lt (by rw [hk]; decide)) (ent_6 hk) rfl hd k
theorem gfX7_24 {G : GX} {Q : State → Prop} {kc ks pc nL : Nat} {lv : List (Nat × Value)} {st : List Value} {M : Mem} {b : ByteArray} {ret : Option FieldType} {rm : Room} (h : OKm G b RX7 nL ret rm) {o : Nat} (hk : kd o = 6) (hd : decode b pc = .ok (.getfield 24, 3)) (k : GG G Q kc ks (pc + 3) lv (rv G.1 47 :: st) M) : GG G Q kc ks pc lv (rv G.1 o :: st) M :=
  g_get h inW7 rfl 2 (by decide) flX7_24 (kd_lt (by rw [hk]; decide)) (ent_6 hk) rfl hd k
theorem gfX7_27 {G : GX} {Q : State → Prop} {kc ks pc nL : Nat} {lv : List (Nat × Value)} {st : List Value} {M : Mem} {b : ByteArray} {ret : Option FieldType} {rm : Room} (h : OKm G b RX7 nL ret rm) {o : Nat} (hk : kd o = 6) (hd : decode b pc = .ok (.getfield 27, 3)) (k : GG G Q kc ks (pc + 3) lv (rv G.1 48 :: st) M) : GG G Q kc ks pc lv (rv G.1 o :: st) M :=
  g_get h inW7 rfl 3 (by decide) flX7_27 (kd_lt (by rw [hk]; decide)) (ent_6 hk) rfl hd k
theorem gfX7_30 {G : GX} {Q : State → Prop} {kc ks pc nL : Nat} {lv : List (Nat × Value)} {st : List Value} {M : Mem} {b : ByteArray} {ret : Option FieldType} {rm : Room} (h : OKm G b RX7 nL ret rm) {o : Nat} (hk : kd o = 4) (hd : decode b pc = .ok (.getfield 30, 3)) (k : GG G Q kc ks (pc + 3) lv (.int (gI M o 6) :: st) M) : GG G Q kc ks pc lv (rv G.1 o :: st) M :=
  g_get h inW5 rfl 6 (by decide) flX7_30 (kd_lt (by rw [hk]; decide)) (ent_4 hk) rfl hd k
theorem pfX7_30 {G : GX} {Q : State → Prop} {kc ks pc nL : Nat} {lv : List (Nat × Value)} {st : List Value} {M : Mem} {b : ByteArray} {ret : Option FieldType} {rm : Room} (h : OKm G b RX7 nL ret rm) {o : Nat} {x : Int32} (hk : kd o = 4) (hd : decode b pc = .ok (.putfield 30, 3)) (k : GG G Q kc ks (pc + 3) lv st (sI M o 6 x)) : GG G Q kc ks pc lv (.int x :: rv G.1 o :: st) M := by
  refine g_put h inW5 rfl 6 (by decide) flX7_30 tyX5_ok nmX5 rfl (kd_lt (by rw [hk]; decide)) (ent_4 hk) (Nat.le_of_ble_eq_true rfl) ?_ (fun q hq => ent_aI hq) rfl rfl rfl hd k
  show ent G.1 (sI M o 6 x) o = _
  unfold sI
  rw [ent_aI_s]
  unfold entK
  rw [hk]
  rfl
theorem gfX7_34 {G : GX} {Q : State → Prop} {kc ks pc nL : Nat} {lv : List (Nat × Value)} {st : List Value} {M : Mem} {b : ByteArray} {ret : Option FieldType} {rm : Room} (h : OKm G b RX7 nL ret rm) {o : Nat} (hk : kd o = 4) (hd : decode b pc = .ok (.getfield 34, 3)) (k : GG G Q kc ks (pc + 3) lv (rv G.1 (o + 6) :: st) M) : GG G Q kc ks pc lv (rv G.1 o :: st) M :=
  g_get h inW5 rfl 7 (by decide) flX7_34 (kd_lt (by rw [hk]; decide)) (ent_4 hk) rfl hd k
theorem gfX7_37 {G : GX} {Q : State → Prop} {kc ks pc nL : Nat} {lv : List (Nat × Value)} {st : List Value} {M : Mem} {b : ByteArray} {ret : Option FieldType} {rm : Room} (h : OKm G b RX7 nL ret rm) {o : Nat} (hk : kd o = 4) (hd : decode b pc = .ok (.getfield 37, 3)) (k : GG G Q kc ks (pc + 3) lv (rv G.1 (o + 5) :: st) M) : GG G Q kc ks pc lv (rv G.1 o :: st) M :=
  g_get h inW5 rfl 5 (by decide) flX7_37 (kd_lt (by rw [hk]; decide)) (ent_4 hk) rfl hd k
theorem gfX7_40 {G : GX} {Q : State → Prop} {kc ks pc nL : Nat} {lv : List (Nat × Value)} {st : List Value} {M : Mem} {b : ByteArray} {ret : Option FieldType} {rm : Room} (h : OKm G b RX7 nL ret rm) {o : Nat} (hk : kd o = 2) (hd : decode b pc = .ok (.getfield 40, 3)) (k : GG G Q kc ks (pc + 3) lv (rv G.1 (o + 3) :: st) M) : GG G Q kc ks pc lv (rv G.1 o :: st) M :=
  g_get h inW3 rfl 11 (by decide) flX7_40 (kd_lt (by rw [hk]; decide)) (ent_2 hk) rfl hd k
theorem gfX7_45 {G : GX} {Q : State → Prop} {kc ks pc nL : Nat} {lv : List (Nat × Value)} {st : List Value} {M : Mem} {b : ByteArray} {ret : Option FieldType} {rm : Room} (h : OKm G b RX7 nL ret rm) {o : Nat} (hk : kd o = 2) (hd : decode b pc = .ok (.getfield 45, 3)) (k : GG G Q kc ks (pc + 3) lv (rv G.1 (o + 1) :: st) M) : GG G Q kc ks pc lv (rv G.1 o :: st) M :=
  g_get h inW3 rfl 9 (by decide) flX7_45 (kd_lt (by rw [hk]; decide)) (ent_2 hk) rfl hd k
theorem gfX7_48 {G : GX} {Q : State → Prop} {kc ks pc nL : Nat} {lv : List (Nat × Value)} {st : List Value} {M : Mem} {b : ByteArray} {ret : Option FieldType} {rm : Room} (h : OKm G b RX7 nL ret rm) {o : Nat} (hk : kd o = 2) (hd : decode b pc = .ok (.getfield 48, 3)) (k : GG G Q kc ks (pc + 3) lv (.int (gI M o 3) :: st) M) : GG G Q kc ks pc lv (rv G.1 o :: st) M :=
  g_get h inW3 rfl 3 (by decide) flX7_48 (kd_lt (by rw [hk]; decide)) (ent_2 hk) rfl hd k
theorem pfX7_48 {G : GX} {Q : State → Prop} {kc ks pc nL : Nat} {lv : List (Nat × Value)} {st : List Value} {M : Mem} {b : ByteArray} {ret : Option FieldType} {rm : Room} (h : OKm G b RX7 nL ret rm) {o : Nat} {x : Int32} (hk : kd o = 2) (hd : decode b pc = .ok (.putfield 48, 3)) (k : GG G Q kc ks (pc + 3) lv st (sI M o 3 x)) : GG G Q kc ks pc lv (.int x :: rv G.1 o :: st) M := by
  refine g_put h inW3 rfl 3 (by decide) flX7_48 tyX3_ok nmX3 rfl (kd_lt (by rw [hk]; decide)) (ent_2 hk) (Nat.le_of_ble_eq_true rfl) ?_ (fun q hq => ent_aI hq) rfl rfl rfl hd k
  show ent G.1 (sI M o 3 x) o = _
  unfold sI
  rw [ent_aI_s]
  unfold entK
  rw [hk]
  rfl
theorem gfX7_55 {G : GX} {Q : State → Prop} {kc ks pc nL : Nat} {lv : List (Nat × Value)} {st : List Value} {M : Mem} {b : ByteArray} {ret : Option FieldType} {rm : Room} (h : OKm G b RX7 nL ret rm) {o : Nat} (hk : kd o = 2) (hd : decode b pc = .ok (.getfield 55, 3)) (k : GG G Q kc ks (pc + 3) lv (.int (gI M o 4) :: st) M) : GG G Q kc ks pc lv (rv G.1 o :: st) M :=
  g_get h inW3 rfl 4 (by decide) flX7_55 (kd_lt (by rw [hk]; decide)) (ent_2 hk) rfl hd k
theorem pfX7_55 {G : GX} {Q : State → Prop} {kc ks pc nL : Nat} {lv : List (Nat × Value)} {st : List Value} {M : Mem} {b : ByteArray} {ret : Option FieldType} {rm : Room} (h : OKm G b RX7 nL ret rm) {o : Nat} {x : Int32} (hk : kd o = 2) (hd : decode b pc = .ok (.putfield 55, 3)) (k : GG G Q kc ks (pc + 3) lv st (sI M o 4 x)) : GG G Q kc ks pc lv (.int x :: rv G.1 o :: st) M := by
  refine g_put h inW3 rfl 4 (by decide) flX7_55 tyX3_ok nmX3 rfl (kd_lt (by rw [hk]; decide)) (ent_2 hk) (Nat.le_of_ble_eq_true rfl) ?_ (fun q hq => ent_aI hq) rfl rfl rfl hd k
  show ent G.1 (sI M o 4 x) o = _
  unfold sI
  rw [ent_aI_s]
  unfold entK
  rw [hk]
  rfl
theorem gfX7_81 {G : GX} {Q : State → Prop} {kc ks pc nL : Nat} {lv : List (Nat × Value)} {st : List Value} {M : Mem} {b : ByteArray} {ret : Option FieldType} {rm : Room} (h : OKm G b RX7 nL ret rm) {o : Nat} (hk : kd o = 2) (hd : decode b pc = .ok (.getfield 81, 3)) (k : GG G Q kc ks (pc + 3) lv (.int (gI M o 0) :: st) M) : GG G Q kc ks pc lv (rv G.1 o :: st) M :=
  g_get h inW3 rfl 0 (by decide) flX7_81 (kd_lt (by rw [hk]; decide)) (ent_2 hk) rfl hd k
theorem pfX7_81 {G : GX} {Q : State → Prop} {kc ks pc nL : Nat} {lv : List (Nat × Value)} {st : List Value} {M : Mem} {b : ByteArray} {ret : Option FieldType} {rm : Room} (h : OKm G b RX7 nL ret rm) {o : Nat} {x : Int32} (hk : kd o = 2) (hd : decode b pc = .ok (.putfield 81, 3)) (k : GG G Q kc ks (pc + 3) lv st (sI M o 0 x)) : GG G Q kc ks pc lv (.int x :: rv G.1 o :: st) M := by
  refine g_put h inW3 rfl 0 (by decide) flX7_81 tyX3_ok nmX3 rfl (kd_lt (by rw [hk]; decide)) (ent_2 hk) (Nat.le_of_ble_eq_true rfl) ?_ (fun q hq => ent_aI hq) rfl rfl rfl hd k
  show ent G.1 (sI M o 0 x) o = _
  unfold sI
  rw [ent_aI_s]
  unfold entK
  rw [hk]
  rfl
theorem gfX7_90 {G : GX} {Q : State → Prop} {kc ks pc nL : Nat} {lv : List (Nat × Value)} {st : List Value} {M : Mem} {b : ByteArray} {ret : Option FieldType} {rm : Room} (h : OKm G b RX7 nL ret rm) {o : Nat} (hk : kd o = 2) (hd : decode b pc = .ok (.getfield 90, 3)) (k : GG G Q kc ks (pc + 3) lv (.int (gI M o 2) :: st) M) : GG G Q kc ks pc lv (rv G.1 o :: st) M :=
  g_get h inW3 rfl 2 (by decide) flX7_90 (kd_lt (by rw [hk]; decide)) (ent_2 hk) rfl hd k
theorem pfX7_90 {G : GX} {Q : State → Prop} {kc ks pc nL : Nat} {lv : List (Nat × Value)} {st : List Value} {M : Mem} {b : ByteArray} {ret : Option FieldType} {rm : Room} (h : OKm G b RX7 nL ret rm) {o : Nat} {x : Int32} (hk : kd o = 2) (hd : decode b pc = .ok (.putfield 90, 3)) (k : GG G Q kc ks (pc + 3) lv st (sI M o 2 x)) : GG G Q kc ks pc lv (.int x :: rv G.1 o :: st) M := by
  refine g_put h inW3 rfl 2 (by decide) flX7_90 tyX3_ok nmX3 rfl (kd_lt (by rw [hk]; decide)) (ent_2 hk) (Nat.le_of_ble_eq_true rfl) ?_ (fun q hq => ent_aI hq) rfl rfl rfl hd k
  show ent G.1 (sI M o 2 x) o = _
  unfold sI
  rw [ent_aI_s]
  unfold entK
  rw [hk]
  rfl
theorem gfX7_93 {G : GX} {Q : State → Prop} {kc ks pc nL : Nat} {lv : List (Nat × Value)} {st : List Value} {M : Mem} {b : ByteArray} {ret : Option FieldType} {rm : Room} (h : OKm G b RX7 nL ret rm) {o : Nat} (hk : kd o = 4) (hd : decode b pc = .ok (.getfield 93, 3)) (k : GG G Q kc ks (pc + 3) lv (.int (gI M o 0) :: st) M) : GG G Q kc ks pc lv (rv G.1 o :: st) M :=
  g_get h inW5 rfl 0 (by decide) flX7_93 (kd_lt (by rw [hk]; decide)) (ent_4 hk) rfl hd k
theorem pfX7_93 {G : GX} {Q : State → Prop} {kc ks pc nL : Nat} {lv : List (Nat × Value)} {st : List Value} {M : Mem} {b : ByteArray} {ret : Option FieldType} {rm : Room} (h : OKm G b RX7 nL ret rm) {o : Nat} {x : Int32} (hk : kd o = 4) (hd : decode b pc = .ok (.putfield 93, 3)) (k : GG G Q kc ks (pc + 3) lv st (sI M o 0 x)) : GG G Q kc ks pc lv (.int x :: rv G.1 o :: st) M := by
  refine g_put h inW5 rfl 0 (by decide) flX7_93 tyX5_ok nmX5 rfl (kd_lt (by rw [hk]; decide)) (ent_4 hk) (Nat.le_of_ble_eq_true rfl) ?_ (fun q hq => ent_aI hq) rfl rfl rfl hd k
  show ent G.1 (sI M o 0 x) o = _
  unfold sI
  rw [ent_aI_s]
  unfold entK
  rw [hk]
  rfl
theorem gfX7_96 {G : GX} {Q : State → Prop} {kc ks pc nL : Nat} {lv : List (Nat × Value)} {st : List Value} {M : Mem} {b : ByteArray} {ret : Option FieldType} {rm : Room} (h : OKm G b RX7 nL ret rm) {o : Nat} (hk : kd o = 4) (hd : decode b pc = .ok (.getfield 96, 3)) (k : GG G Q kc ks (pc + 3) lv (rv G.1 (o + 1) :: st) M) : GG G Q kc ks pc lv (rv G.1 o :: st) M :=
  g_get h inW5 rfl 1 (by decide) flX7_96 (kd_lt (by rw [hk]; decide)) (ent_4 hk) rfl hd k
theorem gfX7_99 {G : GX} {Q : State → Prop} {kc ks pc nL : Nat} {lv : List (Nat × Value)} {st : List Value} {M : Mem} {b : ByteArray} {ret : Option FieldType} {rm : Room} (h : OKm G b RX7 nL ret rm) {o : Nat} (hk : kd o = 2) (hd : decode b pc = .ok (.getfield 99, 3)) (k : GG G Q kc ks (pc + 3) lv (.int (gI M o 6) :: st) M) : GG G Q kc ks pc lv (rv G.1 o :: st) M :=
  g_get h inW3 rfl 6 (by decide) flX7_99 (kd_lt (by rw [hk]; decide)) (ent_2 hk) rfl hd k
theorem pfX7_99 {G : GX} {Q : State → Prop} {kc ks pc nL : Nat} {lv : List (Nat × Value)} {st : List Value} {M : Mem} {b : ByteArray} {ret : Option FieldType} {rm : Room} (h : OKm G b RX7 nL ret rm) {o : Nat} {x : Int32} (hk : kd o = 2) (hd : decode b pc = .ok (.putfield 99, 3)) (k : GG G Q kc ks (pc + 3) lv st (sI M o 6 x)) : GG G Q kc ks pc lv (.int x :: rv G.1 o :: st) M := by
  refine g_put h inW3 rfl 6 (by decide) flX7_99 tyX3_ok nmX3 rfl (kd_lt (by rw [hk]; decide)) (ent_2 hk) (Nat.le_of_ble_eq_true rfl) ?_ (fun q hq => ent_aI hq) rfl rfl rfl hd k
  show ent G.1 (sI M o 6 x) o = _
  unfold sI
  rw [ent_aI_s]
  unfold entK
  rw [hk]
  rfl
theorem gfX7_102 {G : GX} {Q : State → Prop} {kc ks pc nL : Nat} {lv : List (Nat × Value)} {st : List Value} {M : Mem} {b : ByteArray} {ret : Option FieldType} {rm : Room} (h : OKm G b RX7 nL ret rm) {o : Nat} (hk : kd o = 2) (hd : decode b pc = .ok (.getfield 102, 3)) (k : GG G Q kc ks (pc + 3) lv (.int (gI M o 1) :: st) M) : GG G Q kc ks pc lv (rv G.1 o :: st) M :=
  g_get h inW3 rfl 1 (by decide) flX7_102 (kd_lt (by rw [hk]; decide)) (ent_2 hk) rfl hd k
theorem pfX7_102 {G : GX} {Q : State → Prop} {kc ks pc nL : Nat} {lv : List (Nat × Value)} {st : List Value} {M : Mem} {b : ByteArray} {ret : Option FieldType} {rm : Room} (h : OKm G b RX7 nL ret rm) {o : Nat} {x : Int32} (hk : kd o = 2) (hd : decode b pc = .ok (.putfield 102, 3)) (k : GG G Q kc ks (pc + 3) lv st (sI M o 1 x)) : GG G Q kc ks pc lv (.int x :: rv G.1 o :: st) M := by
  refine g_put h inW3 rfl 1 (by decide) flX7_102 tyX3_ok nmX3 rfl (kd_lt (by rw [hk]; decide)) (ent_2 hk) (Nat.le_of_ble_eq_true rfl) ?_ (fun q hq => ent_aI hq) rfl rfl rfl hd k
  show ent G.1 (sI M o 1 x) o = _
  unfold sI
  rw [ent_aI_s]
  unfold entK
  rw [hk]
  rfl
theorem gfX7_105 {G : GX} {Q : State → Prop} {kc ks pc nL : Nat} {lv : List (Nat × Value)} {st : List Value} {M : Mem} {b : ByteArray} {ret : Option FieldType} {rm : Room} (h : OKm G b RX7 nL ret rm) {o : Nat} (hk : kd o = 4) (hd : decode b pc = .ok (.getfield 105, 3)) (k : GG G Q kc ks (pc + 3) lv (rv G.1 (o + 2) :: st) M) : GG G Q kc ks pc lv (rv G.1 o :: st) M :=
  g_get h inW5 rfl 2 (by decide) flX7_105 (kd_lt (by rw [hk]; decide)) (ent_4 hk) rfl hd k
theorem gfX7_111 {G : GX} {Q : State → Prop} {kc ks pc nL : Nat} {lv : List (Nat × Value)} {st : List Value} {M : Mem} {b : ByteArray} {ret : Option FieldType} {rm : Room} (h : OKm G b RX7 nL ret rm) {o : Nat} (hk : kd o = 4) (hd : decode b pc = .ok (.getfield 111, 3)) (k : GG G Q kc ks (pc + 3) lv (rv G.1 (o + 3) :: st) M) : GG G Q kc ks pc lv (rv G.1 o :: st) M :=
  g_get h inW5 rfl 3 (by decide) flX7_111 (kd_lt (by rw [hk]; decide)) (ent_4 hk) rfl hd k
theorem gfX7_114 {G : GX} {Q : State → Prop} {kc ks pc nL : Nat} {lv : List (Nat × Value)} {st : List Value} {M : Mem} {b : ByteArray} {ret : Option FieldType} {rm : Room} (h : OKm G b RX7 nL ret rm) {o : Nat} (hk : kd o = 2) (hd : decode b pc = .ok (.getfield 114, 3)) (k : GG G Q kc ks (pc + 3) lv (rv G.1 (o + 2) :: st) M) : GG G Q kc ks pc lv (rv G.1 o :: st) M :=
  g_get h inW3 rfl 10 (by decide) flX7_114 (kd_lt (by rw [hk]; decide)) (ent_2 hk) rfl hd k
theorem gfX7_117 {G : GX} {Q : State → Prop} {kc ks pc nL : Nat} {lv : List (Nat × Value)} {st : List Value} {M : Mem} {b : ByteArray} {ret : Option FieldType} {rm : Room} (h : OKm G b RX7 nL ret rm) {o : Nat} (hk : kd o = 4) (hd : decode b pc = .ok (.getfield 117, 3)) (k : GG G Q kc ks (pc + 3) lv (rv G.1 (o + 4) :: st) M) : GG G Q kc ks pc lv (rv G.1 o :: st) M :=
  g_get h inW5 rfl 4 (by decide) flX7_117 (kd_lt (by rw [hk]; decide)) (ent_4 hk) rfl hd k
theorem gfX7_118 {G : GX} {Q : State → Prop} {kc ks pc nL : Nat} {lv : List (Nat × Value)} {st : List Value} {M : Mem} {b : ByteArray} {ret : Option FieldType} {rm : Room} (h : OKm G b RX7 nL ret rm) {o : Nat} (hk : kd o = 2) (hd : decode b pc = .ok (.getfield 118, 3)) (k : GG G Q kc ks (pc + 3) lv (.int (gI M o 5) :: st) M) : GG G Q kc ks pc lv (rv G.1 o :: st) M :=
  g_get h inW3 rfl 5 (by decide) flX7_118 (kd_lt (by rw [hk]; decide)) (ent_2 hk) rfl hd k
theorem pfX7_118 {G : GX} {Q : State → Prop} {kc ks pc nL : Nat} {lv : List (Nat × Value)} {st : List Value} {M : Mem} {b : ByteArray} {ret : Option FieldType} {rm : Room} (h : OKm G b RX7 nL ret rm) {o : Nat} {x : Int32} (hk : kd o = 2) (hd : decode b pc = .ok (.putfield 118, 3)) (k : GG G Q kc ks (pc + 3) lv st (sI M o 5 x)) : GG G Q kc ks pc lv (.int x :: rv G.1 o :: st) M := by
  refine g_put h inW3 rfl 5 (by decide) flX7_118 tyX3_ok nmX3 rfl (kd_lt (by rw [hk]; decide)) (ent_2 hk) (Nat.le_of_ble_eq_true rfl) ?_ (fun q hq => ent_aI hq) rfl rfl rfl hd k
  show ent G.1 (sI M o 5 x) o = _
  unfold sI
  rw [ent_aI_s]
  unfold entK
  rw [hk]
  rfl
theorem gfX7_121 {G : GX} {Q : State → Prop} {kc ks pc nL : Nat} {lv : List (Nat × Value)} {st : List Value} {M : Mem} {b : ByteArray} {ret : Option FieldType} {rm : Room} (h : OKm G b RX7 nL ret rm) {o : Nat} (hk : kd o = 2) (hd : decode b pc = .ok (.getfield 121, 3)) (k : GG G Q kc ks (pc + 3) lv (.int (gI M o 8) :: st) M) : GG G Q kc ks pc lv (rv G.1 o :: st) M :=
  g_get h inW3 rfl 8 (by decide) flX7_121 (kd_lt (by rw [hk]; decide)) (ent_2 hk) rfl hd k
theorem pfX7_121 {G : GX} {Q : State → Prop} {kc ks pc nL : Nat} {lv : List (Nat × Value)} {st : List Value} {M : Mem} {b : ByteArray} {ret : Option FieldType} {rm : Room} (h : OKm G b RX7 nL ret rm) {o : Nat} {x : Int32} (hk : kd o = 2) (hd : decode b pc = .ok (.putfield 121, 3)) (k : GG G Q kc ks (pc + 3) lv st (sI M o 8 x)) : GG G Q kc ks pc lv (.int x :: rv G.1 o :: st) M := by
  refine g_put h inW3 rfl 8 (by decide) flX7_121 tyX3_ok nmX3 rfl (kd_lt (by rw [hk]; decide)) (ent_2 hk) (Nat.le_of_ble_eq_true rfl) ?_ (fun q hq => ent_aI hq) rfl rfl rfl hd k
  show ent G.1 (sI M o 8 x) o = _
  unfold sI
  rw [ent_aI_s]
  unfold entK
  rw [hk]
  rfl
theorem gfX7_124 {G : GX} {Q : State → Prop} {kc ks pc nL : Nat} {lv : List (Nat × Value)} {st : List Value} {M : Mem} {b : ByteArray} {ret : Option FieldType} {rm : Room} (h : OKm G b RX7 nL ret rm) {o : Nat} (hk : kd o = 4) (hd : decode b pc = .ok (.getfield 124, 3)) (k : GG G Q kc ks (pc + 3) lv (rv G.1 (o + 15) :: st) M) : GG G Q kc ks pc lv (rv G.1 o :: st) M :=
  g_get h inW5 rfl 12 (by decide) flX7_124 (kd_lt (by rw [hk]; decide)) (ent_4 hk) rfl hd k
theorem gfX7_132 {G : GX} {Q : State → Prop} {kc ks pc nL : Nat} {lv : List (Nat × Value)} {st : List Value} {M : Mem} {b : ByteArray} {ret : Option FieldType} {rm : Room} (h : OKm G b RX7 nL ret rm) {o : Nat} (hk : kd o = 7) (hd : decode b pc = .ok (.getfield 132, 3)) (k : GG G Q kc ks (pc + 3) lv (.int (gI M o 3) :: st) M) : GG G Q kc ks pc lv (rv G.1 o :: st) M :=
  g_get h inW8 rfl 3 (by decide) flX7_132 (kd_lt (by rw [hk]; decide)) (ent_7 hk) rfl hd k
theorem pfX7_132 {G : GX} {Q : State → Prop} {kc ks pc nL : Nat} {lv : List (Nat × Value)} {st : List Value} {M : Mem} {b : ByteArray} {ret : Option FieldType} {rm : Room} (h : OKm G b RX7 nL ret rm) {o : Nat} {x : Int32} (hk : kd o = 7) (hz : x = 0 ∨ x = 1) (hd : decode b pc = .ok (.putfield 132, 3)) (k : GG G Q kc ks (pc + 3) lv st (sI M o 3 x)) : GG G Q kc ks pc lv (.int x :: rv G.1 o :: st) M := by
  refine g_put h inW8 rfl 3 (by decide) flX7_132 tyX8_ok nmX8 rfl (kd_lt (by rw [hk]; decide)) (ent_7 hk) (Nat.le_of_ble_eq_true rfl) ?_ (fun q hq => ent_aI hq) rfl (by rcases hz with rfl | rfl <;> rfl) (by rcases hz with rfl | rfl <;> rfl) hd k
  show ent G.1 (sI M o 3 x) o = _
  unfold sI
  rw [ent_aI_s]
  unfold entK
  rw [hk]
  rfl
theorem gfX7_146 {G : GX} {Q : State → Prop} {kc ks pc nL : Nat} {lv : List (Nat × Value)} {st : List Value} {M : Mem} {b : ByteArray} {ret : Option FieldType} {rm : Room} (h : OKm G b RX7 nL ret rm) {o : Nat} (hk : kd o = 2) (hd : decode b pc = .ok (.getfield 146, 3)) (k : GG G Q kc ks (pc + 3) lv (.int (gI M o 7) :: st) M) : GG G Q kc ks pc lv (rv G.1 o :: st) M :=
  g_get h inW3 rfl 7 (by decide) flX7_146 (kd_lt (by rw [hk]; decide)) (ent_2 hk) rfl hd k
theorem pfX7_146 {G : GX} {Q : State → Prop} {kc ks pc nL : Nat} {lv : List (Nat × Value)} {st : List Value} {M : Mem} {b : ByteArray} {ret : Option FieldType} {rm : Room} (h : OKm G b RX7 nL ret rm) {o : Nat} {x : Int32} (hk : kd o = 2) (hd : decode b pc = .ok (.putfield 146, 3)) (k : GG G Q kc ks (pc + 3) lv st (sI M o 7 x)) : GG G Q kc ks pc lv (.int x :: rv G.1 o :: st) M := by
  refine g_put h inW3 rfl 7 (by decide) flX7_146 tyX3_ok nmX3 rfl (kd_lt (by rw [hk]; decide)) (ent_2 hk) (Nat.le_of_ble_eq_true rfl) ?_ (fun q hq => ent_aI hq) rfl rfl rfl hd k
  show ent G.1 (sI M o 7 x) o = _
  unfold sI
  rw [ent_aI_s]
  unfold entK
  rw [hk]
  rfl
theorem gfX7_152 {G : GX} {Q : State → Prop} {kc ks pc nL : Nat} {lv : List (Nat × Value)} {st : List Value} {M : Mem} {b : ByteArray} {ret : Option FieldType} {rm : Room} (h : OKm G b RX7 nL ret rm) {o : Nat} (hk : kd o = 4) (hd : decode b pc = .ok (.getfield 152, 3)) (k : GG G Q kc ks (pc + 3) lv (.int (gI M o 8) :: st) M) : GG G Q kc ks pc lv (rv G.1 o :: st) M :=
  g_get h inW5 rfl 8 (by decide) flX7_152 (kd_lt (by rw [hk]; decide)) (ent_4 hk) rfl hd k
theorem pfX7_152 {G : GX} {Q : State → Prop} {kc ks pc nL : Nat} {lv : List (Nat × Value)} {st : List Value} {M : Mem} {b : ByteArray} {ret : Option FieldType} {rm : Room} (h : OKm G b RX7 nL ret rm) {o : Nat} {x : Int32} (hk : kd o = 4) (hd : decode b pc = .ok (.putfield 152, 3)) (k : GG G Q kc ks (pc + 3) lv st (sI M o 8 x)) : GG G Q kc ks pc lv (.int x :: rv G.1 o :: st) M := by
  refine g_put h inW5 rfl 8 (by decide) flX7_152 tyX5_ok nmX5 rfl (kd_lt (by rw [hk]; decide)) (ent_4 hk) (Nat.le_of_ble_eq_true rfl) ?_ (fun q hq => ent_aI hq) rfl rfl rfl hd k
  show ent G.1 (sI M o 8 x) o = _
  unfold sI
  rw [ent_aI_s]
  unfold entK
  rw [hk]
  rfl
theorem gfX7_155 {G : GX} {Q : State → Prop} {kc ks pc nL : Nat} {lv : List (Nat × Value)} {st : List Value} {M : Mem} {b : ByteArray} {ret : Option FieldType} {rm : Room} (h : OKm G b RX7 nL ret rm) {o : Nat} (hk : kd o = 4) (hd : decode b pc = .ok (.getfield 155, 3)) (k : GG G Q kc ks (pc + 3) lv (rv G.1 (o + 16) :: st) M) : GG G Q kc ks pc lv (rv G.1 o :: st) M :=
  g_get h inW5 rfl 13 (by decide) flX7_155 (kd_lt (by rw [hk]; decide)) (ent_4 hk) rfl hd k
theorem gfX7_162 {G : GX} {Q : State → Prop} {kc ks pc nL : Nat} {lv : List (Nat × Value)} {st : List Value} {M : Mem} {b : ByteArray} {ret : Option FieldType} {rm : Room} (h : OKm G b RX7 nL ret rm) {o : Nat} (hk : kd o = 2) (hd : decode b pc = .ok (.getfield 162, 3)) (k : GG G Q kc ks (pc + 3) lv (rv G.1 (o + 4) :: st) M) : GG G Q kc ks pc lv (rv G.1 o :: st) M :=
  g_get h inW3 rfl 12 (by decide) flX7_162 (kd_lt (by rw [hk]; decide)) (ent_2 hk) rfl hd k
theorem gfX7_165 {G : GX} {Q : State → Prop} {kc ks pc nL : Nat} {lv : List (Nat × Value)} {st : List Value} {M : Mem} {b : ByteArray} {ret : Option FieldType} {rm : Room} (h : OKm G b RX7 nL ret rm) {o : Nat} (hk : kd o = 4) (hd : decode b pc = .ok (.getfield 165, 3)) (k : GG G Q kc ks (pc + 3) lv (rv G.1 (o + 7) :: st) M) : GG G Q kc ks pc lv (rv G.1 o :: st) M :=
  g_get h inW5 rfl 9 (by decide) flX7_165 (kd_lt (by rw [hk]; decide)) (ent_4 hk) rfl hd k
theorem gfX8_7 {G : GX} {Q : State → Prop} {kc ks pc nL : Nat} {lv : List (Nat × Value)} {st : List Value} {M : Mem} {b : ByteArray} {ret : Option FieldType} {rm : Room} (h : OKm G b RX8 nL ret rm) {o : Nat} (hk : kd o = 7) (hd : decode b pc = .ok (.getfield 7, 3)) (k : GG G Q kc ks (pc + 3) lv (.int (gI M o 1) :: st) M) : GG G Q kc ks pc lv (rv G.1 o :: st) M :=
  g_get h inW8 rfl 1 (by decide) flX8_7 (kd_lt (by rw [hk]; decide)) (ent_7 hk) rfl hd k
theorem pfX8_7 {G : GX} {Q : State → Prop} {kc ks pc nL : Nat} {lv : List (Nat × Value)} {st : List Value} {M : Mem} {b : ByteArray} {ret : Option FieldType} {rm : Room} (h : OKm G b RX8 nL ret rm) {o : Nat} {x : Int32} (hk : kd o = 7) (hd : decode b pc = .ok (.putfield 7, 3)) (k : GG G Q kc ks (pc + 3) lv st (sI M o 1 x)) : GG G Q kc ks pc lv (.int x :: rv G.1 o :: st) M := by
  refine g_put h inW8 rfl 1 (by decide) flX8_7 tyX8_ok nmX8 rfl (kd_lt (by rw [hk]; decide)) (ent_7 hk) (Nat.le_of_ble_eq_true rfl) ?_ (fun q hq => ent_aI hq) rfl rfl rfl hd k
  show ent G.1 (sI M o 1 x) o = _
  unfold sI
  rw [ent_aI_s]
  unfold entK
  rw [hk]
  rfl
theorem gfX8_13 {G : GX} {Q : State → Prop} {kc ks pc nL : Nat} {lv : List (Nat × Value)} {st : List Value} {M : Mem} {b : ByteArray} {ret : Option FieldType} {rm : Room} (h : OKm G b RX8 nL ret rm) {o : Nat} (hk : kd o = 7) (hd : decode b pc = .ok (.getfield 13, 3)) (k : GG G Q kc ks (pc + 3) lv (.int (gI M o 2) :: st) M) : GG G Q kc ks pc lv (rv G.1 o :: st) M :=
  g_get h inW8 rfl 2 (by decide) flX8_13 (kd_lt (by rw [hk]; decide)) (ent_7 hk) rfl hd k
theorem pfX8_13 {G : GX} {Q : State → Prop} {kc ks pc nL : Nat} {lv : List (Nat × Value)} {st : List Value} {M : Mem} {b : ByteArray} {ret : Option FieldType} {rm : Room} (h : OKm G b RX8 nL ret rm) {o : Nat} {x : Int32} (hk : kd o = 7) (hd : decode b pc = .ok (.putfield 13, 3)) (k : GG G Q kc ks (pc + 3) lv st (sI M o 2 x)) : GG G Q kc ks pc lv (.int x :: rv G.1 o :: st) M := by
  refine g_put h inW8 rfl 2 (by decide) flX8_13 tyX8_ok nmX8 rfl (kd_lt (by rw [hk]; decide)) (ent_7 hk) (Nat.le_of_ble_eq_true rfl) ?_ (fun q hq => ent_aI hq) rfl rfl rfl hd k
  show ent G.1 (sI M o 2 x) o = _
  unfold sI
  rw [ent_aI_s]
  unfold entK
  rw [hk]
  rfl
theorem gfX8_16 {G : GX} {Q : State → Prop} {kc ks pc nL : Nat} {lv : List (Nat × Value)} {st : List Value} {M : Mem} {b : ByteArray} {ret : Option FieldType} {rm : Room} (h : OKm G b RX8 nL ret rm) {o : Nat} (hk : kd o = 7) (hd : decode b pc = .ok (.getfield 16, 3)) (k : GG G Q kc ks (pc + 3) lv (.int (gI M o 3) :: st) M) : GG G Q kc ks pc lv (rv G.1 o :: st) M :=
  g_get h inW8 rfl 3 (by decide) flX8_16 (kd_lt (by rw [hk]; decide)) (ent_7 hk) rfl hd k
theorem pfX8_16 {G : GX} {Q : State → Prop} {kc ks pc nL : Nat} {lv : List (Nat × Value)} {st : List Value} {M : Mem} {b : ByteArray} {ret : Option FieldType} {rm : Room} (h : OKm G b RX8 nL ret rm) {o : Nat} {x : Int32} (hk : kd o = 7) (hz : x = 0 ∨ x = 1) (hd : decode b pc = .ok (.putfield 16, 3)) (k : GG G Q kc ks (pc + 3) lv st (sI M o 3 x)) : GG G Q kc ks pc lv (.int x :: rv G.1 o :: st) M := by
  refine g_put h inW8 rfl 3 (by decide) flX8_16 tyX8_ok nmX8 rfl (kd_lt (by rw [hk]; decide)) (ent_7 hk) (Nat.le_of_ble_eq_true rfl) ?_ (fun q hq => ent_aI hq) rfl (by rcases hz with rfl | rfl <;> rfl) (by rcases hz with rfl | rfl <;> rfl) hd k
  show ent G.1 (sI M o 3 x) o = _
  unfold sI
  rw [ent_aI_s]
  unfold entK
  rw [hk]
  rfl
theorem gfX8_20 {G : GX} {Q : State → Prop} {kc ks pc nL : Nat} {lv : List (Nat × Value)} {st : List Value} {M : Mem} {b : ByteArray} {ret : Option FieldType} {rm : Room} (h : OKm G b RX8 nL ret rm) {o : Nat} (hk : kd o = 7) (hd : decode b pc = .ok (.getfield 20, 3)) (k : GG G Q kc ks (pc + 3) lv (rv G.1 (rcT o) :: st) M) : GG G Q kc ks pc lv (rv G.1 o :: st) M :=
  g_get h inW8 rfl 0 (by decide) flX8_20 (kd_lt (by rw [hk]; decide)) (ent_7 hk) rfl hd k
theorem gfX9_9 {G : GX} {Q : State → Prop} {kc ks pc nL : Nat} {lv : List (Nat × Value)} {st : List Value} {M : Mem} {b : ByteArray} {ret : Option FieldType} {rm : Room} (h : OKm G b RX9 nL ret rm) {o : Nat} (hk : kd o = 8) (hd : decode b pc = .ok (.getfield 9, 3)) (k : GG G Q kc ks (pc + 3) lv (.int (gI M o 0) :: st) M) : GG G Q kc ks pc lv (rv G.1 o :: st) M :=
  g_get h inW9 rfl 0 (by decide) flX9_9 (kd_lt (by rw [hk]; decide)) (ent_8 hk) rfl hd k
theorem pfX9_9 {G : GX} {Q : State → Prop} {kc ks pc nL : Nat} {lv : List (Nat × Value)} {st : List Value} {M : Mem} {b : ByteArray} {ret : Option FieldType} {rm : Room} (h : OKm G b RX9 nL ret rm) {o : Nat} {x : Int32} (hk : kd o = 8) (hd : decode b pc = .ok (.putfield 9, 3)) (k : GG G Q kc ks (pc + 3) lv st (sI M o 0 x)) : GG G Q kc ks pc lv (.int x :: rv G.1 o :: st) M := by
  refine g_put h inW9 rfl 0 (by decide) flX9_9 tyX9_ok nmX9 rfl (kd_lt (by rw [hk]; decide)) (ent_8 hk) (Nat.le_of_ble_eq_true rfl) ?_ (fun q hq => ent_aI hq) rfl rfl rfl hd k
  show ent G.1 (sI M o 0 x) o = _
  unfold sI
  rw [ent_aI_s]
  unfold entK
  rw [hk]
  rfl
theorem gfX9_15 {G : GX} {Q : State → Prop} {kc ks pc nL : Nat} {lv : List (Nat × Value)} {st : List Value} {M : Mem} {b : ByteArray} {ret : Option FieldType} {rm : Room} (h : OKm G b RX9 nL ret rm) {o : Nat} (hk : kd o = 8) (hd : decode b pc = .ok (.getfield 15, 3)) (k : GG G Q kc ks (pc + 3) lv (rv G.1 (o + 1) :: st) M) : GG G Q kc ks pc lv (rv G.1 o :: st) M :=
  g_get h inW9 rfl 1 (by decide) flX9_15 (kd_lt (by rw [hk]; decide)) (ent_8 hk) rfl hd k
theorem gfX9_19 {G : GX} {Q : State → Prop} {kc ks pc nL : Nat} {lv : List (Nat × Value)} {st : List Value} {M : Mem} {b : ByteArray} {ret : Option FieldType} {rm : Room} (h : OKm G b RX9 nL ret rm) {o : Nat} (hk : kd o = 8) (hd : decode b pc = .ok (.getfield 19, 3)) (k : GG G Q kc ks (pc + 3) lv (rv G.1 (o + 2) :: st) M) : GG G Q kc ks pc lv (rv G.1 o :: st) M :=
  g_get h inW9 rfl 2 (by decide) flX9_19 (kd_lt (by rw [hk]; decide)) (ent_8 hk) rfl hd k
theorem gfX10_7 {G : GX} {Q : State → Prop} {kc ks pc nL : Nat} {lv : List (Nat × Value)} {st : List Value} {M : Mem} {b : ByteArray} {ret : Option FieldType} {rm : Room} (h : OKm G b RX10 nL ret rm) {o : Nat} (hk : kd o = 9) (hd : decode b pc = .ok (.getfield 7, 3)) (k : GG G Q kc ks (pc + 3) lv (.int (gI M o 1) :: st) M) : GG G Q kc ks pc lv (rv G.1 o :: st) M :=
  g_get h inW10 rfl 1 (by decide) flX10_7 (kd_lt (by rw [hk]; decide)) (ent_9 hk) rfl hd k
theorem pfX10_7 {G : GX} {Q : State → Prop} {kc ks pc nL : Nat} {lv : List (Nat × Value)} {st : List Value} {M : Mem} {b : ByteArray} {ret : Option FieldType} {rm : Room} (h : OKm G b RX10 nL ret rm) {o : Nat} {x : Int32} (hk : kd o = 9) (hd : decode b pc = .ok (.putfield 7, 3)) (k : GG G Q kc ks (pc + 3) lv st (sI M o 1 x)) : GG G Q kc ks pc lv (.int x :: rv G.1 o :: st) M := by
  refine g_put h inW10 rfl 1 (by decide) flX10_7 tyX10_ok nmX10 rfl (kd_lt (by rw [hk]; decide)) (ent_9 hk) (Nat.le_of_ble_eq_true rfl) ?_ (fun q hq => ent_aI hq) rfl rfl rfl hd k
  show ent G.1 (sI M o 1 x) o = _
  unfold sI
  rw [ent_aI_s]
  unfold entK
  rw [hk]
  rfl
theorem gfX10_13 {G : GX} {Q : State → Prop} {kc ks pc nL : Nat} {lv : List (Nat × Value)} {st : List Value} {M : Mem} {b : ByteArray} {ret : Option FieldType} {rm : Room} (h : OKm G b RX10 nL ret rm) {o : Nat} (hk : kd o = 9) (hd : decode b pc = .ok (.getfield 13, 3)) (k : GG G Q kc ks (pc + 3) lv (.int (gI M o 2) :: st) M) : GG G Q kc ks pc lv (rv G.1 o :: st) M :=
  g_get h inW10 rfl 2 (by decide) flX10_13 (kd_lt (by rw [hk]; decide)) (ent_9 hk) rfl hd k
theorem pfX10_13 {G : GX} {Q : State → Prop} {kc ks pc nL : Nat} {lv : List (Nat × Value)} {st : List Value} {M : Mem} {b : ByteArray} {ret : Option FieldType} {rm : Room} (h : OKm G b RX10 nL ret rm) {o : Nat} {x : Int32} (hk : kd o = 9) (hd : decode b pc = .ok (.putfield 13, 3)) (k : GG G Q kc ks (pc + 3) lv st (sI M o 2 x)) : GG G Q kc ks pc lv (.int x :: rv G.1 o :: st) M := by
  refine g_put h inW10 rfl 2 (by decide) flX10_13 tyX10_ok nmX10 rfl (kd_lt (by rw [hk]; decide)) (ent_9 hk) (Nat.le_of_ble_eq_true rfl) ?_ (fun q hq => ent_aI hq) rfl rfl rfl hd k
  show ent G.1 (sI M o 2 x) o = _
  unfold sI
  rw [ent_aI_s]
  unfold entK
  rw [hk]
  rfl
theorem gfX10_16 {G : GX} {Q : State → Prop} {kc ks pc nL : Nat} {lv : List (Nat × Value)} {st : List Value} {M : Mem} {b : ByteArray} {ret : Option FieldType} {rm : Room} (h : OKm G b RX10 nL ret rm) {o : Nat} (hk : kd o = 9) (hd : decode b pc = .ok (.getfield 16, 3)) (k : GG G Q kc ks (pc + 3) lv (.int (gI M o 3) :: st) M) : GG G Q kc ks pc lv (rv G.1 o :: st) M :=
  g_get h inW10 rfl 3 (by decide) flX10_16 (kd_lt (by rw [hk]; decide)) (ent_9 hk) rfl hd k
theorem pfX10_16 {G : GX} {Q : State → Prop} {kc ks pc nL : Nat} {lv : List (Nat × Value)} {st : List Value} {M : Mem} {b : ByteArray} {ret : Option FieldType} {rm : Room} (h : OKm G b RX10 nL ret rm) {o : Nat} {x : Int32} (hk : kd o = 9) (hd : decode b pc = .ok (.putfield 16, 3)) (k : GG G Q kc ks (pc + 3) lv st (sI M o 3 x)) : GG G Q kc ks pc lv (.int x :: rv G.1 o :: st) M := by
  refine g_put h inW10 rfl 3 (by decide) flX10_16 tyX10_ok nmX10 rfl (kd_lt (by rw [hk]; decide)) (ent_9 hk) (Nat.le_of_ble_eq_true rfl) ?_ (fun q hq => ent_aI hq) rfl rfl rfl hd k
  show ent G.1 (sI M o 3 x) o = _
  unfold sI
  rw [ent_aI_s]
  unfold entK
  rw [hk]
  rfl
theorem gfX10_19 {G : GX} {Q : State → Prop} {kc ks pc nL : Nat} {lv : List (Nat × Value)} {st : List Value} {M : Mem} {b : ByteArray} {ret : Option FieldType} {rm : Room} (h : OKm G b RX10 nL ret rm) {o : Nat} (hk : kd o = 9) (hd : decode b pc = .ok (.getfield 19, 3)) (k : GG G Q kc ks (pc + 3) lv (.int (gI M o 4) :: st) M) : GG G Q kc ks pc lv (rv G.1 o :: st) M :=
  g_get h inW10 rfl 4 (by decide) flX10_19 (kd_lt (by rw [hk]; decide)) (ent_9 hk) rfl hd k
theorem pfX10_19 {G : GX} {Q : State → Prop} {kc ks pc nL : Nat} {lv : List (Nat × Value)} {st : List Value} {M : Mem} {b : ByteArray} {ret : Option FieldType} {rm : Room} (h : OKm G b RX10 nL ret rm) {o : Nat} {x : Int32} (hk : kd o = 9) (hd : decode b pc = .ok (.putfield 19, 3)) (k : GG G Q kc ks (pc + 3) lv st (sI M o 4 x)) : GG G Q kc ks pc lv (.int x :: rv G.1 o :: st) M := by
  refine g_put h inW10 rfl 4 (by decide) flX10_19 tyX10_ok nmX10 rfl (kd_lt (by rw [hk]; decide)) (ent_9 hk) (Nat.le_of_ble_eq_true rfl) ?_ (fun q hq => ent_aI hq) rfl rfl rfl hd k
  show ent G.1 (sI M o 4 x) o = _
  unfold sI
  rw [ent_aI_s]
  unfold entK
  rw [hk]
  rfl
theorem gfX10_22 {G : GX} {Q : State → Prop} {kc ks pc nL : Nat} {lv : List (Nat × Value)} {st : List Value} {M : Mem} {b : ByteArray} {ret : Option FieldType} {rm : Room} (h : OKm G b RX10 nL ret rm) {o : Nat} (hk : kd o = 9) (hd : decode b pc = .ok (.getfield 22, 3)) (k : GG G Q kc ks (pc + 3) lv (.int (gI M o 5) :: st) M) : GG G Q kc ks pc lv (rv G.1 o :: st) M :=
  g_get h inW10 rfl 5 (by decide) flX10_22 (kd_lt (by rw [hk]; decide)) (ent_9 hk) rfl hd k
theorem pfX10_22 {G : GX} {Q : State → Prop} {kc ks pc nL : Nat} {lv : List (Nat × Value)} {st : List Value} {M : Mem} {b : ByteArray} {ret : Option FieldType} {rm : Room} (h : OKm G b RX10 nL ret rm) {o : Nat} {x : Int32} (hk : kd o = 9) (hd : decode b pc = .ok (.putfield 22, 3)) (k : GG G Q kc ks (pc + 3) lv st (sI M o 5 x)) : GG G Q kc ks pc lv (.int x :: rv G.1 o :: st) M := by
  refine g_put h inW10 rfl 5 (by decide) flX10_22 tyX10_ok nmX10 rfl (kd_lt (by rw [hk]; decide)) (ent_9 hk) (Nat.le_of_ble_eq_true rfl) ?_ (fun q hq => ent_aI hq) rfl rfl rfl hd k
  show ent G.1 (sI M o 5 x) o = _
  unfold sI
  rw [ent_aI_s]
  unfold entK
  rw [hk]
  rfl
theorem gfX10_31 {G : GX} {Q : State → Prop} {kc ks pc nL : Nat} {lv : List (Nat × Value)} {st : List Value} {M : Mem} {b : ByteArray} {ret : Option FieldType} {rm : Room} (h : OKm G b RX10 nL ret rm) {o : Nat} (hk : kd o = 9) (hd : decode b pc = .ok (.getfield 31, 3)) (k : GG G Q kc ks (pc + 3) lv (rv G.1 (gR M o 6) :: st) M) : GG G Q kc ks pc lv (rv G.1 o :: st) M :=
  g_get h inW10 rfl 6 (by decide) flX10_31 (kd_lt (by rw [hk]; decide)) (ent_9 hk) rfl hd k
theorem pfX10_31 {G : GX} {Q : State → Prop} {kc ks pc nL : Nat} {lv : List (Nat × Value)} {st : List Value} {M : Mem} {b : ByteArray} {ret : Option FieldType} {rm : Room} (h : OKm G b RX10 nL ret rm) {o : Nat} {x : Nat} (hk : kd o = 9) (hd : decode b pc = .ok (.putfield 31, 3)) (k : GG G Q kc ks (pc + 3) lv st (sR M o 6 x)) : GG G Q kc ks pc lv (rv G.1 x :: rv G.1 o :: st) M := by
  refine g_put h inW10 rfl 6 (by decide) flX10_31 tyX10_ok nmX10 rfl (kd_lt (by rw [hk]; decide)) (ent_9 hk) (Nat.le_of_ble_eq_true rfl) ?_ (fun q hq => ent_aR hq) rfl rfl rfl hd k
  show ent G.1 (sR M o 6 x) o = _
  unfold sR
  rw [ent_aR_s]
  unfold entK
  rw [hk]
  rfl
theorem gfX10_34 {G : GX} {Q : State → Prop} {kc ks pc nL : Nat} {lv : List (Nat × Value)} {st : List Value} {M : Mem} {b : ByteArray} {ret : Option FieldType} {rm : Room} (h : OKm G b RX10 nL ret rm) {o : Nat} (hk : kd o = 9) (hd : decode b pc = .ok (.getfield 34, 3)) (k : GG G Q kc ks (pc + 3) lv (rv G.1 1 :: st) M) : GG G Q kc ks pc lv (rv G.1 o :: st) M :=
  g_get h inW10 rfl 0 (by decide) flX10_34 (kd_lt (by rw [hk]; decide)) (ent_9 hk) rfl hd k
theorem gfX13_9 {G : GX} {Q : State → Prop} {kc ks pc nL : Nat} {lv : List (Nat × Value)} {st : List Value} {M : Mem} {b : ByteArray} {ret : Option FieldType} {rm : Room} (h : OKm G b RX13 nL ret rm) {o : Nat} (hk : kd o = 11) (hd : decode b pc = .ok (.getfield 9, 3)) (k : GG G Q kc ks (pc + 3) lv (.int (gI M o 6) :: st) M) : GG G Q kc ks pc lv (rv G.1 o :: st) M :=
  g_get h inW13 rfl 6 (by decide) flX13_9 (kd_lt (by rw [hk]; decide)) (ent_11 hk) rfl hd k
theorem pfX13_9 {G : GX} {Q : State → Prop} {kc ks pc nL : Nat} {lv : List (Nat × Value)} {st : List Value} {M : Mem} {b : ByteArray} {ret : Option FieldType} {rm : Room} (h : OKm G b RX13 nL ret rm) {o : Nat} {x : Int32} (hk : kd o = 11) (hd : decode b pc = .ok (.putfield 9, 3)) (k : GG G Q kc ks (pc + 3) lv st (sI M o 6 x)) : GG G Q kc ks pc lv (.int x :: rv G.1 o :: st) M := by
  refine g_put h inW13 rfl 6 (by decide) flX13_9 tyX13_ok nmX13 rfl (kd_lt (by rw [hk]; decide)) (ent_11 hk) (Nat.le_of_ble_eq_true rfl) ?_ (fun q hq => ent_aI hq) rfl rfl rfl hd k
  show ent G.1 (sI M o 6 x) o = _
  unfold sI
  rw [ent_aI_s]
  unfold entK
  rw [hk]
  rfl
theorem gfX13_13 {G : GX} {Q : State → Prop} {kc ks pc nL : Nat} {lv : List (Nat × Value)} {st : List Value} {M : Mem} {b : ByteArray} {ret : Option FieldType} {rm : Room} (h : OKm G b RX13 nL ret rm) {o : Nat} (hk : kd o = 11) (hd : decode b pc = .ok (.getfield 13, 3)) (k : GG G Q kc ks (pc + 3) lv (.int (gI M o 7) :: st) M) : GG G Q kc ks pc lv (rv G.1 o :: st) M :=
  g_get h inW13 rfl 7 (by decide) flX13_13 (kd_lt (by rw [hk]; decide)) (ent_11 hk) rfl hd k
theorem pfX13_13 {G : GX} {Q : State → Prop} {kc ks pc nL : Nat} {lv : List (Nat × Value)} {st : List Value} {M : Mem} {b : ByteArray} {ret : Option FieldType} {rm : Room} (h : OKm G b RX13 nL ret rm) {o : Nat} {x : Int32} (hk : kd o = 11) (hd : decode b pc = .ok (.putfield 13, 3)) (k : GG G Q kc ks (pc + 3) lv st (sI M o 7 x)) : GG G Q kc ks pc lv (.int x :: rv G.1 o :: st) M := by
  refine g_put h inW13 rfl 7 (by decide) flX13_13 tyX13_ok nmX13 rfl (kd_lt (by rw [hk]; decide)) (ent_11 hk) (Nat.le_of_ble_eq_true rfl) ?_ (fun q hq => ent_aI hq) rfl rfl rfl hd k
  show ent G.1 (sI M o 7 x) o = _
  unfold sI
  rw [ent_aI_s]
  unfold entK
  rw [hk]
  rfl
theorem gfX13_16 {G : GX} {Q : State → Prop} {kc ks pc nL : Nat} {lv : List (Nat × Value)} {st : List Value} {M : Mem} {b : ByteArray} {ret : Option FieldType} {rm : Room} (h : OKm G b RX13 nL ret rm) {o : Nat} (hk : kd o = 11) (hd : decode b pc = .ok (.getfield 16, 3)) (k : GG G Q kc ks (pc + 3) lv (rv G.1 104 :: st) M) : GG G Q kc ks pc lv (rv G.1 o :: st) M :=
  g_get h inW13 rfl 8 (by decide) flX13_16 (kd_lt (by rw [hk]; decide)) (ent_11 hk) rfl hd k
theorem gfX13_20 {G : GX} {Q : State → Prop} {kc ks pc nL : Nat} {lv : List (Nat × Value)} {st : List Value} {M : Mem} {b : ByteArray} {ret : Option FieldType} {rm : Room} (h : OKm G b RX13 nL ret rm) {o : Nat} (hk : kd o = 11) (hd : decode b pc = .ok (.getfield 20, 3)) (k : GG G Q kc ks (pc + 3) lv (rv G.1 105 :: st) M) : GG G Q kc ks pc lv (rv G.1 o :: st) M :=
  g_get h inW13 rfl 9 (by decide) flX13_20 (kd_lt (by rw [hk]; decide)) (ent_11 hk) rfl hd k
theorem gfX13_23 {G : GX} {Q : State → Prop} {kc ks pc nL : Nat} {lv : List (Nat × Value)} {st : List Value} {M : Mem} {b : ByteArray} {ret : Option FieldType} {rm : Room} (h : OKm G b RX13 nL ret rm) {o : Nat} (hk : kd o = 11) (hd : decode b pc = .ok (.getfield 23, 3)) (k : GG G Q kc ks (pc + 3) lv (rv G.1 106 :: st) M) : GG G Q kc ks pc lv (rv G.1 o :: st) M :=
  g_get h inW13 rfl 10 (by decide) flX13_23 (kd_lt (by rw [hk]; decide)) (ent_11 hk) rfl hd k
theorem gfX13_26 {G : GX} {Q : State → Prop} {kc ks pc nL : Nat} {lv : List (Nat × Value)} {st : List Value} {M : Mem} {b : ByteArray} {ret : Option FieldType} {rm : Room} (h : OKm G b RX13 nL ret rm) {o : Nat} (hk : kd o = 11) (hd : decode b pc = .ok (.getfield 26, 3)) (k : GG G Q kc ks (pc + 3) lv (rv G.1 107 :: st) M) : GG G Q kc ks pc lv (rv G.1 o :: st) M :=
  g_get h inW13 rfl 11 (by decide) flX13_26 (kd_lt (by rw [hk]; decide)) (ent_11 hk) rfl hd k
theorem gfX13_29 {G : GX} {Q : State → Prop} {kc ks pc nL : Nat} {lv : List (Nat × Value)} {st : List Value} {M : Mem} {b : ByteArray} {ret : Option FieldType} {rm : Room} (h : OKm G b RX13 nL ret rm) {o : Nat} (hk : kd o = 11) (hd : decode b pc = .ok (.getfield 29, 3)) (k : GG G Q kc ks (pc + 3) lv (rv G.1 108 :: st) M) : GG G Q kc ks pc lv (rv G.1 o :: st) M :=
  g_get h inW13 rfl 12 (by decide) flX13_29 (kd_lt (by rw [hk]; decide)) (ent_11 hk) rfl hd k
theorem gfX13_32 {G : GX} {Q : State → Prop} {kc ks pc nL : Nat} {lv : List (Nat × Value)} {st : List Value} {M : Mem} {b : ByteArray} {ret : Option FieldType} {rm : Room} (h : OKm G b RX13 nL ret rm) {o : Nat} (hk : kd o = 11) (hd : decode b pc = .ok (.getfield 32, 3)) (k : GG G Q kc ks (pc + 3) lv (rv G.1 109 :: st) M) : GG G Q kc ks pc lv (rv G.1 o :: st) M :=
  g_get h inW13 rfl 13 (by decide) flX13_32 (kd_lt (by rw [hk]; decide)) (ent_11 hk) rfl hd k
theorem gfX13_35 {G : GX} {Q : State → Prop} {kc ks pc nL : Nat} {lv : List (Nat × Value)} {st : List Value} {M : Mem} {b : ByteArray} {ret : Option FieldType} {rm : Room} (h : OKm G b RX13 nL ret rm) {o : Nat} (hk : kd o = 11) (hd : decode b pc = .ok (.getfield 35, 3)) (k : GG G Q kc ks (pc + 3) lv (rv G.1 110 :: st) M) : GG G Q kc ks pc lv (rv G.1 o :: st) M :=
  g_get h inW13 rfl 14 (by decide) flX13_35 (kd_lt (by rw [hk]; decide)) (ent_11 hk) rfl hd k
theorem gfX13_38 {G : GX} {Q : State → Prop} {kc ks pc nL : Nat} {lv : List (Nat × Value)} {st : List Value} {M : Mem} {b : ByteArray} {ret : Option FieldType} {rm : Room} (h : OKm G b RX13 nL ret rm) {o : Nat} (hk : kd o = 11) (hd : decode b pc = .ok (.getfield 38, 3)) (k : GG G Q kc ks (pc + 3) lv (rv G.1 111 :: st) M) : GG G Q kc ks pc lv (rv G.1 o :: st) M :=
  g_get h inW13 rfl 15 (by decide) flX13_38 (kd_lt (by rw [hk]; decide)) (ent_11 hk) rfl hd k
theorem gfX13_41 {G : GX} {Q : State → Prop} {kc ks pc nL : Nat} {lv : List (Nat × Value)} {st : List Value} {M : Mem} {b : ByteArray} {ret : Option FieldType} {rm : Room} (h : OKm G b RX13 nL ret rm) {o : Nat} (hk : kd o = 11) (hd : decode b pc = .ok (.getfield 41, 3)) (k : GG G Q kc ks (pc + 3) lv (rv G.1 112 :: st) M) : GG G Q kc ks pc lv (rv G.1 o :: st) M :=
  g_get h inW13 rfl 16 (by decide) flX13_41 (kd_lt (by rw [hk]; decide)) (ent_11 hk) rfl hd k
theorem gfX13_44 {G : GX} {Q : State → Prop} {kc ks pc nL : Nat} {lv : List (Nat × Value)} {st : List Value} {M : Mem} {b : ByteArray} {ret : Option FieldType} {rm : Room} (h : OKm G b RX13 nL ret rm) {o : Nat} (hk : kd o = 11) (hd : decode b pc = .ok (.getfield 44, 3)) (k : GG G Q kc ks (pc + 3) lv (rv G.1 113 :: st) M) : GG G Q kc ks pc lv (rv G.1 o :: st) M :=
  g_get h inW13 rfl 17 (by decide) flX13_44 (kd_lt (by rw [hk]; decide)) (ent_11 hk) rfl hd k
theorem gfX13_47 {G : GX} {Q : State → Prop} {kc ks pc nL : Nat} {lv : List (Nat × Value)} {st : List Value} {M : Mem} {b : ByteArray} {ret : Option FieldType} {rm : Room} (h : OKm G b RX13 nL ret rm) {o : Nat} (hk : kd o = 11) (hd : decode b pc = .ok (.getfield 47, 3)) (k : GG G Q kc ks (pc + 3) lv (rv G.1 114 :: st) M) : GG G Q kc ks pc lv (rv G.1 o :: st) M :=
  g_get h inW13 rfl 18 (by decide) flX13_47 (kd_lt (by rw [hk]; decide)) (ent_11 hk) rfl hd k
theorem gfX13_50 {G : GX} {Q : State → Prop} {kc ks pc nL : Nat} {lv : List (Nat × Value)} {st : List Value} {M : Mem} {b : ByteArray} {ret : Option FieldType} {rm : Room} (h : OKm G b RX13 nL ret rm) {o : Nat} (hk : kd o = 11) (hd : decode b pc = .ok (.getfield 50, 3)) (k : GG G Q kc ks (pc + 3) lv (rv G.1 115 :: st) M) : GG G Q kc ks pc lv (rv G.1 o :: st) M :=
  g_get h inW13 rfl 19 (by decide) flX13_50 (kd_lt (by rw [hk]; decide)) (ent_11 hk) rfl hd k
theorem gfX13_53 {G : GX} {Q : State → Prop} {kc ks pc nL : Nat} {lv : List (Nat × Value)} {st : List Value} {M : Mem} {b : ByteArray} {ret : Option FieldType} {rm : Room} (h : OKm G b RX13 nL ret rm) {o : Nat} (hk : kd o = 11) (hd : decode b pc = .ok (.getfield 53, 3)) (k : GG G Q kc ks (pc + 3) lv (rv G.1 116 :: st) M) : GG G Q kc ks pc lv (rv G.1 o :: st) M :=
  g_get h inW13 rfl 20 (by decide) flX13_53 (kd_lt (by rw [hk]; decide)) (ent_11 hk) rfl hd k
theorem gfX13_56 {G : GX} {Q : State → Prop} {kc ks pc nL : Nat} {lv : List (Nat × Value)} {st : List Value} {M : Mem} {b : ByteArray} {ret : Option FieldType} {rm : Room} (h : OKm G b RX13 nL ret rm) {o : Nat} (hk : kd o = 11) (hd : decode b pc = .ok (.getfield 56, 3)) (k : GG G Q kc ks (pc + 3) lv (.int (gI M o 23) :: st) M) : GG G Q kc ks pc lv (rv G.1 o :: st) M :=
  g_get h inW13 rfl 23 (by decide) flX13_56 (kd_lt (by rw [hk]; decide)) (ent_11 hk) rfl hd k
theorem pfX13_56 {G : GX} {Q : State → Prop} {kc ks pc nL : Nat} {lv : List (Nat × Value)} {st : List Value} {M : Mem} {b : ByteArray} {ret : Option FieldType} {rm : Room} (h : OKm G b RX13 nL ret rm) {o : Nat} {x : Int32} (hk : kd o = 11) (hd : decode b pc = .ok (.putfield 56, 3)) (k : GG G Q kc ks (pc + 3) lv st (sI M o 23 x)) : GG G Q kc ks pc lv (.int x :: rv G.1 o :: st) M := by
  refine g_put h inW13 rfl 23 (by decide) flX13_56 tyX13_ok nmX13 rfl (kd_lt (by rw [hk]; decide)) (ent_11 hk) (Nat.le_of_ble_eq_true rfl) ?_ (fun q hq => ent_aI hq) rfl rfl rfl hd k
  show ent G.1 (sI M o 23 x) o = _
  unfold sI
  rw [ent_aI_s]
  unfold entK
  rw [hk]
  rfl
theorem gfX13_59 {G : GX} {Q : State → Prop} {kc ks pc nL : Nat} {lv : List (Nat × Value)} {st : List Value} {M : Mem} {b : ByteArray} {ret : Option FieldType} {rm : Room} (h : OKm G b RX13 nL ret rm) {o : Nat} (hk : kd o = 11) (hd : decode b pc = .ok (.getfield 59, 3)) (k : GG G Q kc ks (pc + 3) lv (rv G.1 117 :: st) M) : GG G Q kc ks pc lv (rv G.1 o :: st) M :=
  g_get h inW13 rfl 24 (by decide) flX13_59 (kd_lt (by rw [hk]; decide)) (ent_11 hk) rfl hd k
theorem gfX13_62 {G : GX} {Q : State → Prop} {kc ks pc nL : Nat} {lv : List (Nat × Value)} {st : List Value} {M : Mem} {b : ByteArray} {ret : Option FieldType} {rm : Room} (h : OKm G b RX13 nL ret rm) {o : Nat} (hk : kd o = 11) (hd : decode b pc = .ok (.getfield 62, 3)) (k : GG G Q kc ks (pc + 3) lv (rv G.1 118 :: st) M) : GG G Q kc ks pc lv (rv G.1 o :: st) M :=
  g_get h inW13 rfl 47 (by decide) flX13_62 (kd_lt (by rw [hk]; decide)) (ent_11 hk) rfl hd k
theorem gfX13_65 {G : GX} {Q : State → Prop} {kc ks pc nL : Nat} {lv : List (Nat × Value)} {st : List Value} {M : Mem} {b : ByteArray} {ret : Option FieldType} {rm : Room} (h : OKm G b RX13 nL ret rm) {o : Nat} (hk : kd o = 11) (hd : decode b pc = .ok (.getfield 65, 3)) (k : GG G Q kc ks (pc + 3) lv (rv G.1 119 :: st) M) : GG G Q kc ks pc lv (rv G.1 o :: st) M :=
  g_get h inW13 rfl 48 (by decide) flX13_65 (kd_lt (by rw [hk]; decide)) (ent_11 hk) rfl hd k
theorem gfX13_68 {G : GX} {Q : State → Prop} {kc ks pc nL : Nat} {lv : List (Nat × Value)} {st : List Value} {M : Mem} {b : ByteArray} {ret : Option FieldType} {rm : Room} (h : OKm G b RX13 nL ret rm) {o : Nat} (hk : kd o = 11) (hd : decode b pc = .ok (.getfield 68, 3)) (k : GG G Q kc ks (pc + 3) lv (rv G.1 120 :: st) M) : GG G Q kc ks pc lv (rv G.1 o :: st) M :=
  g_get h inW13 rfl 49 (by decide) flX13_68 (kd_lt (by rw [hk]; decide)) (ent_11 hk) rfl hd k
theorem gfX13_71 {G : GX} {Q : State → Prop} {kc ks pc nL : Nat} {lv : List (Nat × Value)} {st : List Value} {M : Mem} {b : ByteArray} {ret : Option FieldType} {rm : Room} (h : OKm G b RX13 nL ret rm) {o : Nat} (hk : kd o = 11) (hd : decode b pc = .ok (.getfield 71, 3)) (k : GG G Q kc ks (pc + 3) lv (rv G.1 121 :: st) M) : GG G Q kc ks pc lv (rv G.1 o :: st) M :=
  g_get h inW13 rfl 50 (by decide) flX13_71 (kd_lt (by rw [hk]; decide)) (ent_11 hk) rfl hd k
theorem gfX13_74 {G : GX} {Q : State → Prop} {kc ks pc nL : Nat} {lv : List (Nat × Value)} {st : List Value} {M : Mem} {b : ByteArray} {ret : Option FieldType} {rm : Room} (h : OKm G b RX13 nL ret rm) {o : Nat} (hk : kd o = 11) (hd : decode b pc = .ok (.getfield 74, 3)) (k : GG G Q kc ks (pc + 3) lv (rv G.1 122 :: st) M) : GG G Q kc ks pc lv (rv G.1 o :: st) M :=
  g_get h inW13 rfl 51 (by decide) flX13_74 (kd_lt (by rw [hk]; decide)) (ent_11 hk) rfl hd k
theorem gfX13_77 {G : GX} {Q : State → Prop} {kc ks pc nL : Nat} {lv : List (Nat × Value)} {st : List Value} {M : Mem} {b : ByteArray} {ret : Option FieldType} {rm : Room} (h : OKm G b RX13 nL ret rm) {o : Nat} (hk : kd o = 11) (hd : decode b pc = .ok (.getfield 77, 3)) (k : GG G Q kc ks (pc + 3) lv (rv G.1 123 :: st) M) : GG G Q kc ks pc lv (rv G.1 o :: st) M :=
  g_get h inW13 rfl 52 (by decide) flX13_77 (kd_lt (by rw [hk]; decide)) (ent_11 hk) rfl hd k
theorem gfX13_80 {G : GX} {Q : State → Prop} {kc ks pc nL : Nat} {lv : List (Nat × Value)} {st : List Value} {M : Mem} {b : ByteArray} {ret : Option FieldType} {rm : Room} (h : OKm G b RX13 nL ret rm) {o : Nat} (hk : kd o = 11) (hd : decode b pc = .ok (.getfield 80, 3)) (k : GG G Q kc ks (pc + 3) lv (rv G.1 124 :: st) M) : GG G Q kc ks pc lv (rv G.1 o :: st) M :=
  g_get h inW13 rfl 53 (by decide) flX13_80 (kd_lt (by rw [hk]; decide)) (ent_11 hk) rfl hd k
theorem gfX13_83 {G : GX} {Q : State → Prop} {kc ks pc nL : Nat} {lv : List (Nat × Value)} {st : List Value} {M : Mem} {b : ByteArray} {ret : Option FieldType} {rm : Room} (h : OKm G b RX13 nL ret rm) {o : Nat} (hk : kd o = 11) (hd : decode b pc = .ok (.getfield 83, 3)) (k : GG G Q kc ks (pc + 3) lv (rv G.1 125 :: st) M) : GG G Q kc ks pc lv (rv G.1 o :: st) M :=
  g_get h inW13 rfl 54 (by decide) flX13_83 (kd_lt (by rw [hk]; decide)) (ent_11 hk) rfl hd k
theorem gfX13_86 {G : GX} {Q : State → Prop} {kc ks pc nL : Nat} {lv : List (Nat × Value)} {st : List Value} {M : Mem} {b : ByteArray} {ret : Option FieldType} {rm : Room} (h : OKm G b RX13 nL ret rm) {o : Nat} (hk : kd o = 11) (hd : decode b pc = .ok (.getfield 86, 3)) (k : GG G Q kc ks (pc + 3) lv (rv G.1 126 :: st) M) : GG G Q kc ks pc lv (rv G.1 o :: st) M :=
  g_get h inW13 rfl 55 (by decide) flX13_86 (kd_lt (by rw [hk]; decide)) (ent_11 hk) rfl hd k
theorem gfX13_89 {G : GX} {Q : State → Prop} {kc ks pc nL : Nat} {lv : List (Nat × Value)} {st : List Value} {M : Mem} {b : ByteArray} {ret : Option FieldType} {rm : Room} (h : OKm G b RX13 nL ret rm) {o : Nat} (hk : kd o = 11) (hd : decode b pc = .ok (.getfield 89, 3)) (k : GG G Q kc ks (pc + 3) lv (rv G.1 127 :: st) M) : GG G Q kc ks pc lv (rv G.1 o :: st) M :=
  g_get h inW13 rfl 56 (by decide) flX13_89 (kd_lt (by rw [hk]; decide)) (ent_11 hk) rfl hd k
theorem gfX13_92 {G : GX} {Q : State → Prop} {kc ks pc nL : Nat} {lv : List (Nat × Value)} {st : List Value} {M : Mem} {b : ByteArray} {ret : Option FieldType} {rm : Room} (h : OKm G b RX13 nL ret rm) {o : Nat} (hk : kd o = 11) (hd : decode b pc = .ok (.getfield 92, 3)) (k : GG G Q kc ks (pc + 3) lv (rv G.1 128 :: st) M) : GG G Q kc ks pc lv (rv G.1 o :: st) M :=
  g_get h inW13 rfl 57 (by decide) flX13_92 (kd_lt (by rw [hk]; decide)) (ent_11 hk) rfl hd k
theorem gfX13_95 {G : GX} {Q : State → Prop} {kc ks pc nL : Nat} {lv : List (Nat × Value)} {st : List Value} {M : Mem} {b : ByteArray} {ret : Option FieldType} {rm : Room} (h : OKm G b RX13 nL ret rm) {o : Nat} (hk : kd o = 11) (hd : decode b pc = .ok (.getfield 95, 3)) (k : GG G Q kc ks (pc + 3) lv (rv G.1 129 :: st) M) : GG G Q kc ks pc lv (rv G.1 o :: st) M :=
  g_get h inW13 rfl 58 (by decide) flX13_95 (kd_lt (by rw [hk]; decide)) (ent_11 hk) rfl hd k
theorem gfX13_98 {G : GX} {Q : State → Prop} {kc ks pc nL : Nat} {lv : List (Nat × Value)} {st : List Value} {M : Mem} {b : ByteArray} {ret : Option FieldType} {rm : Room} (h : OKm G b RX13 nL ret rm) {o : Nat} (hk : kd o = 11) (hd : decode b pc = .ok (.getfield 98, 3)) (k : GG G Q kc ks (pc + 3) lv (rv G.1 130 :: st) M) : GG G Q kc ks pc lv (rv G.1 o :: st) M :=
  g_get h inW13 rfl 59 (by decide) flX13_98 (kd_lt (by rw [hk]; decide)) (ent_11 hk) rfl hd k
theorem gfX13_101 {G : GX} {Q : State → Prop} {kc ks pc nL : Nat} {lv : List (Nat × Value)} {st : List Value} {M : Mem} {b : ByteArray} {ret : Option FieldType} {rm : Room} (h : OKm G b RX13 nL ret rm) {o : Nat} (hk : kd o = 11) (hd : decode b pc = .ok (.getfield 101, 3)) (k : GG G Q kc ks (pc + 3) lv (rv G.1 131 :: st) M) : GG G Q kc ks pc lv (rv G.1 o :: st) M :=
  g_get h inW13 rfl 60 (by decide) flX13_101 (kd_lt (by rw [hk]; decide)) (ent_11 hk) rfl hd k
theorem gfX13_104 {G : GX} {Q : State → Prop} {kc ks pc nL : Nat} {lv : List (Nat × Value)} {st : List Value} {M : Mem} {b : ByteArray} {ret : Option FieldType} {rm : Room} (h : OKm G b RX13 nL ret rm) {o : Nat} (hk : kd o = 11) (hd : decode b pc = .ok (.getfield 104, 3)) (k : GG G Q kc ks (pc + 3) lv (rv G.1 132 :: st) M) : GG G Q kc ks pc lv (rv G.1 o :: st) M :=
  g_get h inW13 rfl 61 (by decide) flX13_104 (kd_lt (by rw [hk]; decide)) (ent_11 hk) rfl hd k
theorem gfX13_108 {G : GX} {Q : State → Prop} {kc ks pc nL : Nat} {lv : List (Nat × Value)} {st : List Value} {M : Mem} {b : ByteArray} {ret : Option FieldType} {rm : Room} (h : OKm G b RX13 nL ret rm) {o : Nat} (hk : kd o = 11) (hd : decode b pc = .ok (.getfield 108, 3)) (k : GG G Q kc ks (pc + 3) lv (rv G.1 133 :: st) M) : GG G Q kc ks pc lv (rv G.1 o :: st) M :=
  g_get h inW13 rfl 62 (by decide) flX13_108 (kd_lt (by rw [hk]; decide)) (ent_11 hk) rfl hd k
theorem gfX13_111 {G : GX} {Q : State → Prop} {kc ks pc nL : Nat} {lv : List (Nat × Value)} {st : List Value} {M : Mem} {b : ByteArray} {ret : Option FieldType} {rm : Room} (h : OKm G b RX13 nL ret rm) {o : Nat} (hk : kd o = 11) (hd : decode b pc = .ok (.getfield 111, 3)) (k : GG G Q kc ks (pc + 3) lv (rv G.1 134 :: st) M) : GG G Q kc ks pc lv (rv G.1 o :: st) M :=
  g_get h inW13 rfl 63 (by decide) flX13_111 (kd_lt (by rw [hk]; decide)) (ent_11 hk) rfl hd k
theorem gfX13_114 {G : GX} {Q : State → Prop} {kc ks pc nL : Nat} {lv : List (Nat × Value)} {st : List Value} {M : Mem} {b : ByteArray} {ret : Option FieldType} {rm : Room} (h : OKm G b RX13 nL ret rm) {o : Nat} (hk : kd o = 11) (hd : decode b pc = .ok (.getfield 114, 3)) (k : GG G Q kc ks (pc + 3) lv (rv G.1 135 :: st) M) : GG G Q kc ks pc lv (rv G.1 o :: st) M :=
  g_get h inW13 rfl 65 (by decide) flX13_114 (kd_lt (by rw [hk]; decide)) (ent_11 hk) rfl hd k
theorem gfX13_117 {G : GX} {Q : State → Prop} {kc ks pc nL : Nat} {lv : List (Nat × Value)} {st : List Value} {M : Mem} {b : ByteArray} {ret : Option FieldType} {rm : Room} (h : OKm G b RX13 nL ret rm) {o : Nat} (hk : kd o = 11) (hd : decode b pc = .ok (.getfield 117, 3)) (k : GG G Q kc ks (pc + 3) lv (rv G.1 136 :: st) M) : GG G Q kc ks pc lv (rv G.1 o :: st) M :=
  g_get h inW13 rfl 66 (by decide) flX13_117 (kd_lt (by rw [hk]; decide)) (ent_11 hk) rfl hd k
theorem gfX13_120 {G : GX} {Q : State → Prop} {kc ks pc nL : Nat} {lv : List (Nat × Value)} {st : List Value} {M : Mem} {b : ByteArray} {ret : Option FieldType} {rm : Room} (h : OKm G b RX13 nL ret rm) {o : Nat} (hk : kd o = 11) (hd : decode b pc = .ok (.getfield 120, 3)) (k : GG G Q kc ks (pc + 3) lv (rv G.1 137 :: st) M) : GG G Q kc ks pc lv (rv G.1 o :: st) M :=
  g_get h inW13 rfl 68 (by decide) flX13_120 (kd_lt (by rw [hk]; decide)) (ent_11 hk) rfl hd k
theorem gfX13_123 {G : GX} {Q : State → Prop} {kc ks pc nL : Nat} {lv : List (Nat × Value)} {st : List Value} {M : Mem} {b : ByteArray} {ret : Option FieldType} {rm : Room} (h : OKm G b RX13 nL ret rm) {o : Nat} (hk : kd o = 11) (hd : decode b pc = .ok (.getfield 123, 3)) (k : GG G Q kc ks (pc + 3) lv (rv G.1 138 :: st) M) : GG G Q kc ks pc lv (rv G.1 o :: st) M :=
  g_get h inW13 rfl 70 (by decide) flX13_123 (kd_lt (by rw [hk]; decide)) (ent_11 hk) rfl hd k
theorem gfX13_126 {G : GX} {Q : State → Prop} {kc ks pc nL : Nat} {lv : List (Nat × Value)} {st : List Value} {M : Mem} {b : ByteArray} {ret : Option FieldType} {rm : Room} (h : OKm G b RX13 nL ret rm) {o : Nat} (hk : kd o = 11) (hd : decode b pc = .ok (.getfield 126, 3)) (k : GG G Q kc ks (pc + 3) lv (rv G.1 139 :: st) M) : GG G Q kc ks pc lv (rv G.1 o :: st) M :=
  g_get h inW13 rfl 71 (by decide) flX13_126 (kd_lt (by rw [hk]; decide)) (ent_11 hk) rfl hd k
theorem gfX13_129 {G : GX} {Q : State → Prop} {kc ks pc nL : Nat} {lv : List (Nat × Value)} {st : List Value} {M : Mem} {b : ByteArray} {ret : Option FieldType} {rm : Room} (h : OKm G b RX13 nL ret rm) {o : Nat} (hk : kd o = 11) (hd : decode b pc = .ok (.getfield 129, 3)) (k : GG G Q kc ks (pc + 3) lv (rv G.1 140 :: st) M) : GG G Q kc ks pc lv (rv G.1 o :: st) M :=
  g_get h inW13 rfl 72 (by decide) flX13_129 (kd_lt (by rw [hk]; decide)) (ent_11 hk) rfl hd k
theorem gfX13_132 {G : GX} {Q : State → Prop} {kc ks pc nL : Nat} {lv : List (Nat × Value)} {st : List Value} {M : Mem} {b : ByteArray} {ret : Option FieldType} {rm : Room} (h : OKm G b RX13 nL ret rm) {o : Nat} (hk : kd o = 11) (hd : decode b pc = .ok (.getfield 132, 3)) (k : GG G Q kc ks (pc + 3) lv (rv G.1 141 :: st) M) : GG G Q kc ks pc lv (rv G.1 o :: st) M :=
  g_get h inW13 rfl 77 (by decide) flX13_132 (kd_lt (by rw [hk]; decide)) (ent_11 hk) rfl hd k
theorem gfX13_135 {G : GX} {Q : State → Prop} {kc ks pc nL : Nat} {lv : List (Nat × Value)} {st : List Value} {M : Mem} {b : ByteArray} {ret : Option FieldType} {rm : Room} (h : OKm G b RX13 nL ret rm) {o : Nat} (hk : kd o = 11) (hd : decode b pc = .ok (.getfield 135, 3)) (k : GG G Q kc ks (pc + 3) lv (rv G.1 142 :: st) M) : GG G Q kc ks pc lv (rv G.1 o :: st) M :=
  g_get h inW13 rfl 78 (by decide) flX13_135 (kd_lt (by rw [hk]; decide)) (ent_11 hk) rfl hd k
theorem gfX13_138 {G : GX} {Q : State → Prop} {kc ks pc nL : Nat} {lv : List (Nat × Value)} {st : List Value} {M : Mem} {b : ByteArray} {ret : Option FieldType} {rm : Room} (h : OKm G b RX13 nL ret rm) {o : Nat} (hk : kd o = 11) (hd : decode b pc = .ok (.getfield 138, 3)) (k : GG G Q kc ks (pc + 3) lv (rv G.1 143 :: st) M) : GG G Q kc ks pc lv (rv G.1 o :: st) M :=
  g_get h inW13 rfl 79 (by decide) flX13_138 (kd_lt (by rw [hk]; decide)) (ent_11 hk) rfl hd k
theorem gfX13_141 {G : GX} {Q : State → Prop} {kc ks pc nL : Nat} {lv : List (Nat × Value)} {st : List Value} {M : Mem} {b : ByteArray} {ret : Option FieldType} {rm : Room} (h : OKm G b RX13 nL ret rm) {o : Nat} (hk : kd o = 11) (hd : decode b pc = .ok (.getfield 141, 3)) (k : GG G Q kc ks (pc + 3) lv (.int (gI M o 0) :: st) M) : GG G Q kc ks pc lv (rv G.1 o :: st) M :=
  g_get h inW13 rfl 0 (by decide) flX13_141 (kd_lt (by rw [hk]; decide)) (ent_11 hk) rfl hd k
theorem pfX13_141 {G : GX} {Q : State → Prop} {kc ks pc nL : Nat} {lv : List (Nat × Value)} {st : List Value} {M : Mem} {b : ByteArray} {ret : Option FieldType} {rm : Room} (h : OKm G b RX13 nL ret rm) {o : Nat} {x : Int32} (hk : kd o = 11) (hd : decode b pc = .ok (.putfield 141, 3)) (k : GG G Q kc ks (pc + 3) lv st (sI M o 0 x)) : GG G Q kc ks pc lv (.int x :: rv G.1 o :: st) M := by
  refine g_put h inW13 rfl 0 (by decide) flX13_141 tyX13_ok nmX13 rfl (kd_lt (by rw [hk]; decide)) (ent_11 hk) (Nat.le_of_ble_eq_true rfl) ?_ (fun q hq => ent_aI hq) rfl rfl rfl hd k
  show ent G.1 (sI M o 0 x) o = _
  unfold sI
  rw [ent_aI_s]
  unfold entK
  rw [hk]
  rfl
theorem gfX13_144 {G : GX} {Q : State → Prop} {kc ks pc nL : Nat} {lv : List (Nat × Value)} {st : List Value} {M : Mem} {b : ByteArray} {ret : Option FieldType} {rm : Room} (h : OKm G b RX13 nL ret rm) {o : Nat} (hk : kd o = 11) (hd : decode b pc = .ok (.getfield 144, 3)) (k : GG G Q kc ks (pc + 3) lv (.int (gI M o 21) :: st) M) : GG G Q kc ks pc lv (rv G.1 o :: st) M :=
  g_get h inW13 rfl 21 (by decide) flX13_144 (kd_lt (by rw [hk]; decide)) (ent_11 hk) rfl hd k
theorem pfX13_144 {G : GX} {Q : State → Prop} {kc ks pc nL : Nat} {lv : List (Nat × Value)} {st : List Value} {M : Mem} {b : ByteArray} {ret : Option FieldType} {rm : Room} (h : OKm G b RX13 nL ret rm) {o : Nat} {x : Int32} (hk : kd o = 11) (hd : decode b pc = .ok (.putfield 144, 3)) (k : GG G Q kc ks (pc + 3) lv st (sI M o 21 x)) : GG G Q kc ks pc lv (.int x :: rv G.1 o :: st) M := by
  refine g_put h inW13 rfl 21 (by decide) flX13_144 tyX13_ok nmX13 rfl (kd_lt (by rw [hk]; decide)) (ent_11 hk) (Nat.le_of_ble_eq_true rfl) ?_ (fun q hq => ent_aI hq) rfl rfl rfl hd k
  show ent G.1 (sI M o 21 x) o = _
  unfold sI
  rw [ent_aI_s]
  unfold entK
  rw [hk]
  rfl
theorem gfX13_151 {G : GX} {Q : State → Prop} {kc ks pc nL : Nat} {lv : List (Nat × Value)} {st : List Value} {M : Mem} {b : ByteArray} {ret : Option FieldType} {rm : Room} (h : OKm G b RX13 nL ret rm) {o : Nat} (hk : kd o = 11) (hd : decode b pc = .ok (.getfield 151, 3)) (k : GG G Q kc ks (pc + 3) lv (.int (gI M o 25) :: st) M) : GG G Q kc ks pc lv (rv G.1 o :: st) M :=
  g_get h inW13 rfl 25 (by decide) flX13_151 (kd_lt (by rw [hk]; decide)) (ent_11 hk) rfl hd k
theorem pfX13_151 {G : GX} {Q : State → Prop} {kc ks pc nL : Nat} {lv : List (Nat × Value)} {st : List Value} {M : Mem} {b : ByteArray} {ret : Option FieldType} {rm : Room} (h : OKm G b RX13 nL ret rm) {o : Nat} {x : Int32} (hk : kd o = 11) (hd : decode b pc = .ok (.putfield 151, 3)) (k : GG G Q kc ks (pc + 3) lv st (sI M o 25 x)) : GG G Q kc ks pc lv (.int x :: rv G.1 o :: st) M := by
  refine g_put h inW13 rfl 25 (by decide) flX13_151 tyX13_ok nmX13 rfl (kd_lt (by rw [hk]; decide)) (ent_11 hk) (Nat.le_of_ble_eq_true rfl) ?_ (fun q hq => ent_aI hq) rfl rfl rfl hd k
  show ent G.1 (sI M o 25 x) o = _
  unfold sI
  rw [ent_aI_s]
  unfold entK
  rw [hk]
  rfl
theorem gfX13_154 {G : GX} {Q : State → Prop} {kc ks pc nL : Nat} {lv : List (Nat × Value)} {st : List Value} {M : Mem} {b : ByteArray} {ret : Option FieldType} {rm : Room} (h : OKm G b RX13 nL ret rm) {o : Nat} (hk : kd o = 11) (hd : decode b pc = .ok (.getfield 154, 3)) (k : GG G Q kc ks (pc + 3) lv (.int (gI M o 26) :: st) M) : GG G Q kc ks pc lv (rv G.1 o :: st) M :=
  g_get h inW13 rfl 26 (by decide) flX13_154 (kd_lt (by rw [hk]; decide)) (ent_11 hk) rfl hd k
theorem pfX13_154 {G : GX} {Q : State → Prop} {kc ks pc nL : Nat} {lv : List (Nat × Value)} {st : List Value} {M : Mem} {b : ByteArray} {ret : Option FieldType} {rm : Room} (h : OKm G b RX13 nL ret rm) {o : Nat} {x : Int32} (hk : kd o = 11) (hd : decode b pc = .ok (.putfield 154, 3)) (k : GG G Q kc ks (pc + 3) lv st (sI M o 26 x)) : GG G Q kc ks pc lv (.int x :: rv G.1 o :: st) M := by
  refine g_put h inW13 rfl 26 (by decide) flX13_154 tyX13_ok nmX13 rfl (kd_lt (by rw [hk]; decide)) (ent_11 hk) (Nat.le_of_ble_eq_true rfl) ?_ (fun q hq => ent_aI hq) rfl rfl rfl hd k
  show ent G.1 (sI M o 26 x) o = _
  unfold sI
  rw [ent_aI_s]
  unfold entK
  rw [hk]
  rfl
theorem gfX13_161 {G : GX} {Q : State → Prop} {kc ks pc nL : Nat} {lv : List (Nat × Value)} {st : List Value} {M : Mem} {b : ByteArray} {ret : Option FieldType} {rm : Room} (h : OKm G b RX13 nL ret rm) {o : Nat} (hk : kd o = 11) (hd : decode b pc = .ok (.getfield 161, 3)) (k : GG G Q kc ks (pc + 3) lv (.int (gI M o 28) :: st) M) : GG G Q kc ks pc lv (rv G.1 o :: st) M :=
  g_get h inW13 rfl 28 (by decide) flX13_161 (kd_lt (by rw [hk]; decide)) (ent_11 hk) rfl hd k
theorem pfX13_161 {G : GX} {Q : State → Prop} {kc ks pc nL : Nat} {lv : List (Nat × Value)} {st : List Value} {M : Mem} {b : ByteArray} {ret : Option FieldType} {rm : Room} (h : OKm G b RX13 nL ret rm) {o : Nat} {x : Int32} (hk : kd o = 11) (hd : decode b pc = .ok (.putfield 161, 3)) (k : GG G Q kc ks (pc + 3) lv st (sI M o 28 x)) : GG G Q kc ks pc lv (.int x :: rv G.1 o :: st) M := by
  refine g_put h inW13 rfl 28 (by decide) flX13_161 tyX13_ok nmX13 rfl (kd_lt (by rw [hk]; decide)) (ent_11 hk) (Nat.le_of_ble_eq_true rfl) ?_ (fun q hq => ent_aI hq) rfl rfl rfl hd k
  show ent G.1 (sI M o 28 x) o = _
  unfold sI
  rw [ent_aI_s]
  unfold entK
  rw [hk]
  rfl
theorem gfX13_164 {G : GX} {Q : State → Prop} {kc ks pc nL : Nat} {lv : List (Nat × Value)} {st : List Value} {M : Mem} {b : ByteArray} {ret : Option FieldType} {rm : Room} (h : OKm G b RX13 nL ret rm) {o : Nat} (hk : kd o = 11) (hd : decode b pc = .ok (.getfield 164, 3)) (k : GG G Q kc ks (pc + 3) lv (.long (gL M o 32) :: st) M) : GG G Q kc ks pc lv (rv G.1 o :: st) M :=
  g_get h inW13 rfl 32 (by decide) flX13_164 (kd_lt (by rw [hk]; decide)) (ent_11 hk) rfl hd k
theorem pfX13_164 {G : GX} {Q : State → Prop} {kc ks pc nL : Nat} {lv : List (Nat × Value)} {st : List Value} {M : Mem} {b : ByteArray} {ret : Option FieldType} {rm : Room} (h : OKm G b RX13 nL ret rm) {o : Nat} {x : Int64} (hk : kd o = 11) (hd : decode b pc = .ok (.putfield 164, 3)) (k : GG G Q kc ks (pc + 3) lv st (sL M o 32 x)) : GG G Q kc ks pc lv (.long x :: rv G.1 o :: st) M := by
  refine g_put h inW13 rfl 32 (by decide) flX13_164 tyX13_ok nmX13 rfl (kd_lt (by rw [hk]; decide)) (ent_11 hk) (Nat.le_of_ble_eq_true rfl) ?_ (fun q hq => ent_aL hq) rfl rfl rfl hd k
  show ent G.1 (sL M o 32 x) o = _
  unfold sL
  rw [ent_aL_s]
  unfold entK
  rw [hk]
  rfl
theorem gfX13_168 {G : GX} {Q : State → Prop} {kc ks pc nL : Nat} {lv : List (Nat × Value)} {st : List Value} {M : Mem} {b : ByteArray} {ret : Option FieldType} {rm : Room} (h : OKm G b RX13 nL ret rm) {o : Nat} (hk : kd o = 11) (hd : decode b pc = .ok (.getfield 168, 3)) (k : GG G Q kc ks (pc + 3) lv (.int (gI M o 30) :: st) M) : GG G Q kc ks pc lv (rv G.1 o :: st) M :=
  g_get h inW13 rfl 30 (by decide) flX13_168 (kd_lt (by rw [hk]; decide)) (ent_11 hk) rfl hd k
theorem pfX13_168 {G : GX} {Q : State → Prop} {kc ks pc nL : Nat} {lv : List (Nat × Value)} {st : List Value} {M : Mem} {b : ByteArray} {ret : Option FieldType} {rm : Room} (h : OKm G b RX13 nL ret rm) {o : Nat} {x : Int32} (hk : kd o = 11) (hd : decode b pc = .ok (.putfield 168, 3)) (k : GG G Q kc ks (pc + 3) lv st (sI M o 30 x)) : GG G Q kc ks pc lv (.int x :: rv G.1 o :: st) M := by
  refine g_put h inW13 rfl 30 (by decide) flX13_168 tyX13_ok nmX13 rfl (kd_lt (by rw [hk]; decide)) (ent_11 hk) (Nat.le_of_ble_eq_true rfl) ?_ (fun q hq => ent_aI hq) rfl rfl rfl hd k
  show ent G.1 (sI M o 30 x) o = _
  unfold sI
  rw [ent_aI_s]
  unfold entK
  rw [hk]
  rfl
theorem gfX13_171 {G : GX} {Q : State → Prop} {kc ks pc nL : Nat} {lv : List (Nat × Value)} {st : List Value} {M : Mem} {b : ByteArray} {ret : Option FieldType} {rm : Room} (h : OKm G b RX13 nL ret rm) {o : Nat} (hk : kd o = 11) (hd : decode b pc = .ok (.getfield 171, 3)) (k : GG G Q kc ks (pc + 3) lv (.int (gI M o 31) :: st) M) : GG G Q kc ks pc lv (rv G.1 o :: st) M :=
  g_get h inW13 rfl 31 (by decide) flX13_171 (kd_lt (by rw [hk]; decide)) (ent_11 hk) rfl hd k
theorem pfX13_171 {G : GX} {Q : State → Prop} {kc ks pc nL : Nat} {lv : List (Nat × Value)} {st : List Value} {M : Mem} {b : ByteArray} {ret : Option FieldType} {rm : Room} (h : OKm G b RX13 nL ret rm) {o : Nat} {x : Int32} (hk : kd o = 11) (hd : decode b pc = .ok (.putfield 171, 3)) (k : GG G Q kc ks (pc + 3) lv st (sI M o 31 x)) : GG G Q kc ks pc lv (.int x :: rv G.1 o :: st) M := by
  refine g_put h inW13 rfl 31 (by decide) flX13_171 tyX13_ok nmX13 rfl (kd_lt (by rw [hk]; decide)) (ent_11 hk) (Nat.le_of_ble_eq_true rfl) ?_ (fun q hq => ent_aI hq) rfl rfl rfl hd k
  show ent G.1 (sI M o 31 x) o = _
  unfold sI
  rw [ent_aI_s]
  unfold entK
  rw [hk]
  rfl
theorem gfX13_174 {G : GX} {Q : State → Prop} {kc ks pc nL : Nat} {lv : List (Nat × Value)} {st : List Value} {M : Mem} {b : ByteArray} {ret : Option FieldType} {rm : Room} (h : OKm G b RX13 nL ret rm) {o : Nat} (hk : kd o = 11) (hd : decode b pc = .ok (.getfield 174, 3)) (k : GG G Q kc ks (pc + 3) lv (.int (gI M o 27) :: st) M) : GG G Q kc ks pc lv (rv G.1 o :: st) M :=
  g_get h inW13 rfl 27 (by decide) flX13_174 (kd_lt (by rw [hk]; decide)) (ent_11 hk) rfl hd k
theorem pfX13_174 {G : GX} {Q : State → Prop} {kc ks pc nL : Nat} {lv : List (Nat × Value)} {st : List Value} {M : Mem} {b : ByteArray} {ret : Option FieldType} {rm : Room} (h : OKm G b RX13 nL ret rm) {o : Nat} {x : Int32} (hk : kd o = 11) (hd : decode b pc = .ok (.putfield 174, 3)) (k : GG G Q kc ks (pc + 3) lv st (sI M o 27 x)) : GG G Q kc ks pc lv (.int x :: rv G.1 o :: st) M := by
  refine g_put h inW13 rfl 27 (by decide) flX13_174 tyX13_ok nmX13 rfl (kd_lt (by rw [hk]; decide)) (ent_11 hk) (Nat.le_of_ble_eq_true rfl) ?_ (fun q hq => ent_aI hq) rfl rfl rfl hd k
  show ent G.1 (sI M o 27 x) o = _
  unfold sI
  rw [ent_aI_s]
  unfold entK
  rw [hk]
  rfl
theorem gfX13_184 {G : GX} {Q : State → Prop} {kc ks pc nL : Nat} {lv : List (Nat × Value)} {st : List Value} {M : Mem} {b : ByteArray} {ret : Option FieldType} {rm : Room} (h : OKm G b RX13 nL ret rm) {o : Nat} (hk : kd o = 11) (hd : decode b pc = .ok (.getfield 184, 3)) (k : GG G Q kc ks (pc + 3) lv (.int (gI M o 29) :: st) M) : GG G Q kc ks pc lv (rv G.1 o :: st) M :=
  g_get h inW13 rfl 29 (by decide) flX13_184 (kd_lt (by rw [hk]; decide)) (ent_11 hk) rfl hd k
theorem pfX13_184 {G : GX} {Q : State → Prop} {kc ks pc nL : Nat} {lv : List (Nat × Value)} {st : List Value} {M : Mem} {b : ByteArray} {ret : Option FieldType} {rm : Room} (h : OKm G b RX13 nL ret rm) {o : Nat} {x : Int32} (hk : kd o = 11) (hd : decode b pc = .ok (.putfield 184, 3)) (k : GG G Q kc ks (pc + 3) lv st (sI M o 29 x)) : GG G Q kc ks pc lv (.int x :: rv G.1 o :: st) M := by
  refine g_put h inW13 rfl 29 (by decide) flX13_184 tyX13_ok nmX13 rfl (kd_lt (by rw [hk]; decide)) (ent_11 hk) (Nat.le_of_ble_eq_true rfl) ?_ (fun q hq => ent_aI hq) rfl rfl rfl hd k
  show ent G.1 (sI M o 29 x) o = _
  unfold sI
  rw [ent_aI_s]
  unfold entK
  rw [hk]
  rfl
theorem gfX13_197 {G : GX} {Q : State → Prop} {kc ks pc nL : Nat} {lv : List (Nat × Value)} {st : List Value} {M : Mem} {b : ByteArray} {ret : Option FieldType} {rm : Room} (h : OKm G b RX13 nL ret rm) {o : Nat} (hk : kd o = 11) (hd : decode b pc = .ok (.getfield 197, 3)) (k : GG G Q kc ks (pc + 3) lv (.int (gI M o 22) :: st) M) : GG G Q kc ks pc lv (rv G.1 o :: st) M :=
  g_get h inW13 rfl 22 (by decide) flX13_197 (kd_lt (by rw [hk]; decide)) (ent_11 hk) rfl hd k
theorem pfX13_197 {G : GX} {Q : State → Prop} {kc ks pc nL : Nat} {lv : List (Nat × Value)} {st : List Value} {M : Mem} {b : ByteArray} {ret : Option FieldType} {rm : Room} (h : OKm G b RX13 nL ret rm) {o : Nat} {x : Int32} (hk : kd o = 11) (hd : decode b pc = .ok (.putfield 197, 3)) (k : GG G Q kc ks (pc + 3) lv st (sI M o 22 x)) : GG G Q kc ks pc lv (.int x :: rv G.1 o :: st) M := by
  refine g_put h inW13 rfl 22 (by decide) flX13_197 tyX13_ok nmX13 rfl (kd_lt (by rw [hk]; decide)) (ent_11 hk) (Nat.le_of_ble_eq_true rfl) ?_ (fun q hq => ent_aI hq) rfl rfl rfl hd k
  show ent G.1 (sI M o 22 x) o = _
  unfold sI
  rw [ent_aI_s]
  unfold entK
  rw [hk]
  rfl
theorem gfX13_217 {G : GX} {Q : State → Prop} {kc ks pc nL : Nat} {lv : List (Nat × Value)} {st : List Value} {M : Mem} {b : ByteArray} {ret : Option FieldType} {rm : Room} (h : OKm G b RX13 nL ret rm) {o : Nat} (hk : kd o = 11) (hd : decode b pc = .ok (.getfield 217, 3)) (k : GG G Q kc ks (pc + 3) lv (.int (gI M o 40) :: st) M) : GG G Q kc ks pc lv (rv G.1 o :: st) M :=
  g_get h inW13 rfl 40 (by decide) flX13_217 (kd_lt (by rw [hk]; decide)) (ent_11 hk) rfl hd k
theorem pfX13_217 {G : GX} {Q : State → Prop} {kc ks pc nL : Nat} {lv : List (Nat × Value)} {st : List Value} {M : Mem} {b : ByteArray} {ret : Option FieldType} {rm : Room} (h : OKm G b RX13 nL ret rm) {o : Nat} {x : Int32} (hk : kd o = 11) (hd : decode b pc = .ok (.putfield 217, 3)) (k : GG G Q kc ks (pc + 3) lv st (sI M o 40 x)) : GG G Q kc ks pc lv (.int x :: rv G.1 o :: st) M := by
  refine g_put h inW13 rfl 40 (by decide) flX13_217 tyX13_ok nmX13 rfl (kd_lt (by rw [hk]; decide)) (ent_11 hk) (Nat.le_of_ble_eq_true rfl) ?_ (fun q hq => ent_aI hq) rfl rfl rfl hd k
  show ent G.1 (sI M o 40 x) o = _
  unfold sI
  rw [ent_aI_s]
  unfold entK
  rw [hk]
  rfl
theorem gfX13_220 {G : GX} {Q : State → Prop} {kc ks pc nL : Nat} {lv : List (Nat × Value)} {st : List Value} {M : Mem} {b : ByteArray} {ret : Option FieldType} {rm : Room} (h : OKm G b RX13 nL ret rm) {o : Nat} (hk : kd o = 11) (hd : decode b pc = .ok (.getfield 220, 3)) (k : GG G Q kc ks (pc + 3) lv (.int (gI M o 43) :: st) M) : GG G Q kc ks pc lv (rv G.1 o :: st) M :=
  g_get h inW13 rfl 43 (by decide) flX13_220 (kd_lt (by rw [hk]; decide)) (ent_11 hk) rfl hd k
theorem pfX13_220 {G : GX} {Q : State → Prop} {kc ks pc nL : Nat} {lv : List (Nat × Value)} {st : List Value} {M : Mem} {b : ByteArray} {ret : Option FieldType} {rm : Room} (h : OKm G b RX13 nL ret rm) {o : Nat} {x : Int32} (hk : kd o = 11) (hd : decode b pc = .ok (.putfield 220, 3)) (k : GG G Q kc ks (pc + 3) lv st (sI M o 43 x)) : GG G Q kc ks pc lv (.int x :: rv G.1 o :: st) M := by
  refine g_put h inW13 rfl 43 (by decide) flX13_220 tyX13_ok nmX13 rfl (kd_lt (by rw [hk]; decide)) (ent_11 hk) (Nat.le_of_ble_eq_true rfl) ?_ (fun q hq => ent_aI hq) rfl rfl rfl hd k
  show ent G.1 (sI M o 43 x) o = _
  unfold sI
  rw [ent_aI_s]
  unfold entK
  rw [hk]
  rfl
theorem gfX13_236 {G : GX} {Q : State → Prop} {kc ks pc nL : Nat} {lv : List (Nat × Value)} {st : List Value} {M : Mem} {b : ByteArray} {ret : Option FieldType} {rm : Room} (h : OKm G b RX13 nL ret rm) {o : Nat} (hk : kd o = 11) (hd : decode b pc = .ok (.getfield 236, 3)) (k : GG G Q kc ks (pc + 3) lv (.int (gI M o 41) :: st) M) : GG G Q kc ks pc lv (rv G.1 o :: st) M :=
  g_get h inW13 rfl 41 (by decide) flX13_236 (kd_lt (by rw [hk]; decide)) (ent_11 hk) rfl hd k
theorem pfX13_236 {G : GX} {Q : State → Prop} {kc ks pc nL : Nat} {lv : List (Nat × Value)} {st : List Value} {M : Mem} {b : ByteArray} {ret : Option FieldType} {rm : Room} (h : OKm G b RX13 nL ret rm) {o : Nat} {x : Int32} (hk : kd o = 11) (hd : decode b pc = .ok (.putfield 236, 3)) (k : GG G Q kc ks (pc + 3) lv st (sI M o 41 x)) : GG G Q kc ks pc lv (.int x :: rv G.1 o :: st) M := by
  refine g_put h inW13 rfl 41 (by decide) flX13_236 tyX13_ok nmX13 rfl (kd_lt (by rw [hk]; decide)) (ent_11 hk) (Nat.le_of_ble_eq_true rfl) ?_ (fun q hq => ent_aI hq) rfl rfl rfl hd k
  show ent G.1 (sI M o 41 x) o = _
  unfold sI
  rw [ent_aI_s]
  unfold entK
  rw [hk]
  rfl
theorem gfX13_239 {G : GX} {Q : State → Prop} {kc ks pc nL : Nat} {lv : List (Nat × Value)} {st : List Value} {M : Mem} {b : ByteArray} {ret : Option FieldType} {rm : Room} (h : OKm G b RX13 nL ret rm) {o : Nat} (hk : kd o = 11) (hd : decode b pc = .ok (.getfield 239, 3)) (k : GG G Q kc ks (pc + 3) lv (.int (gI M o 42) :: st) M) : GG G Q kc ks pc lv (rv G.1 o :: st) M :=
  g_get h inW13 rfl 42 (by decide) flX13_239 (kd_lt (by rw [hk]; decide)) (ent_11 hk) rfl hd k
theorem pfX13_239 {G : GX} {Q : State → Prop} {kc ks pc nL : Nat} {lv : List (Nat × Value)} {st : List Value} {M : Mem} {b : ByteArray} {ret : Option FieldType} {rm : Room} (h : OKm G b RX13 nL ret rm) {o : Nat} {x : Int32} (hk : kd o = 11) (hd : decode b pc = .ok (.putfield 239, 3)) (k : GG G Q kc ks (pc + 3) lv st (sI M o 42 x)) : GG G Q kc ks pc lv (.int x :: rv G.1 o :: st) M := by
  refine g_put h inW13 rfl 42 (by decide) flX13_239 tyX13_ok nmX13 rfl (kd_lt (by rw [hk]; decide)) (ent_11 hk) (Nat.le_of_ble_eq_true rfl) ?_ (fun q hq => ent_aI hq) rfl rfl rfl hd k
  show ent G.1 (sI M o 42 x) o = _
  unfold sI
  rw [ent_aI_s]
  unfold entK
  rw [hk]
  rfl
theorem gfX13_242 {G : GX} {Q : State → Prop} {kc ks pc nL : Nat} {lv : List (Nat × Value)} {st : List Value} {M : Mem} {b : ByteArray} {ret : Option FieldType} {rm : Room} (h : OKm G b RX13 nL ret rm) {o : Nat} (hk : kd o = 11) (hd : decode b pc = .ok (.getfield 242, 3)) (k : GG G Q kc ks (pc + 3) lv (.int (gI M o 44) :: st) M) : GG G Q kc ks pc lv (rv G.1 o :: st) M :=
  g_get h inW13 rfl 44 (by decide) flX13_242 (kd_lt (by rw [hk]; decide)) (ent_11 hk) rfl hd k
theorem pfX13_242 {G : GX} {Q : State → Prop} {kc ks pc nL : Nat} {lv : List (Nat × Value)} {st : List Value} {M : Mem} {b : ByteArray} {ret : Option FieldType} {rm : Room} (h : OKm G b RX13 nL ret rm) {o : Nat} {x : Int32} (hk : kd o = 11) (hd : decode b pc = .ok (.putfield 242, 3)) (k : GG G Q kc ks (pc + 3) lv st (sI M o 44 x)) : GG G Q kc ks pc lv (.int x :: rv G.1 o :: st) M := by
  refine g_put h inW13 rfl 44 (by decide) flX13_242 tyX13_ok nmX13 rfl (kd_lt (by rw [hk]; decide)) (ent_11 hk) (Nat.le_of_ble_eq_true rfl) ?_ (fun q hq => ent_aI hq) rfl rfl rfl hd k
  show ent G.1 (sI M o 44 x) o = _
  unfold sI
  rw [ent_aI_s]
  unfold entK
  rw [hk]
  rfl
theorem gfX13_267 {G : GX} {Q : State → Prop} {kc ks pc nL : Nat} {lv : List (Nat × Value)} {st : List Value} {M : Mem} {b : ByteArray} {ret : Option FieldType} {rm : Room} (h : OKm G b RX13 nL ret rm) {o : Nat} (hk : kd o = 11) (hd : decode b pc = .ok (.getfield 267, 3)) (k : GG G Q kc ks (pc + 3) lv (.int (gI M o 45) :: st) M) : GG G Q kc ks pc lv (rv G.1 o :: st) M :=
  g_get h inW13 rfl 45 (by decide) flX13_267 (kd_lt (by rw [hk]; decide)) (ent_11 hk) rfl hd k
theorem pfX13_267 {G : GX} {Q : State → Prop} {kc ks pc nL : Nat} {lv : List (Nat × Value)} {st : List Value} {M : Mem} {b : ByteArray} {ret : Option FieldType} {rm : Room} (h : OKm G b RX13 nL ret rm) {o : Nat} {x : Int32} (hk : kd o = 11) (hz : x = 0 ∨ x = 1) (hd : decode b pc = .ok (.putfield 267, 3)) (k : GG G Q kc ks (pc + 3) lv st (sI M o 45 x)) : GG G Q kc ks pc lv (.int x :: rv G.1 o :: st) M := by
  refine g_put h inW13 rfl 45 (by decide) flX13_267 tyX13_ok nmX13 rfl (kd_lt (by rw [hk]; decide)) (ent_11 hk) (Nat.le_of_ble_eq_true rfl) ?_ (fun q hq => ent_aI hq) rfl (by rcases hz with rfl | rfl <;> rfl) (by rcases hz with rfl | rfl <;> rfl) hd k
  show ent G.1 (sI M o 45 x) o = _
  unfold sI
  rw [ent_aI_s]
  unfold entK
  rw [hk]
  rfl
theorem gfX13_271 {G : GX} {Q : State → Prop} {kc ks pc nL : Nat} {lv : List (Nat × Value)} {st : List Value} {M : Mem} {b : ByteArray} {ret : Option FieldType} {rm : Room} (h : OKm G b RX13 nL ret rm) {o : Nat} (hk : kd o = 11) (hd : decode b pc = .ok (.getfield 271, 3)) (k : GG G Q kc ks (pc + 3) lv (.int (gI M o 33) :: st) M) : GG G Q kc ks pc lv (rv G.1 o :: st) M :=
  g_get h inW13 rfl 33 (by decide) flX13_271 (kd_lt (by rw [hk]; decide)) (ent_11 hk) rfl hd k
theorem pfX13_271 {G : GX} {Q : State → Prop} {kc ks pc nL : Nat} {lv : List (Nat × Value)} {st : List Value} {M : Mem} {b : ByteArray} {ret : Option FieldType} {rm : Room} (h : OKm G b RX13 nL ret rm) {o : Nat} {x : Int32} (hk : kd o = 11) (hd : decode b pc = .ok (.putfield 271, 3)) (k : GG G Q kc ks (pc + 3) lv st (sI M o 33 x)) : GG G Q kc ks pc lv (.int x :: rv G.1 o :: st) M := by
  refine g_put h inW13 rfl 33 (by decide) flX13_271 tyX13_ok nmX13 rfl (kd_lt (by rw [hk]; decide)) (ent_11 hk) (Nat.le_of_ble_eq_true rfl) ?_ (fun q hq => ent_aI hq) rfl rfl rfl hd k
  show ent G.1 (sI M o 33 x) o = _
  unfold sI
  rw [ent_aI_s]
  unfold entK
  rw [hk]
  rfl
theorem gfX13_280 {G : GX} {Q : State → Prop} {kc ks pc nL : Nat} {lv : List (Nat × Value)} {st : List Value} {M : Mem} {b : ByteArray} {ret : Option FieldType} {rm : Room} (h : OKm G b RX13 nL ret rm) {o : Nat} (hk : kd o = 11) (hd : decode b pc = .ok (.getfield 280, 3)) (k : GG G Q kc ks (pc + 3) lv (.int (gI M o 34) :: st) M) : GG G Q kc ks pc lv (rv G.1 o :: st) M :=
  g_get h inW13 rfl 34 (by decide) flX13_280 (kd_lt (by rw [hk]; decide)) (ent_11 hk) rfl hd k
theorem pfX13_280 {G : GX} {Q : State → Prop} {kc ks pc nL : Nat} {lv : List (Nat × Value)} {st : List Value} {M : Mem} {b : ByteArray} {ret : Option FieldType} {rm : Room} (h : OKm G b RX13 nL ret rm) {o : Nat} {x : Int32} (hk : kd o = 11) (hd : decode b pc = .ok (.putfield 280, 3)) (k : GG G Q kc ks (pc + 3) lv st (sI M o 34 x)) : GG G Q kc ks pc lv (.int x :: rv G.1 o :: st) M := by
  refine g_put h inW13 rfl 34 (by decide) flX13_280 tyX13_ok nmX13 rfl (kd_lt (by rw [hk]; decide)) (ent_11 hk) (Nat.le_of_ble_eq_true rfl) ?_ (fun q hq => ent_aI hq) rfl rfl rfl hd k
  show ent G.1 (sI M o 34 x) o = _
  unfold sI
  rw [ent_aI_s]
  unfold entK
  rw [hk]
  rfl
theorem gfX13_283 {G : GX} {Q : State → Prop} {kc ks pc nL : Nat} {lv : List (Nat × Value)} {st : List Value} {M : Mem} {b : ByteArray} {ret : Option FieldType} {rm : Room} (h : OKm G b RX13 nL ret rm) {o : Nat} (hk : kd o = 11) (hd : decode b pc = .ok (.getfield 283, 3)) (k : GG G Q kc ks (pc + 3) lv (.int (gI M o 35) :: st) M) : GG G Q kc ks pc lv (rv G.1 o :: st) M :=
  g_get h inW13 rfl 35 (by decide) flX13_283 (kd_lt (by rw [hk]; decide)) (ent_11 hk) rfl hd k
theorem pfX13_283 {G : GX} {Q : State → Prop} {kc ks pc nL : Nat} {lv : List (Nat × Value)} {st : List Value} {M : Mem} {b : ByteArray} {ret : Option FieldType} {rm : Room} (h : OKm G b RX13 nL ret rm) {o : Nat} {x : Int32} (hk : kd o = 11) (hd : decode b pc = .ok (.putfield 283, 3)) (k : GG G Q kc ks (pc + 3) lv st (sI M o 35 x)) : GG G Q kc ks pc lv (.int x :: rv G.1 o :: st) M := by
  refine g_put h inW13 rfl 35 (by decide) flX13_283 tyX13_ok nmX13 rfl (kd_lt (by rw [hk]; decide)) (ent_11 hk) (Nat.le_of_ble_eq_true rfl) ?_ (fun q hq => ent_aI hq) rfl rfl rfl hd k
  show ent G.1 (sI M o 35 x) o = _
  unfold sI
  rw [ent_aI_s]
  unfold entK
  rw [hk]
  rfl
theorem gfX13_286 {G : GX} {Q : State → Prop} {kc ks pc nL : Nat} {lv : List (Nat × Value)} {st : List Value} {M : Mem} {b : ByteArray} {ret : Option FieldType} {rm : Room} (h : OKm G b RX13 nL ret rm) {o : Nat} (hk : kd o = 11) (hd : decode b pc = .ok (.getfield 286, 3)) (k : GG G Q kc ks (pc + 3) lv (.int (gI M o 37) :: st) M) : GG G Q kc ks pc lv (rv G.1 o :: st) M :=
  g_get h inW13 rfl 37 (by decide) flX13_286 (kd_lt (by rw [hk]; decide)) (ent_11 hk) rfl hd k
theorem pfX13_286 {G : GX} {Q : State → Prop} {kc ks pc nL : Nat} {lv : List (Nat × Value)} {st : List Value} {M : Mem} {b : ByteArray} {ret : Option FieldType} {rm : Room} (h : OKm G b RX13 nL ret rm) {o : Nat} {x : Int32} (hk : kd o = 11) (hd : decode b pc = .ok (.putfield 286, 3)) (k : GG G Q kc ks (pc + 3) lv st (sI M o 37 x)) : GG G Q kc ks pc lv (.int x :: rv G.1 o :: st) M := by
  refine g_put h inW13 rfl 37 (by decide) flX13_286 tyX13_ok nmX13 rfl (kd_lt (by rw [hk]; decide)) (ent_11 hk) (Nat.le_of_ble_eq_true rfl) ?_ (fun q hq => ent_aI hq) rfl rfl rfl hd k
  show ent G.1 (sI M o 37 x) o = _
  unfold sI
  rw [ent_aI_s]
  unfold entK
  rw [hk]
  rfl
theorem gfX13_289 {G : GX} {Q : State → Prop} {kc ks pc nL : Nat} {lv : List (Nat × Value)} {st : List Value} {M : Mem} {b : ByteArray} {ret : Option FieldType} {rm : Room} (h : OKm G b RX13 nL ret rm) {o : Nat} (hk : kd o = 11) (hd : decode b pc = .ok (.getfield 289, 3)) (k : GG G Q kc ks (pc + 3) lv (.int (gI M o 36) :: st) M) : GG G Q kc ks pc lv (rv G.1 o :: st) M :=
  g_get h inW13 rfl 36 (by decide) flX13_289 (kd_lt (by rw [hk]; decide)) (ent_11 hk) rfl hd k
theorem pfX13_289 {G : GX} {Q : State → Prop} {kc ks pc nL : Nat} {lv : List (Nat × Value)} {st : List Value} {M : Mem} {b : ByteArray} {ret : Option FieldType} {rm : Room} (h : OKm G b RX13 nL ret rm) {o : Nat} {x : Int32} (hk : kd o = 11) (hd : decode b pc = .ok (.putfield 289, 3)) (k : GG G Q kc ks (pc + 3) lv st (sI M o 36 x)) : GG G Q kc ks pc lv (.int x :: rv G.1 o :: st) M := by
  refine g_put h inW13 rfl 36 (by decide) flX13_289 tyX13_ok nmX13 rfl (kd_lt (by rw [hk]; decide)) (ent_11 hk) (Nat.le_of_ble_eq_true rfl) ?_ (fun q hq => ent_aI hq) rfl rfl rfl hd k
  show ent G.1 (sI M o 36 x) o = _
  unfold sI
  rw [ent_aI_s]
  unfold entK
  rw [hk]
  rfl
theorem gfX13_304 {G : GX} {Q : State → Prop} {kc ks pc nL : Nat} {lv : List (Nat × Value)} {st : List Value} {M : Mem} {b : ByteArray} {ret : Option FieldType} {rm : Room} (h : OKm G b RX13 nL ret rm) {o : Nat} (hk : kd o = 11) (hd : decode b pc = .ok (.getfield 304, 3)) (k : GG G Q kc ks (pc + 3) lv (.int (gI M o 46) :: st) M) : GG G Q kc ks pc lv (rv G.1 o :: st) M :=
  g_get h inW13 rfl 46 (by decide) flX13_304 (kd_lt (by rw [hk]; decide)) (ent_11 hk) rfl hd k
theorem pfX13_304 {G : GX} {Q : State → Prop} {kc ks pc nL : Nat} {lv : List (Nat × Value)} {st : List Value} {M : Mem} {b : ByteArray} {ret : Option FieldType} {rm : Room} (h : OKm G b RX13 nL ret rm) {o : Nat} {x : Int32} (hk : kd o = 11) (hz : x = 0 ∨ x = 1) (hd : decode b pc = .ok (.putfield 304, 3)) (k : GG G Q kc ks (pc + 3) lv st (sI M o 46 x)) : GG G Q kc ks pc lv (.int x :: rv G.1 o :: st) M := by
  refine g_put h inW13 rfl 46 (by decide) flX13_304 tyX13_ok nmX13 rfl (kd_lt (by rw [hk]; decide)) (ent_11 hk) (Nat.le_of_ble_eq_true rfl) ?_ (fun q hq => ent_aI hq) rfl (by rcases hz with rfl | rfl <;> rfl) (by rcases hz with rfl | rfl <;> rfl) hd k
  show ent G.1 (sI M o 46 x) o = _
  unfold sI
  rw [ent_aI_s]
  unfold entK
  rw [hk]
  rfl
theorem gfX13_313 {G : GX} {Q : State → Prop} {kc ks pc nL : Nat} {lv : List (Nat × Value)} {st : List Value} {M : Mem} {b : ByteArray} {ret : Option FieldType} {rm : Room} (h : OKm G b RX13 nL ret rm) {o : Nat} (hk : kd o = 11) (hd : decode b pc = .ok (.getfield 313, 3)) (k : GG G Q kc ks (pc + 3) lv (.int (gI M o 38) :: st) M) : GG G Q kc ks pc lv (rv G.1 o :: st) M :=
  g_get h inW13 rfl 38 (by decide) flX13_313 (kd_lt (by rw [hk]; decide)) (ent_11 hk) rfl hd k
theorem pfX13_313 {G : GX} {Q : State → Prop} {kc ks pc nL : Nat} {lv : List (Nat × Value)} {st : List Value} {M : Mem} {b : ByteArray} {ret : Option FieldType} {rm : Room} (h : OKm G b RX13 nL ret rm) {o : Nat} {x : Int32} (hk : kd o = 11) (hd : decode b pc = .ok (.putfield 313, 3)) (k : GG G Q kc ks (pc + 3) lv st (sI M o 38 x)) : GG G Q kc ks pc lv (.int x :: rv G.1 o :: st) M := by
  refine g_put h inW13 rfl 38 (by decide) flX13_313 tyX13_ok nmX13 rfl (kd_lt (by rw [hk]; decide)) (ent_11 hk) (Nat.le_of_ble_eq_true rfl) ?_ (fun q hq => ent_aI hq) rfl rfl rfl hd k
  show ent G.1 (sI M o 38 x) o = _
  unfold sI
  rw [ent_aI_s]
  unfold entK
  rw [hk]
  rfl
theorem gfX13_320 {G : GX} {Q : State → Prop} {kc ks pc nL : Nat} {lv : List (Nat × Value)} {st : List Value} {M : Mem} {b : ByteArray} {ret : Option FieldType} {rm : Room} (h : OKm G b RX13 nL ret rm) {o : Nat} (hk : kd o = 11) (hd : decode b pc = .ok (.getfield 320, 3)) (k : GG G Q kc ks (pc + 3) lv (.int (gI M o 39) :: st) M) : GG G Q kc ks pc lv (rv G.1 o :: st) M :=
  g_get h inW13 rfl 39 (by decide) flX13_320 (kd_lt (by rw [hk]; decide)) (ent_11 hk) rfl hd k
theorem pfX13_320 {G : GX} {Q : State → Prop} {kc ks pc nL : Nat} {lv : List (Nat × Value)} {st : List Value} {M : Mem} {b : ByteArray} {ret : Option FieldType} {rm : Room} (h : OKm G b RX13 nL ret rm) {o : Nat} {x : Int32} (hk : kd o = 11) (hd : decode b pc = .ok (.putfield 320, 3)) (k : GG G Q kc ks (pc + 3) lv st (sI M o 39 x)) : GG G Q kc ks pc lv (.int x :: rv G.1 o :: st) M := by
  refine g_put h inW13 rfl 39 (by decide) flX13_320 tyX13_ok nmX13 rfl (kd_lt (by rw [hk]; decide)) (ent_11 hk) (Nat.le_of_ble_eq_true rfl) ?_ (fun q hq => ent_aI hq) rfl rfl rfl hd k
  show ent G.1 (sI M o 39 x) o = _
  unfold sI
  rw [ent_aI_s]
  unfold entK
  rw [hk]
  rfl
theorem gfX13_333 {G : GX} {Q : State → Prop} {kc ks pc nL : Nat} {lv : List (Nat × Value)} {st : List Value} {M : Mem} {b : ByteArray} {ret : Option FieldType} {rm : Room} (h : OKm G b RX13 nL ret rm) {o : Nat} (hk : kd o = 11) (hd : decode b pc = .ok (.getfield 333, 3)) (k : GG G Q kc ks (pc + 3) lv (.int (gI M o 1) :: st) M) : GG G Q kc ks pc lv (rv G.1 o :: st) M :=
  g_get h inW13 rfl 1 (by decide) flX13_333 (kd_lt (by rw [hk]; decide)) (ent_11 hk) rfl hd k
theorem pfX13_333 {G : GX} {Q : State → Prop} {kc ks pc nL : Nat} {lv : List (Nat × Value)} {st : List Value} {M : Mem} {b : ByteArray} {ret : Option FieldType} {rm : Room} (h : OKm G b RX13 nL ret rm) {o : Nat} {x : Int32} (hk : kd o = 11) (hd : decode b pc = .ok (.putfield 333, 3)) (k : GG G Q kc ks (pc + 3) lv st (sI M o 1 x)) : GG G Q kc ks pc lv (.int x :: rv G.1 o :: st) M := by
  refine g_put h inW13 rfl 1 (by decide) flX13_333 tyX13_ok nmX13 rfl (kd_lt (by rw [hk]; decide)) (ent_11 hk) (Nat.le_of_ble_eq_true rfl) ?_ (fun q hq => ent_aI hq) rfl rfl rfl hd k
  show ent G.1 (sI M o 1 x) o = _
  unfold sI
  rw [ent_aI_s]
  unfold entK
  rw [hk]
  rfl
theorem gfX13_336 {G : GX} {Q : State → Prop} {kc ks pc nL : Nat} {lv : List (Nat × Value)} {st : List Value} {M : Mem} {b : ByteArray} {ret : Option FieldType} {rm : Room} (h : OKm G b RX13 nL ret rm) {o : Nat} (hk : kd o = 11) (hd : decode b pc = .ok (.getfield 336, 3)) (k : GG G Q kc ks (pc + 3) lv (.int (gI M o 2) :: st) M) : GG G Q kc ks pc lv (rv G.1 o :: st) M :=
  g_get h inW13 rfl 2 (by decide) flX13_336 (kd_lt (by rw [hk]; decide)) (ent_11 hk) rfl hd k
theorem pfX13_336 {G : GX} {Q : State → Prop} {kc ks pc nL : Nat} {lv : List (Nat × Value)} {st : List Value} {M : Mem} {b : ByteArray} {ret : Option FieldType} {rm : Room} (h : OKm G b RX13 nL ret rm) {o : Nat} {x : Int32} (hk : kd o = 11) (hd : decode b pc = .ok (.putfield 336, 3)) (k : GG G Q kc ks (pc + 3) lv st (sI M o 2 x)) : GG G Q kc ks pc lv (.int x :: rv G.1 o :: st) M := by
  refine g_put h inW13 rfl 2 (by decide) flX13_336 tyX13_ok nmX13 rfl (kd_lt (by rw [hk]; decide)) (ent_11 hk) (Nat.le_of_ble_eq_true rfl) ?_ (fun q hq => ent_aI hq) rfl rfl rfl hd k
  show ent G.1 (sI M o 2 x) o = _
  unfold sI
  rw [ent_aI_s]
  unfold entK
  rw [hk]
  rfl
theorem gfX13_339 {G : GX} {Q : State → Prop} {kc ks pc nL : Nat} {lv : List (Nat × Value)} {st : List Value} {M : Mem} {b : ByteArray} {ret : Option FieldType} {rm : Room} (h : OKm G b RX13 nL ret rm) {o : Nat} (hk : kd o = 11) (hd : decode b pc = .ok (.getfield 339, 3)) (k : GG G Q kc ks (pc + 3) lv (.int (gI M o 3) :: st) M) : GG G Q kc ks pc lv (rv G.1 o :: st) M :=
  g_get h inW13 rfl 3 (by decide) flX13_339 (kd_lt (by rw [hk]; decide)) (ent_11 hk) rfl hd k
theorem pfX13_339 {G : GX} {Q : State → Prop} {kc ks pc nL : Nat} {lv : List (Nat × Value)} {st : List Value} {M : Mem} {b : ByteArray} {ret : Option FieldType} {rm : Room} (h : OKm G b RX13 nL ret rm) {o : Nat} {x : Int32} (hk : kd o = 11) (hd : decode b pc = .ok (.putfield 339, 3)) (k : GG G Q kc ks (pc + 3) lv st (sI M o 3 x)) : GG G Q kc ks pc lv (.int x :: rv G.1 o :: st) M := by
  refine g_put h inW13 rfl 3 (by decide) flX13_339 tyX13_ok nmX13 rfl (kd_lt (by rw [hk]; decide)) (ent_11 hk) (Nat.le_of_ble_eq_true rfl) ?_ (fun q hq => ent_aI hq) rfl rfl rfl hd k
  show ent G.1 (sI M o 3 x) o = _
  unfold sI
  rw [ent_aI_s]
  unfold entK
  rw [hk]
  rfl
theorem gfX13_342 {G : GX} {Q : State → Prop} {kc ks pc nL : Nat} {lv : List (Nat × Value)} {st : List Value} {M : Mem} {b : ByteArray} {ret : Option FieldType} {rm : Room} (h : OKm G b RX13 nL ret rm) {o : Nat} (hk : kd o = 11) (hd : decode b pc = .ok (.getfield 342, 3)) (k : GG G Q kc ks (pc + 3) lv (.int (gI M o 4) :: st) M) : GG G Q kc ks pc lv (rv G.1 o :: st) M :=
  g_get h inW13 rfl 4 (by decide) flX13_342 (kd_lt (by rw [hk]; decide)) (ent_11 hk) rfl hd k
theorem pfX13_342 {G : GX} {Q : State → Prop} {kc ks pc nL : Nat} {lv : List (Nat × Value)} {st : List Value} {M : Mem} {b : ByteArray} {ret : Option FieldType} {rm : Room} (h : OKm G b RX13 nL ret rm) {o : Nat} {x : Int32} (hk : kd o = 11) (hd : decode b pc = .ok (.putfield 342, 3)) (k : GG G Q kc ks (pc + 3) lv st (sI M o 4 x)) : GG G Q kc ks pc lv (.int x :: rv G.1 o :: st) M := by
  refine g_put h inW13 rfl 4 (by decide) flX13_342 tyX13_ok nmX13 rfl (kd_lt (by rw [hk]; decide)) (ent_11 hk) (Nat.le_of_ble_eq_true rfl) ?_ (fun q hq => ent_aI hq) rfl rfl rfl hd k
  show ent G.1 (sI M o 4 x) o = _
  unfold sI
  rw [ent_aI_s]
  unfold entK
  rw [hk]
  rfl
theorem gfX13_345 {G : GX} {Q : State → Prop} {kc ks pc nL : Nat} {lv : List (Nat × Value)} {st : List Value} {M : Mem} {b : ByteArray} {ret : Option FieldType} {rm : Room} (h : OKm G b RX13 nL ret rm) {o : Nat} (hk : kd o = 11) (hd : decode b pc = .ok (.getfield 345, 3)) (k : GG G Q kc ks (pc + 3) lv (.int (gI M o 5) :: st) M) : GG G Q kc ks pc lv (rv G.1 o :: st) M :=
  g_get h inW13 rfl 5 (by decide) flX13_345 (kd_lt (by rw [hk]; decide)) (ent_11 hk) rfl hd k
theorem pfX13_345 {G : GX} {Q : State → Prop} {kc ks pc nL : Nat} {lv : List (Nat × Value)} {st : List Value} {M : Mem} {b : ByteArray} {ret : Option FieldType} {rm : Room} (h : OKm G b RX13 nL ret rm) {o : Nat} {x : Int32} (hk : kd o = 11) (hd : decode b pc = .ok (.putfield 345, 3)) (k : GG G Q kc ks (pc + 3) lv st (sI M o 5 x)) : GG G Q kc ks pc lv (.int x :: rv G.1 o :: st) M := by
  refine g_put h inW13 rfl 5 (by decide) flX13_345 tyX13_ok nmX13 rfl (kd_lt (by rw [hk]; decide)) (ent_11 hk) (Nat.le_of_ble_eq_true rfl) ?_ (fun q hq => ent_aI hq) rfl rfl rfl hd k
  show ent G.1 (sI M o 5 x) o = _
  unfold sI
  rw [ent_aI_s]
  unfold entK
  rw [hk]
  rfl
theorem gfX13_352 {G : GX} {Q : State → Prop} {kc ks pc nL : Nat} {lv : List (Nat × Value)} {st : List Value} {M : Mem} {b : ByteArray} {ret : Option FieldType} {rm : Room} (h : OKm G b RX13 nL ret rm) {o : Nat} (hk : kd o = 11) (hd : decode b pc = .ok (.getfield 352, 3)) (k : GG G Q kc ks (pc + 3) lv (.int (gI M o 64) :: st) M) : GG G Q kc ks pc lv (rv G.1 o :: st) M :=
  g_get h inW13 rfl 64 (by decide) flX13_352 (kd_lt (by rw [hk]; decide)) (ent_11 hk) rfl hd k
theorem pfX13_352 {G : GX} {Q : State → Prop} {kc ks pc nL : Nat} {lv : List (Nat × Value)} {st : List Value} {M : Mem} {b : ByteArray} {ret : Option FieldType} {rm : Room} (h : OKm G b RX13 nL ret rm) {o : Nat} {x : Int32} (hk : kd o = 11) (hd : decode b pc = .ok (.putfield 352, 3)) (k : GG G Q kc ks (pc + 3) lv st (sI M o 64 x)) : GG G Q kc ks pc lv (.int x :: rv G.1 o :: st) M := by
  refine g_put h inW13 rfl 64 (by decide) flX13_352 tyX13_ok nmX13 rfl (kd_lt (by rw [hk]; decide)) (ent_11 hk) (Nat.le_of_ble_eq_true rfl) ?_ (fun q hq => ent_aI hq) rfl rfl rfl hd k
  show ent G.1 (sI M o 64 x) o = _
  unfold sI
  rw [ent_aI_s]
  unfold entK
  rw [hk]
  rfl
theorem gfX13_355 {G : GX} {Q : State → Prop} {kc ks pc nL : Nat} {lv : List (Nat × Value)} {st : List Value} {M : Mem} {b : ByteArray} {ret : Option FieldType} {rm : Room} (h : OKm G b RX13 nL ret rm) {o : Nat} (hk : kd o = 11) (hd : decode b pc = .ok (.getfield 355, 3)) (k : GG G Q kc ks (pc + 3) lv (.int (gI M o 69) :: st) M) : GG G Q kc ks pc lv (rv G.1 o :: st) M :=
  g_get h inW13 rfl 69 (by decide) flX13_355 (kd_lt (by rw [hk]; decide)) (ent_11 hk) rfl hd k
theorem pfX13_355 {G : GX} {Q : State → Prop} {kc ks pc nL : Nat} {lv : List (Nat × Value)} {st : List Value} {M : Mem} {b : ByteArray} {ret : Option FieldType} {rm : Room} (h : OKm G b RX13 nL ret rm) {o : Nat} {x : Int32} (hk : kd o = 11) (hd : decode b pc = .ok (.putfield 355, 3)) (k : GG G Q kc ks (pc + 3) lv st (sI M o 69 x)) : GG G Q kc ks pc lv (.int x :: rv G.1 o :: st) M := by
  refine g_put h inW13 rfl 69 (by decide) flX13_355 tyX13_ok nmX13 rfl (kd_lt (by rw [hk]; decide)) (ent_11 hk) (Nat.le_of_ble_eq_true rfl) ?_ (fun q hq => ent_aI hq) rfl rfl rfl hd k
  show ent G.1 (sI M o 69 x) o = _
  unfold sI
  rw [ent_aI_s]
  unfold entK
  rw [hk]
  rfl
theorem gfX13_358 {G : GX} {Q : State → Prop} {kc ks pc nL : Nat} {lv : List (Nat × Value)} {st : List Value} {M : Mem} {b : ByteArray} {ret : Option FieldType} {rm : Room} (h : OKm G b RX13 nL ret rm) {o : Nat} (hk : kd o = 11) (hd : decode b pc = .ok (.getfield 358, 3)) (k : GG G Q kc ks (pc + 3) lv (.int (gI M o 74) :: st) M) : GG G Q kc ks pc lv (rv G.1 o :: st) M :=
  g_get h inW13 rfl 74 (by decide) flX13_358 (kd_lt (by rw [hk]; decide)) (ent_11 hk) rfl hd k
theorem pfX13_358 {G : GX} {Q : State → Prop} {kc ks pc nL : Nat} {lv : List (Nat × Value)} {st : List Value} {M : Mem} {b : ByteArray} {ret : Option FieldType} {rm : Room} (h : OKm G b RX13 nL ret rm) {o : Nat} {x : Int32} (hk : kd o = 11) (hz : x = 0 ∨ x = 1) (hd : decode b pc = .ok (.putfield 358, 3)) (k : GG G Q kc ks (pc + 3) lv st (sI M o 74 x)) : GG G Q kc ks pc lv (.int x :: rv G.1 o :: st) M := by
  refine g_put h inW13 rfl 74 (by decide) flX13_358 tyX13_ok nmX13 rfl (kd_lt (by rw [hk]; decide)) (ent_11 hk) (Nat.le_of_ble_eq_true rfl) ?_ (fun q hq => ent_aI hq) rfl (by rcases hz with rfl | rfl <;> rfl) (by rcases hz with rfl | rfl <;> rfl) hd k
  show ent G.1 (sI M o 74 x) o = _
  unfold sI
  rw [ent_aI_s]
  unfold entK
  rw [hk]
  rfl
theorem gfX13_444 {G : GX} {Q : State → Prop} {kc ks pc nL : Nat} {lv : List (Nat × Value)} {st : List Value} {M : Mem} {b : ByteArray} {ret : Option FieldType} {rm : Room} (h : OKm G b RX13 nL ret rm) {o : Nat} (hk : kd o = 11) (hd : decode b pc = .ok (.getfield 444, 3)) (k : GG G Q kc ks (pc + 3) lv (.int (gI M o 67) :: st) M) : GG G Q kc ks pc lv (rv G.1 o :: st) M :=
  g_get h inW13 rfl 67 (by decide) flX13_444 (kd_lt (by rw [hk]; decide)) (ent_11 hk) rfl hd k
theorem pfX13_444 {G : GX} {Q : State → Prop} {kc ks pc nL : Nat} {lv : List (Nat × Value)} {st : List Value} {M : Mem} {b : ByteArray} {ret : Option FieldType} {rm : Room} (h : OKm G b RX13 nL ret rm) {o : Nat} {x : Int32} (hk : kd o = 11) (hd : decode b pc = .ok (.putfield 444, 3)) (k : GG G Q kc ks (pc + 3) lv st (sI M o 67 x)) : GG G Q kc ks pc lv (.int x :: rv G.1 o :: st) M := by
  refine g_put h inW13 rfl 67 (by decide) flX13_444 tyX13_ok nmX13 rfl (kd_lt (by rw [hk]; decide)) (ent_11 hk) (Nat.le_of_ble_eq_true rfl) ?_ (fun q hq => ent_aI hq) rfl rfl rfl hd k
  show ent G.1 (sI M o 67 x) o = _
  unfold sI
  rw [ent_aI_s]
  unfold entK
  rw [hk]
  rfl
theorem gfX13_480 {G : GX} {Q : State → Prop} {kc ks pc nL : Nat} {lv : List (Nat × Value)} {st : List Value} {M : Mem} {b : ByteArray} {ret : Option FieldType} {rm : Room} (h : OKm G b RX13 nL ret rm) {o : Nat} (hk : kd o = 11) (hd : decode b pc = .ok (.getfield 480, 3)) (k : GG G Q kc ks (pc + 3) lv (.int (gI M o 73) :: st) M) : GG G Q kc ks pc lv (rv G.1 o :: st) M :=
  g_get h inW13 rfl 73 (by decide) flX13_480 (kd_lt (by rw [hk]; decide)) (ent_11 hk) rfl hd k
theorem pfX13_480 {G : GX} {Q : State → Prop} {kc ks pc nL : Nat} {lv : List (Nat × Value)} {st : List Value} {M : Mem} {b : ByteArray} {ret : Option FieldType} {rm : Room} (h : OKm G b RX13 nL ret rm) {o : Nat} {x : Int32} (hk : kd o = 11) (hd : decode b pc = .ok (.putfield 480, 3)) (k : GG G Q kc ks (pc + 3) lv st (sI M o 73 x)) : GG G Q kc ks pc lv (.int x :: rv G.1 o :: st) M := by
  refine g_put h inW13 rfl 73 (by decide) flX13_480 tyX13_ok nmX13 rfl (kd_lt (by rw [hk]; decide)) (ent_11 hk) (Nat.le_of_ble_eq_true rfl) ?_ (fun q hq => ent_aI hq) rfl rfl rfl hd k
  show ent G.1 (sI M o 73 x) o = _
  unfold sI
  rw [ent_aI_s]
  unfold entK
  rw [hk]
  rfl
theorem gfX13_493 {G : GX} {Q : State → Prop} {kc ks pc nL : Nat} {lv : List (Nat × Value)} {st : List Value} {M : Mem} {b : ByteArray} {ret : Option FieldType} {rm : Room} (h : OKm G b RX13 nL ret rm) {o : Nat} (hk : kd o = 11) (hd : decode b pc = .ok (.getfield 493, 3)) (k : GG G Q kc ks (pc + 3) lv (.int (gI M o 75) :: st) M) : GG G Q kc ks pc lv (rv G.1 o :: st) M :=
  g_get h inW13 rfl 75 (by decide) flX13_493 (kd_lt (by rw [hk]; decide)) (ent_11 hk) rfl hd k
theorem pfX13_493 {G : GX} {Q : State → Prop} {kc ks pc nL : Nat} {lv : List (Nat × Value)} {st : List Value} {M : Mem} {b : ByteArray} {ret : Option FieldType} {rm : Room} (h : OKm G b RX13 nL ret rm) {o : Nat} {x : Int32} (hk : kd o = 11) (hd : decode b pc = .ok (.putfield 493, 3)) (k : GG G Q kc ks (pc + 3) lv st (sI M o 75 x)) : GG G Q kc ks pc lv (.int x :: rv G.1 o :: st) M := by
  refine g_put h inW13 rfl 75 (by decide) flX13_493 tyX13_ok nmX13 rfl (kd_lt (by rw [hk]; decide)) (ent_11 hk) (Nat.le_of_ble_eq_true rfl) ?_ (fun q hq => ent_aI hq) rfl rfl rfl hd k
  show ent G.1 (sI M o 75 x) o = _
  unfold sI
  rw [ent_aI_s]
  unfold entK
  rw [hk]
  rfl
theorem gfX13_496 {G : GX} {Q : State → Prop} {kc ks pc nL : Nat} {lv : List (Nat × Value)} {st : List Value} {M : Mem} {b : ByteArray} {ret : Option FieldType} {rm : Room} (h : OKm G b RX13 nL ret rm) {o : Nat} (hk : kd o = 11) (hd : decode b pc = .ok (.getfield 496, 3)) (k : GG G Q kc ks (pc + 3) lv (.int (gI M o 76) :: st) M) : GG G Q kc ks pc lv (rv G.1 o :: st) M :=
  g_get h inW13 rfl 76 (by decide) flX13_496 (kd_lt (by rw [hk]; decide)) (ent_11 hk) rfl hd k
theorem pfX13_496 {G : GX} {Q : State → Prop} {kc ks pc nL : Nat} {lv : List (Nat × Value)} {st : List Value} {M : Mem} {b : ByteArray} {ret : Option FieldType} {rm : Room} (h : OKm G b RX13 nL ret rm) {o : Nat} {x : Int32} (hk : kd o = 11) (hd : decode b pc = .ok (.putfield 496, 3)) (k : GG G Q kc ks (pc + 3) lv st (sI M o 76 x)) : GG G Q kc ks pc lv (.int x :: rv G.1 o :: st) M := by
  refine g_put h inW13 rfl 76 (by decide) flX13_496 tyX13_ok nmX13 rfl (kd_lt (by rw [hk]; decide)) (ent_11 hk) (Nat.le_of_ble_eq_true rfl) ?_ (fun q hq => ent_aI hq) rfl rfl rfl hd k
  show ent G.1 (sI M o 76 x) o = _
  unfold sI
  rw [ent_aI_s]
  unfold entK
  rw [hk]
  rfl
theorem kf0_1 {o : Nat} (h : kd o = 0) : kd (o + 1) = 20 := (by decide +kernel : ∀ o, o < KN → kd o = 0 → kd (o + 1) = 20) o (kd_lt (by rw [h]; decide)) h
theorem lf0_1 {o : Nat} (h : kd o = 0) : ln (o + 1) = 1240 := (by decide +kernel : ∀ o, o < KN → kd o = 0 → ln (o + 1) = 1240) o (kd_lt (by rw [h]; decide)) h
theorem kf2_1 {o : Nat} (h : kd o = 2) : kd (o + 1) = 20 := (by decide +kernel : ∀ o, o < KN → kd o = 2 → kd (o + 1) = 20) o (kd_lt (by rw [h]; decide)) h
theorem lf2_1 {o : Nat} (h : kd o = 2) : ln (o + 1) = 2 := (by decide +kernel : ∀ o, o < KN → kd o = 2 → ln (o + 1) = 2) o (kd_lt (by rw [h]; decide)) h
theorem kf2_2 {o : Nat} (h : kd o = 2) : kd (o + 2) = 20 := (by decide +kernel : ∀ o, o < KN → kd o = 2 → kd (o + 2) = 20) o (kd_lt (by rw [h]; decide)) h
theorem lf2_2 {o : Nat} (h : kd o = 2) : ln (o + 2) = 2 := (by decide +kernel : ∀ o, o < KN → kd o = 2 → ln (o + 2) = 2) o (kd_lt (by rw [h]; decide)) h
theorem kf2_3 {o : Nat} (h : kd o = 2) : kd (o + 3) = 20 := (by decide +kernel : ∀ o, o < KN → kd o = 2 → kd (o + 3) = 20) o (kd_lt (by rw [h]; decide)) h
theorem lf2_3 {o : Nat} (h : kd o = 2) : ln (o + 3) = 12 := (by decide +kernel : ∀ o, o < KN → kd o = 2 → ln (o + 3) = 12) o (kd_lt (by rw [h]; decide)) h
theorem kf2_4 {o : Nat} (h : kd o = 2) : kd (o + 4) = 20 := (by decide +kernel : ∀ o, o < KN → kd o = 2 → kd (o + 4) = 20) o (kd_lt (by rw [h]; decide)) h
theorem lf2_4 {o : Nat} (h : kd o = 2) : ln (o + 4) = 6 := (by decide +kernel : ∀ o, o < KN → kd o = 2 → ln (o + 4) = 6) o (kd_lt (by rw [h]; decide)) h
theorem kf3_1 {o : Nat} (h : kd o = 3) : kd (o + 1) = 20 := (by decide +kernel : ∀ o, o < KN → kd o = 3 → kd (o + 1) = 20) o (kd_lt (by rw [h]; decide)) h
theorem lf3_1 {o : Nat} (h : kd o = 3) : ln (o + 1) = 7 := (by decide +kernel : ∀ o, o < KN → kd o = 3 → ln (o + 1) = 7) o (kd_lt (by rw [h]; decide)) h
theorem kf3_2 {o : Nat} (h : kd o = 3) : kd (o + 2) = 20 := (by decide +kernel : ∀ o, o < KN → kd o = 3 → kd (o + 2) = 20) o (kd_lt (by rw [h]; decide)) h
theorem lf3_2 {o : Nat} (h : kd o = 3) : ln (o + 2) = 7 := (by decide +kernel : ∀ o, o < KN → kd o = 3 → ln (o + 2) = 7) o (kd_lt (by rw [h]; decide)) h
theorem kf4_1 {o : Nat} (h : kd o = 4) : kd (o + 1) = 20 := (by decide +kernel : ∀ o, o < KN → kd o = 4 → kd (o + 1) = 20) o (kd_lt (by rw [h]; decide)) h
theorem lf4_1 {o : Nat} (h : kd o = 4) : ln (o + 1) = 7 := (by decide +kernel : ∀ o, o < KN → kd o = 4 → ln (o + 1) = 7) o (kd_lt (by rw [h]; decide)) h
theorem kf4_2 {o : Nat} (h : kd o = 4) : kd (o + 2) = 20 := (by decide +kernel : ∀ o, o < KN → kd o = 4 → kd (o + 2) = 20) o (kd_lt (by rw [h]; decide)) h
theorem lf4_2 {o : Nat} (h : kd o = 4) : ln (o + 2) = 7 := (by decide +kernel : ∀ o, o < KN → kd o = 4 → ln (o + 2) = 7) o (kd_lt (by rw [h]; decide)) h
theorem kf4_3 {o : Nat} (h : kd o = 4) : kd (o + 3) = 20 := (by decide +kernel : ∀ o, o < KN → kd o = 4 → kd (o + 3) = 20) o (kd_lt (by rw [h]; decide)) h
theorem lf4_3 {o : Nat} (h : kd o = 4) : ln (o + 3) = 7 := (by decide +kernel : ∀ o, o < KN → kd o = 4 → ln (o + 3) = 7) o (kd_lt (by rw [h]; decide)) h
theorem kf4_4 {o : Nat} (h : kd o = 4) : kd (o + 4) = 20 := (by decide +kernel : ∀ o, o < KN → kd o = 4 → kd (o + 4) = 20) o (kd_lt (by rw [h]; decide)) h
theorem lf4_4 {o : Nat} (h : kd o = 4) : ln (o + 4) = 7 := (by decide +kernel : ∀ o, o < KN → kd o = 4 → ln (o + 4) = 7) o (kd_lt (by rw [h]; decide)) h
theorem kf4_5 {o : Nat} (h : kd o = 4) : kd (o + 5) = 20 := (by decide +kernel : ∀ o, o < KN → kd o = 4 → kd (o + 5) = 20) o (kd_lt (by rw [h]; decide)) h
theorem lf4_5 {o : Nat} (h : kd o = 4) : ln (o + 5) = 2 := (by decide +kernel : ∀ o, o < KN → kd o = 4 → ln (o + 5) = 2) o (kd_lt (by rw [h]; decide)) h
theorem kf4_6 {o : Nat} (h : kd o = 4) : kd (o + 6) = 20 := (by decide +kernel : ∀ o, o < KN → kd o = 4 → kd (o + 6) = 20) o (kd_lt (by rw [h]; decide)) h
theorem lf4_6 {o : Nat} (h : kd o = 4) : ln (o + 6) = 10 := (by decide +kernel : ∀ o, o < KN → kd o = 4 → ln (o + 6) = 10) o (kd_lt (by rw [h]; decide)) h
theorem kf4_7 {o : Nat} (h : kd o = 4) : kd (o + 7) = 20 := (by decide +kernel : ∀ o, o < KN → kd o = 4 → kd (o + 7) = 20) o (kd_lt (by rw [h]; decide)) h
theorem lf4_7 {o : Nat} (h : kd o = 4) : ln (o + 7) = 6 := (by decide +kernel : ∀ o, o < KN → kd o = 4 → ln (o + 7) = 6) o (kd_lt (by rw [h]; decide)) h
theorem kf4_8 {o : Nat} (h : kd o = 4) : kd (o + 8) = 3 := (by decide +kernel : ∀ o, o < KN → kd o = 4 → kd (o + 8) = 3) o (kd_lt (by rw [h]; decide)) h
theorem lf4_8 {o : Nat} (h : kd o = 4) : ln (o + 8) = 0 := (by decide +kernel : ∀ o, o < KN → kd o = 4 → ln (o + 8) = 0) o (kd_lt (by rw [h]; decide)) h
theorem kf4_11 {o : Nat} (h : kd o = 4) : kd (o + 11) = 3 := (by decide +kernel : ∀ o, o < KN → kd o = 4 → kd (o + 11) = 3) o (kd_lt (by rw [h]; decide)) h
theorem lf4_11 {o : Nat} (h : kd o = 4) : ln (o + 11) = 0 := (by decide +kernel : ∀ o, o < KN → kd o = 4 → ln (o + 11) = 0) o (kd_lt (by rw [h]; decide)) h
theorem kf4_15 {o : Nat} (h : kd o = 4) : kd (o + 15) = 7 := (by decide +kernel : ∀ o, o < KN → kd o = 4 → kd (o + 15) = 7) o (kd_lt (by rw [h]; decide)) h
theorem lf4_15 {o : Nat} (h : kd o = 4) : ln (o + 15) = 0 := (by decide +kernel : ∀ o, o < KN → kd o = 4 → ln (o + 15) = 0) o (kd_lt (by rw [h]; decide)) h
theorem kf4_16 {o : Nat} (h : kd o = 4) : kd (o + 16) = 7 := (by decide +kernel : ∀ o, o < KN → kd o = 4 → kd (o + 16) = 7) o (kd_lt (by rw [h]; decide)) h
theorem lf4_16 {o : Nat} (h : kd o = 4) : ln (o + 16) = 0 := (by decide +kernel : ∀ o, o < KN → kd o = 4 → ln (o + 16) = 0) o (kd_lt (by rw [h]; decide)) h
theorem kf8_1 {o : Nat} (h : kd o = 8) : kd (o + 1) = 20 := (by decide +kernel : ∀ o, o < KN → kd o = 8 → kd (o + 1) = 20) o (kd_lt (by rw [h]; decide)) h
theorem lf8_1 {o : Nat} (h : kd o = 8) : ln (o + 1) = 8 := (by decide +kernel : ∀ o, o < KN → kd o = 8 → ln (o + 1) = 8) o (kd_lt (by rw [h]; decide)) h
theorem kf8_2 {o : Nat} (h : kd o = 8) : kd (o + 2) = 20 := (by decide +kernel : ∀ o, o < KN → kd o = 8 → kd (o + 2) = 20) o (kd_lt (by rw [h]; decide)) h
theorem lf8_2 {o : Nat} (h : kd o = 8) : ln (o + 2) = 8 := (by decide +kernel : ∀ o, o < KN → kd o = 8 → ln (o + 2) = 8) o (kd_lt (by rw [h]; decide)) h
theorem kfrc {o : Nat} (h : kd o = 7) : kd (rcT o) = 20 := (by decide +kernel : ∀ o, o < KN → kd o = 7 → kd (rcT o) = 20) o (kd_lt (by rw [h]; decide)) h
theorem lfrc {o : Nat} (h : kd o = 7) : ln (rcT o) = 700 := (by decide +kernel : ∀ o, o < KN → kd o = 7 → ln (rcT o) = 700) o (kd_lt (by rw [h]; decide)) h
theorem smMathmin : Cond.static Lib.Math.min.name ∈ LW := List.mem_filter.mpr ⟨(List.mem_append_right _ (List.mem_append_right _ (List.mem_append_right _ (List.mem_append_left _ (List.mem_of_getElem? (i := 45) rfl))))), rfl⟩
theorem ceMathmin : Cond.code Lib.Math.min.name Lib.Math.min.code 2 (some .int) ∈ LW := List.mem_filter.mpr ⟨(List.mem_append_right _ (List.mem_append_right _ (List.mem_append_right _ (List.mem_append_left _ (List.mem_of_getElem? (i := 46) rfl))))), rfl⟩
theorem smMathmax : Cond.static Lib.Math.max.name ∈ LW := List.mem_filter.mpr ⟨(List.mem_append_right _ (List.mem_append_right _ (List.mem_append_right _ (List.mem_append_left _ (List.mem_of_getElem? (i := 52) rfl))))), rfl⟩
theorem ceMathmax : Cond.code Lib.Math.max.name Lib.Math.max.code 2 (some .int) ∈ LW := List.mem_filter.mpr ⟨(List.mem_append_right _ (List.mem_append_right _ (List.mem_append_right _ (List.mem_append_left _ (List.mem_of_getElem? (i := 53) rfl))))), rfl⟩
theorem smMathabs : Cond.static Lib.Math.abs.name ∈ LW := List.mem_filter.mpr ⟨(List.mem_append_right _ (List.mem_append_right _ (List.mem_append_right _ (List.mem_append_right _ (List.mem_append_right _ (List.mem_append_right _ (List.mem_append_left _ (List.mem_of_getElem? (i := 26) rfl)))))))), rfl⟩
theorem ceMathabs : Cond.code Lib.Math.abs.name Lib.Math.abs.code 1 (some .int) ∈ LW := List.mem_filter.mpr ⟨(List.mem_append_right _ (List.mem_append_right _ (List.mem_append_right _ (List.mem_append_right _ (List.mem_append_right _ (List.mem_append_right _ (List.mem_append_left _ (List.mem_of_getElem? (i := 27) rfl)))))))), rfl⟩
theorem initMath : Cond.initialized "java/lang/Math" ∈ LW := List.mem_filter.mpr ⟨(List.mem_append_right _ (List.mem_append_left _ (List.mem_of_getElem? (i := 19) rfl))), rfl⟩
theorem initSystem : Cond.initialized "java/lang/System" ∈ LW := List.mem_filter.mpr ⟨(List.mem_append_right _ (List.mem_append_left _ (List.mem_of_getElem? (i := 25) rfl))), rfl⟩
theorem smCopy : Cond.static arraycopyName ∈ LW := List.mem_filter.mpr ⟨(List.mem_append_right _ (List.mem_append_right _ (List.mem_append_right _ (List.mem_append_left _ (List.mem_of_getElem? (i := 17) rfl))))), rfl⟩
theorem natCopy : Cond.native arraycopyName ∈ LW := List.mem_filter.mpr ⟨(List.mem_append_right _ (List.mem_append_right _ (List.mem_append_right _ (List.mem_append_left _ (List.mem_of_getElem? (i := 18) rfl))))), rfl⟩
