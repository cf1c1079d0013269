def exN (k : Nat) : String := if k = 1 then "java/util/NoSuchElementException" else "java/lang/IllegalArgumentException"
/-- an exception of kind k, the memory as it was -/
def XX (w : WX) (xk : Option Nat) (M0 : Mem) : String → State → State → Prop := fun E st t => ∃ k, xk = some k ∧ E = exN k ∧ Wd w M0 t.heap ∧ va_F (AA w) st t
def QmX (G : GX) (post : Option Value → Mem → Prop) (xk : Option Nat) (M0 : Mem) (mc ms : Nat) : State → Prop := match G with
  | (w, _, _, _, _, s, _, args, below, _, _) => vx_MQ below (QQ w post) (XX w xk M0) args s mc ms (AA w)
def CX (l : Launch) (w : WX) (y : MethodName) (bytes : ByteArray) (maxL : Nat) (ret : Option FieldType) (rm : Room) (mc ms : Nat) (av : List Value) (M : Mem) (post : Option Value → Mem → Prop) (xk : Option Nat) : Prop :=
  vx_Met l y (Cond.code y bytes maxL ret :: LW) rm (va_Pc av (fun U => Wd w M U.heap ∧ SS w U)) (QQ w post) (XX w xk M) mc ms (AA w)
/-- no traces are kept; no handlers here -/
def OKe (G : GX) : Prop := G.2.2.1.stackTraces = false ∧ ∀ x ∈ G.2.2.2.2.2.2.2.2.2.2.exceptionTable.toList, False
def okx {α : Type} (P : α → Option Value → Mem → Prop) (q : Except Nat α) : Option Value → Mem → Prop := fun v M' => ∃ a, q = .ok a ∧ P a v M'
def erx {α : Type} (q : Except Nat α) : Option Nat := match q with
  | .error e => some e
  | .ok _ => none
def Pnn (M : Mem) : Option Value → Mem → Prop := fun v M' => v = none ∧ M' = M
def bE {α β : Type} (o : Option (Except Nat α)) (k : α → Option (Except Nat β)) : Option (Except Nat β) := match o with
  | none => none
  | some (.error e) => some (.error e)
  | some (.ok a) => k a
theorem bE_some {α β : Type} {o : Option (Except Nat α)} {k : α → Option (Except Nat β)} {r : Except Nat β} (h : bE o k = some r) : (∃ a, o = some (.ok a) ∧ k a = some r) ∨ ∃ e, o = some (.error e) ∧ r = .error e := by
  cases o with
  | none => cases h
  | some q =>
    cases q with
    | error e => cases h; exact Or.inr ⟨e, rfl, rfl⟩
    | ok a => exact Or.inl ⟨a, rfl, h⟩
theorem CX_of {l : Launch} {w : WX} {y : MethodName} {bytes : ByteArray} {maxL : Nat} {ret : Option FieldType} {rm : Room} {mc ms : Nat} {av : List Value} {M : Mem} {post : Option Value → Mem → Prop} {xk : Option Nat} (hl : l.stackTraces = false) (hy : plainName y.cls = true) (hsz : (lg_sl av).length ≤ maxL)
    (body : ∀ G : GX, G.1 = w → G.2.2.1 = l → OKm G bytes y.cls maxL ret rm → OKe G → GG G (QmX G post xk M mc ms) 0 0 0 (lv_args 0 av) [] M) : CX l w y bytes maxL ret rm mc ms av M post xk := by
  refine vx_ofW (cc := bytes) (maxL := maxL) (ret := ret) hy rfl ?_
  intro p e s m args below meth c s₁ B hml ht hv
  obtain ⟨rfl, hWd, hSS⟩ := hv
  have hts := atoms_spec (ws := Cond.code y bytes maxL ret :: LW) B.pre
  have hlv := lv_entry av (n := maxL) hsz
  rw [lg_entry_eq]
  exact body (w, p, l, e, rm, s, m, av.toArray, below, meth, c) rfl rfl ⟨B.exec, B.bytes, hml, findClass_of_methodNamed B.named, fun x hx => hts x (List.mem_cons_of_mem _ hx), hSS, B.notSynchronized, B.returns, rfl⟩ ⟨hl, ht⟩ s.heap [] _ (by rw [hml]; exact hlv) hWd va_S.rf
theorem g_ret {G : GX} {post : Option Value → Mem → Prop} {xk : Option Nat} {M0 M : Mem} {mc ms kc ks pc : Nat} {lv : List (Nat × Value)} {st : List Value} (k : GG G (Qm G post mc ms) kc ks pc lv st M) : GG G (QmX G post xk M0 mc ms) kc ks pc lv st M := by
  obtain ⟨w, p, l, e, R, s, m, args, below, meth, c⟩ := G
  intro H locs ls hl hP hS
  exact vx_ret (k H locs ls hl hP hS)
theorem g_xback {w : WX} {p : Program} {l : Launch} {e : Env} {R : Room} {s : State} {m : MethodId} {args : Array Value} {below : List Frame} {meth : Method} {c : Code} {H : Heap} {locs : List Loc} {kc ks mc1 ms1 mc ms pc : Nat} {ls : Array Slot} {lv : List (Nat × Value)} {rest st0 : List Value} {a : Array Value} {post post1 : Option Value → Mem → Prop} {xk xk1 : Option Nat} {M : Mem}
    (hr : vx_Run p l e R s m args below meth c H locs kc ks mc1 ms1 (F0 m pc ls st0) rest (QQ w post1 a) (XX w xk1 M) (AA w)) (hS : va_S (AA w) s.heap H locs) (hl : lv_has ls c.maxLocals lv) (ht : ∀ x ∈ c.exceptionTable.toList, False) (hlk : meth.locks = false) (hc : kc + mc1 ≤ mc) (hs : ks + ms1 ≤ ms)
    (kx : ∀ z, xk1 = some z → xk = some z)
    (kk : ∀ (z : Option Value) (M1 : Mem), post1 z M1 → GG (w, p, l, e, R, s, m, args, below, meth, c) (QmX (w, p, l, e, R, s, m, args, below, meth, c) post xk M mc ms) (kc + mc1) (ks + ms1) (pc + 3) lv (z.toList ++ rest) M1) : W p l e R s m args below meth c H locs kc ks (QmX (w, p, l, e, R, s, m, args, below, meth, c) post xk M mc ms) (F0 m pc ls st0) := by
  intro T hT X
  have keep : ∀ (st₀ t T' : State) (L : List Loc), st₀.heap = H → T'.heap = t.heap → (∀ q ∈ L, AA w q.base) → va_F (AA w) st₀ t → va_S (AA w) s.heap T'.heap (locs ++ L) := fun st₀ t T' L h0 e1 hL hF => (vx_keep h0 e1 hS (fun _ _ q => q) (fun _ q => q) hL hF).2.2
  rcases hr T hT X with ⟨z, st₀, t, T', L, h0, X', hL, e1, e2, ⟨⟨z', M1, hv, hp, hW⟩, hF⟩, st⟩ | ⟨q, st₀, t, T', L, E, ce, h0, X', hL, e1, e2, ⟨k9, hk9, hE, hW, hF⟩, hce, hcv, hcl, st⟩
  · cases hv
    obtain ⟨t2, a1, b1⟩ := kk z M1 hp T'.heap (locs ++ L) ls hl (by rw [e1]; exact hW) (keep st₀ t T' L h0 e1 hL hF) T' rfl X'
    exact ⟨t2, st t2 a1, b1⟩
  · have hS2 := keep st₀ t T' L h0 e1 hL hF
    obtain ⟨t2, a1, b1⟩ := vx_out (p := p) (l := l) (e := e) (R := R) (s := s) (m := m) (args := args) (below := below) (meth := meth) (c := c) (H := T'.heap) (locs := locs ++ L) (cells := kc + mc1) (slots := ks + ms1) (free := AA w) (ls := ls) (rest := rest) (Qc := QQ w post) (XC := XX w xk M) (pc := pc) (E := E) (ce := ce) (q := q) (mc := mc) (ms := ms) (fun x hx => absurd hx (fun h => ht x h)) hlk (by rw [e1]; exact hce) hcv hcl (fun t1 ht1 _ => ⟨k9, kx k9 hk9, hE, by rw [ht1, e1]; exact hW, hS2.F ht1⟩) hS2.2.2 hc hs T' rfl X'
    exact ⟨t2, st.trans a1, b1⟩
theorem g_xcallV {G : GX} {kc ks pc nL : Nat} {lv : List (Nat × Value)} {st : List Value} {M : Mem} {b : ByteArray} {own : String} {ret : Option FieldType} {rm : Room} (h : OKm G b own nL ret rm) {o : Nat} (hE : OKe G) {ci mc1 ms1 mc ms : Nat} {fs : List Value} {T : u_T} {N : Nat} {post post1 : Option Value → Mem → Prop} {xk xk1 : Option Nat} {idx n maxL : Nat} {y : MethodName} {bytes : ByteArray} {ret1 : Option FieldType} {rm1 : Room} {As rest : List Value}  (hce : CE y bytes maxL ret1 n) (hmk : Cond.methodLink own idx y ∈ LW) (hin : Cond.instanceMethod y ∈ LW) (hse : ∀ x ∈ [Cond.selects y.cls y y], x ∈ lw_tbl) (hc : vwCl[ci]? = some (y.cls, T, N)) (ho : o < KN) (he : ent G.1 M o = .inr (ci, fs)) (hrc : rm1.cells = mc1) (hrs : rm1.slots = ms1) (hRR : rm1.frames + 1 ≤ rm.frames ∧ 8 + (maxL + 11) + rm1.locals ≤ rm.locals) (hroom : kc + mc1 ≤ rm.cells ∧ ks + ms1 ≤ rm.slots) (hn : As.length = n) (hmc : kc + mc1 ≤ mc) (hms : ks + ms1 ≤ ms) (hd : decode b pc = .ok (.invokevirtual idx, 3)) (hst : st = As.reverse ++ rv G.1 o :: rest) (hcat : (rest.map fun v => v.category).sum ≤ 8) (cm : CX G.2.2.1 G.1 y bytes maxL ret1 rm1 mc1 ms1 (rv G.1 o :: As) M post1 xk1) (kx : ∀ z, xk1 = some z → xk = some z) (kk : ∀ (z : Option Value) (M1 : Mem), post1 z M1 → GG G (QmX G post xk M mc ms) (kc + mc1) (ks + ms1) (pc + 3) lv (z.toList ++ rest) M1) : GG G (QmX G post xk M mc ms) kc ks pc lv st M := by
  obtain ⟨w, p, l, e, R, s, m, args, below, meth, c⟩ := G
  obtain ⟨hx, hb, hml, hown, hts, hSS, hlk, hret, hR⟩ := h
  obtain ⟨hco, hini, hy1, hy2, hpar⟩ := hce
  intro H locs ls hl hP hS
  subst hR
  subst hst
  have hw := WL_at (w := w) (M := M) ho
  rw [show ent w M o = _ from he] at hw
  have cw : CallB R s args own idx y bytes maxL ret1 (Cond.code y bytes maxL ret1 :: LW) rm1 mc1 ms1 n := callB_of n hts (LW_in hco) rfl hrc hrs (hts _ hini) (hts _ hmk) ⟨hy1, hy2, hpar⟩ hRR
  have hsel : (Cond.selects y.cls y y).before args s = true := hts _ (List.mem_filter.mpr ⟨hse _ List.mem_cons_self, rfl⟩)
  exact g_xback (vx_runV (As := As) (rest := rest) (b := w.1 + o) ⟨hx, hb, hml, hown, hts⟩ cm ⟨cw, hts _ hin, hsel⟩ ⟨CM_blind, va_recv hSS.1 hP hc hw, fun U hU hW => ⟨by rw [rv_lt ho], by rw [hU]; exact hP, hSS.to hW hS hU⟩⟩ rfl hn (hl.1.trans hml) (by rw [rv_lt ho]) (lv_room hcat) hd hroom) hS hl hE.2 hlk hmc hms kx kk
theorem g_xneed {G : GX} {kc ks pc nL : Nat} {lv : List (Nat × Value)} {st : List Value} {M : Mem} {b : ByteArray} {own : String} {ret : Option FieldType} {rm : Room} (h : OKm G b own nL ret rm) {o : Nat} (hE : OKe G) {ci mc ms : Nat} {fs : List Value} {T : u_T} {N : Nat} {α : Type} {P : α → Option Value → Mem → Prop} {f1 : Option (Except Nat Unit)} {kf : Unit → Option (Except Nat α)} {res : Except Nat α} (zf : bE f1 kf = some res) {idx n maxL : Nat} {y : MethodName} {bytes : ByteArray} {ret1 : Option FieldType} {rm1 : Room} {As rest : List Value}  (hce : CE y bytes maxL ret1 n) (hmk : Cond.methodLink own idx y ∈ LW) (hin : Cond.instanceMethod y ∈ LW) (hse : ∀ x ∈ [Cond.selects y.cls y y], x ∈ lw_tbl) (hc : vwCl[ci]? = some (y.cls, T, N)) (ho : o < KN) (he : ent G.1 M o = .inr (ci, fs)) (hrc : rm1.cells = 1) (hrs : rm1.slots = 6) (hRR : rm1.frames + 1 ≤ rm.frames ∧ 8 + (maxL + 11) + rm1.locals ≤ rm.locals) (hroom : kc + 1 ≤ rm.cells ∧ ks + 6 ≤ rm.slots) (hn : As.length = n) (hmc : kc + 1 ≤ mc) (hms : ks + 6 ≤ ms) (hd : decode b pc = .ok (.invokevirtual idx, 3)) (hst : st = As.reverse ++ rv G.1 o :: rest) (hcat : (rest.map fun v => v.category).sum ≤ 8) (cm : ∀ q, f1 = some q → CX G.2.2.1 G.1 y bytes maxL ret1 rm1 1 6 (rv G.1 o :: As) M (okx (fun _ => Pnn M) q) (erx q)) (kk : kf () = some res → GG G (QmX G (okx P res) (erx res) M mc ms) (kc + 1) (ks + 6) (pc + 3) lv rest M) : GG G (QmX G (okx P res) (erx res) M mc ms) kc ks pc lv st M := by
  rcases bE_some zf with ⟨a, h1, h2⟩ | ⟨z, h1, h2⟩
  · refine g_xcallV h hE hce hmk hin hse hc ho he hrc hrs hRR hroom hn hmc hms hd hst hcat (cm _ h1) (fun z hz => by cases hz) (fun z M1 hp => ?_)
    obtain ⟨a', ha, rfl, rfl⟩ := hp
    exact kk h2
  · subst h2
    refine g_xcallV h hE hce hmk hin hse hc ho he hrc hrs hRR hroom hn hmc hms hd hst hcat (cm _ h1) (fun z hz => hz) (fun z M1 hp => ?_)
    obtain ⟨a', ha, -⟩ := hp
    cases ha
def xNm : List String := ["java/lang/RuntimeException", "java/lang/Exception"]
theorem g_throwS {G : GX} {kc ks pc nL : Nat} {lv : List (Nat × Value)} {st : List Value} {M : Mem} {b : ByteArray} {own : String} {ret : Option FieldType} {rm : Room} (h : OKm G b own nL ret rm) (hE : OKe G) {cls text : String} {ik is ic mc ms : Nat} {post : Option Value → Mem → Prop} {xk : Option Nat} (z : Nat) (hz : exN z = cls) (hxk : xk = some z) (hcls : Bundle.fit cls = true) (hk : Cond.classLink own ik cls ∈ LW) (hini : Cond.initialized cls ∈ LW) (hm : (own, is, text) ∈ wMs) (hat : (∀ x ∈ (vx_atS own ic cls xNm).filter goodWord, x ∈ LW) ∧ (∀ x ∈ (vx_atS own ic cls xNm).filter (fun x => !goodWord x), x ∈ Cond.castable cls cls :: wDe.map Cond.declares) ∧ (vx_atS own ic cls xNm).all vx_ot = true)
    (d0 : decode b pc = .ok (.new ik, 3)) (d3 : decode b (pc + 3) = .ok (.dup, 1)) (d4 : decode b (pc + 4) = .ok (.ldc is, 2)) (d6 : decode b (pc + 6) = .ok (.invokespecial ic, 3)) (d9 : decode b (pc + 9) = .ok (.athrow, 1))
    (hr1 : 5 < rm.frames) (hr2 : (st.map fun v => v.category).sum + 82 ≤ rm.locals) (hr3 : kc + 1 ≤ rm.cells) (hr4 : ks + 6 ≤ rm.slots) (hmc : kc + 1 ≤ mc) (hms : ks + 6 ≤ ms) : GG G (QmX G post xk M mc ms) kc ks pc lv st M := by
  obtain ⟨w, p, l, e, R, s, m, args, below, meth, c⟩ := G
  obtain ⟨hx, hb, hml, hown, hts, hSS, hlk, hret, hR⟩ := h
  intro H locs ls hl hP hS
  subst hR
  obtain ⟨sa, hsa⟩ := hSS.2.2.1 _ hm
  refine vx_throwS hx hb hE.1 hown hcls (fun n hn => (by decide +kernel : ∀ n ∈ xNm, Bundle.fit n = true) n hn) (hts _ hk) (hts _ hini) hsa (vx_hat (fun x hx9 => hts _ (hat.1 x hx9)) hat.2.1 (fun x hx9 => ?_)) (fun x hx9 => ?_) hSS.2.1.2.2.2.2.2.2.2.2.2.1 hSS.2.1.2.2.2.2.2.2.2.2.2.2 hS hl.1 d0 d3 d4 d6 d9 (fun x hx9 => absurd hx9 (fun q => hE.2 x q)) (by show 2 + 3 < _; exact hr1) (by show _ + (13 * (2 + 1) + 43) ≤ _; exact hr2) hr3 hr4 hlk (fun t hvm hz1 hk1 => ?_) hS.2.2 hmc hms
  · rcases List.mem_cons.mp hx9 with hx9 | hx9
    · rw [hx9, ← hz]
      unfold exN
      by_cases hz1 : z = 1
      · rw [if_pos hz1]; exact va_Nw.use rfl hSS.2.2.2.2.2.1
      · rw [if_neg hz1]; exact va_Nw.use rfl hSS.2.2.2.2.2.2.1
    · obtain ⟨y9, hy9, rfl⟩ := List.mem_map.mp hx9
      exact va_Nw.use rfl (hSS.2.2.2.2.1 y9 hy9)
  · rcases List.mem_cons.mp hx9 with rfl | hx9
    · show (_ || goodWord _) = true
      rw [LW_good hk, Bool.or_true]
    · rcases List.mem_cons.mp hx9 with rfl | hx9
      · show (_ || goodWord _) = true
        rw [LW_good hini, Bool.or_true]
      · exact List.all_eq_true.mp hat.2.2 x hx9
  · refine ⟨z, hxk, hz.symm, ?_, ?_⟩
    · exact va_P.kept hP (fun k q hk9 => hk1 q.1 (hP k q hk9).lt)
    · exact ⟨Nat.le_trans hS.1 hz1, fun q h1 h2 => (hk1 q (Nat.lt_of_lt_of_le h1 hS.1)).trans (hS.2.1 q h1 h2)⟩
theorem g_throwSW {G : GX} {kc ks pc nL : Nat} {lv : List (Nat × Value)} {st : List Value} {M : Mem} {b : ByteArray} {own : String} {ret : Option FieldType} {rm : Room} (h : OKm G b own nL ret rm) (hE : OKe G) {cls text : String} {ik is ic mc ms : Nat} {post : Option Value → Mem → Prop} {xk : Option Nat} (z : Nat) (hz : exN z = cls) (hxk : xk = some z) (hcls : Bundle.fit cls = true) (hk : Cond.classLink own ik cls ∈ LW) (hini : Cond.initialized cls ∈ LW) (hm : (own, is, text) ∈ wMs) (hat : (∀ x ∈ (vx_atS own ic cls xNm).filter goodWord, x ∈ LW) ∧ (∀ x ∈ (vx_atS own ic cls xNm).filter (fun x => !goodWord x), x ∈ Cond.castable cls cls :: wDe.map Cond.declares) ∧ (vx_atS own ic cls xNm).all vx_ot = true)
    (d0 : decode b pc = .ok (.new ik, 3)) (d3 : decode b (pc + 3) = .ok (.dup, 1)) (d4 : decode b (pc + 4) = .ok (.ldc_w is, 3)) (d6 : decode b (pc + 7) = .ok (.invokespecial ic, 3)) (d9 : decode b (pc + 10) = .ok (.athrow, 1))
    (hr1 : 5 < rm.frames) (hr2 : (st.map fun v => v.category).sum + 82 ≤ rm.locals) (hr3 : kc + 1 ≤ rm.cells) (hr4 : ks + 6 ≤ rm.slots) (hmc : kc + 1 ≤ mc) (hms : ks + 6 ≤ ms) : GG G (QmX G post xk M mc ms) kc ks pc lv st M := by
  obtain ⟨w, p, l, e, R, s, m, args, below, meth, c⟩ := G
  obtain ⟨hx, hb, hml, hown, hts, hSS, hlk, hret, hR⟩ := h
  intro H locs ls hl hP hS
  subst hR
  obtain ⟨sa, hsa⟩ := hSS.2.2.1 _ hm
  refine vx_throwSW hx hb hE.1 hown hcls (fun n hn => (by decide +kernel : ∀ n ∈ xNm, Bundle.fit n = true) n hn) (hts _ hk) (hts _ hini) hsa (vx_hat (fun x hx9 => hts _ (hat.1 x hx9)) hat.2.1 (fun x hx9 => ?_)) (fun x hx9 => ?_) hSS.2.1.2.2.2.2.2.2.2.2.2.1 hSS.2.1.2.2.2.2.2.2.2.2.2.2 hS hl.1 d0 d3 d4 d6 d9 (fun x hx9 => absurd hx9 (fun q => hE.2 x q)) (by show 2 + 3 < _; exact hr1) (by show _ + (13 * (2 + 1) + 43) ≤ _; exact hr2) hr3 hr4 hlk (fun t hvm hz1 hk1 => ?_) hS.2.2 hmc hms
  · rcases List.mem_cons.mp hx9 with hx9 | hx9
    · rw [hx9, ← hz]
      unfold exN
      by_cases hz1 : z = 1
      · rw [if_pos hz1]; exact va_Nw.use rfl hSS.2.2.2.2.2.1
      · rw [if_neg hz1]; exact va_Nw.use rfl hSS.2.2.2.2.2.2.1
    · obtain ⟨y9, hy9, rfl⟩ := List.mem_map.mp hx9
      exact va_Nw.use rfl (hSS.2.2.2.2.1 y9 hy9)
  · rcases List.mem_cons.mp hx9 with rfl | hx9
    · show (_ || goodWord _) = true
      rw [LW_good hk, Bool.or_true]
    · rcases List.mem_cons.mp hx9 with rfl | hx9
      · show (_ || goodWord _) = true
        rw [LW_good hini, Bool.or_true]
      · exact List.all_eq_true.mp hat.2.2 x hx9
  · refine ⟨z, hxk, hz.symm, ?_, ?_⟩
    · exact va_P.kept hP (fun k q hk9 => hk1 q.1 (hP k q hk9).lt)
    · exact ⟨Nat.le_trans hS.1 hz1, fun q h1 h2 => (hk1 q (Nat.lt_of_lt_of_le h1 hS.1)).trans (hS.2.1 q h1 h2)⟩
theorem initNSE : Cond.initialized "java/util/NoSuchElementException" ∈ LW := List.mem_filter.mpr ⟨(List.mem_append_right _ (List.mem_append_left _ (List.mem_of_getElem? (i := 26) rfl))), rfl⟩
theorem initIAE : Cond.initialized "java/lang/IllegalArgumentException" ∈ LW := List.mem_filter.mpr ⟨(List.mem_append_right _ (List.mem_append_left _ (List.mem_of_getElem? (i := 18) rfl))), rfl⟩
theorem hatX12_97 : (∀ x ∈ (vx_atS RX12 97 "java/lang/IllegalArgumentException" xNm).filter goodWord, x ∈ LW) ∧ (∀ x ∈ (vx_atS RX12 97 "java/lang/IllegalArgumentException" xNm).filter (fun x => !goodWord x), x ∈ Cond.castable "java/lang/IllegalArgumentException" "java/lang/IllegalArgumentException" :: wDe.map Cond.declares) ∧ (vx_atS RX12 97 "java/lang/IllegalArgumentException" xNm).all vx_ot = true := by
  have h : ((vx_atS RX12 97 "java/lang/IllegalArgumentException" xNm).filter goodWord).all (fun x => decide (x ∈ LW)) = true := by decide +kernel
  have h2 : ((vx_atS RX12 97 "java/lang/IllegalArgumentException" xNm).filter (fun x => !goodWord x)).all (fun x => decide (x ∈ Cond.castable "java/lang/IllegalArgumentException" "java/lang/IllegalArgumentException" :: wDe.map Cond.declares)) = true := by decide +kernel
  exact ⟨fun x hx => of_decide_eq_true (List.all_eq_true.mp h x hx), fun x hx => of_decide_eq_true (List.all_eq_true.mp h2 x hx), by decide +kernel⟩
