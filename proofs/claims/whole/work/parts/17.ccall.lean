def QC (w : WX) (post : Nat → Mem → Prop) : Array Value → State → Outcome → State → Prop := fun _ st o t => (∃ (n' : Nat) (M' : Mem), o = .returned none ∧ post n' M' ∧ WC w n' M' t.heap) ∧ va_F (AA w) st t
def QmC (G : GX) (post : Nat → Mem → Prop) (mc ms : Nat) : State → Prop := match G with
  | (w, _, _, _, _, s, _, args, below, _, _) => MQ below (QC w post) args s mc ms (AA w)
def CC (l : Launch) (w : WX) (y : MethodName) (bytes : ByteArray) (maxL : Nat) (rm : Room) (mc ms : Nat) (av : List Value) (n : Nat) (M : Mem) (post : Nat → Mem → Prop) : Prop :=
  Met l y (Cond.code y bytes maxL none :: LW) rm (va_Pc av (fun U => WC w n M U.heap ∧ SS w U)) (QC w post) mc ms (AA w)
theorem CC_blind {w : WX} {n : Nat} {M : Mem} {av : List Value} : FrameBlind (va_Pc av (fun U => WC w n M U.heap ∧ SS w U)) := fun _ _ g mk h => ⟨h.1, h.2.1, h.2.2.calling g mk _⟩
theorem CC_of {l : Launch} {w : WX} {y : MethodName} {bytes : ByteArray} {maxL : Nat} {rm : Room} {mc ms : Nat} {av : List Value} {n : Nat} {M : Mem} {post : Nat → Mem → Prop} (hy : plainName y.cls = true) (hsz : (lg_sl av).length ≤ maxL)
    (body : ∀ G : GX, G.1 = w → G.2.2.1 = l → OKm G bytes y.cls maxL none rm → G.2.2.2.2.2.2.2.2.2.1.name = y.name → GC G (QmC G post mc ms) n 0 0 0 (lv_args 0 av) [] M) : CC l w y bytes maxL rm mc ms av n M post := by
  refine Met.ofW (cc := bytes) (maxL := maxL) (ret := none) hy rfl ?_
  intro p e s m args below meth c s₁ B hml hv
  obtain ⟨rfl, hWd, hSS⟩ := hv
  have hts := atoms_spec (ws := Cond.code y bytes maxL none :: LW) B.pre
  have hl := lv_entry av (n := maxL) hsz
  rw [lg_entry_eq]
  exact body (w, p, l, e, rm, s, m, av.toArray, below, meth, c) rfl rfl ⟨B.exec, B.bytes, hml, findClass_of_methodNamed B.named, fun x hx => hts x (List.mem_cons_of_mem _ hx), hSS, B.notSynchronized, B.returns, rfl⟩ (name_of_methodNamed B.named B.method).1 s.heap [] _ (by rw [hml]; exact hl) hWd va_S.rf
theorem h_back {w : WX} {p : Program} {l : Launch} {e : Env} {R : Room} {s : State} {m : MethodId} {args : Array Value} {below : List Frame} {meth : Method} {c : Code} {H : Heap} {locs : List Loc} {kc ks mc ms pc : Nat} {Q : State → Prop} {ls : Array Slot} {lv : List (Nat × Value)} {rest st0 : List Value} {a : Array Value} {post : Nat → Mem → Prop}
    (hr : va_Run p l e R s m args below meth c H locs kc ks mc ms (F0 m pc ls st0) rest (QC w post a) (AA w)) (hS : va_S (AA w) s.heap H locs) (hl : lv_has ls c.maxLocals lv)
    (kk : ∀ (n1 : Nat) (M1 : Mem), post n1 M1 → GC (w, p, l, e, R, s, m, args, below, meth, c) Q n1 (kc + mc) (ks + ms) (pc + 3) lv rest M1) : W p l e R s m args below meth c H locs kc ks Q (F0 m pc ls st0) := by
  intro T hT X
  obtain ⟨z, st₀, t, T', L, h0, X', hL, e1, e2, ⟨⟨n1, M1, hv, hp, hW⟩, hz, hk⟩, st⟩ := hr T hT X
  cases hv
  rw [h0] at hz hk
  obtain ⟨t2, a1, b1⟩ := kk n1 M1 hp T'.heap (locs ++ L) ls hl (by rw [e1]; exact hW)
    ⟨Nat.le_trans hS.1 (by rw [e1]; exact hz), fun q h1 h2 => by rw [e1, hk q (Nat.lt_of_lt_of_le h1 hS.1) h2]; exact hS.2.1 q h1 h2, fun q hq => by
      rcases List.mem_append.mp hq with h | h
      · exact hS.2.2 q h
      · exact hL q h⟩ T' rfl X'
  exact ⟨t2, st t2 a1, b1⟩
theorem h_callI {G : GX} {Q : State → Prop} {nn kc ks pc nL : Nat} {lv : List (Nat × Value)} {st : List Value} {M : Mem} {b : ByteArray} {own : String} {ret : Option FieldType} {rm : Room} (h : OKm G b own nL ret rm) {o : Nat} {idx n maxL mc ms : Nat} {y : MethodName} {bytes : ByteArray} {rm1 : Room} {As rest : List Value} {post : Nat → Mem → Prop} (hce : CE y bytes maxL none n) (hmk : Cond.methodLink own idx y ∈ LW) (hin : Cond.instanceMethod y ∈ LW) (hyn : y.name = "<init>") (ho : o < KN) (hrc : rm1.cells = mc) (hrs : rm1.slots = ms) (hRR : rm1.frames + 1 ≤ rm.frames ∧ 8 + (maxL + 11) + rm1.locals ≤ rm.locals) (hroom : kc + mc ≤ rm.cells ∧ ks + ms ≤ rm.slots) (hn : As.length = n) (hd : decode b pc = .ok (.invokespecial idx, 3)) (hst : st = As.reverse ++ rv G.1 o :: rest) (hcat : (rest.map fun v => v.category).sum ≤ 8) (cm : CC G.2.2.1 G.1 y bytes maxL rm1 mc ms (rv G.1 o :: As) nn M post) (kk : ∀ (n1 : Nat) (M1 : Mem), post n1 M1 → GC G Q n1 (kc + mc) (ks + ms) (pc + 3) lv rest M1) : GC G Q nn kc ks pc lv st M := by
  obtain ⟨w, p, l, e, R, s, m, args, below, meth, c⟩ := G
  obtain ⟨hx, hb, hml, hown, hts, hSS, hlk, hret, hR⟩ := h
  obtain ⟨hco, hini, hy1, hy2, hpar⟩ := hce
  intro H locs ls hl hP hS
  subst hR
  subst hst
  have cw : CallB R s args own idx y bytes maxL none (Cond.code y bytes maxL none :: LW) rm1 mc ms n := callB_of n hts (LW_in hco) rfl hrc hrs (hts _ hini) (hts _ hmk) ⟨hy1, hy2, hpar⟩ hRR
  exact h_back (va_runI (As := As) (rest := rest) (b := w.1 + o) ⟨hx, hb, hml, hown, hts⟩ cm ⟨cw, hyn, hts _ hin⟩ ⟨CC_blind, fun U hU hW => ⟨by rw [rv_lt ho], by rw [hU]; exact hP, hSS.to hW hS hU⟩⟩ rfl hn (hl.1.trans hml) (by rw [rv_lt ho]) (lv_room hcat) hd hroom) hS hl kk
theorem h_callS {G : GX} {Q : State → Prop} {nn kc ks pc nL : Nat} {lv : List (Nat × Value)} {st : List Value} {M : Mem} {b : ByteArray} {own : String} {ret : Option FieldType} {rm : Room} (h : OKm G b own nL ret rm) {idx n maxL mc ms : Nat} {y : MethodName} {bytes : ByteArray} {rm1 : Room} {As rest : List Value} {post : Nat → Mem → Prop} (hce : CE y bytes maxL none n) (hmk : Cond.methodLink own idx y ∈ LW) (hst0 : Cond.static y ∈ LW) (hrc : rm1.cells = mc) (hrs : rm1.slots = ms) (hRR : rm1.frames + 1 ≤ rm.frames ∧ 8 + (maxL + 11) + rm1.locals ≤ rm.locals) (hroom : kc + mc ≤ rm.cells ∧ ks + ms ≤ rm.slots) (hn : As.length = n) (hd : decode b pc = .ok (.invokestatic idx, 3)) (hst : st = As.reverse ++ rest) (hcat : (rest.map fun v => v.category).sum ≤ 8) (cm : CC G.2.2.1 G.1 y bytes maxL rm1 mc ms As nn M post) (kk : ∀ (n1 : Nat) (M1 : Mem), post n1 M1 → GC G Q n1 (kc + mc) (ks + ms) (pc + 3) lv rest M1) : GC G Q nn kc ks pc lv st M := by
  obtain ⟨w, p, l, e, R, s, m, args, below, meth, c⟩ := G
  obtain ⟨hx, hb, hml, hown, hts, hSS, hlk, hret, hR⟩ := h
  obtain ⟨hco, hini, hy1, hy2, hpar⟩ := hce
  intro H locs ls hl hP hS
  subst hR
  subst hst
  have cw : CallB R s args own idx y bytes maxL none (Cond.code y bytes maxL none :: LW) rm1 mc ms n := callB_of n hts (LW_in hco) rfl hrc hrs (hts _ hini) (hts _ hmk) ⟨hy1, hy2, hpar⟩ hRR
  exact h_back (va_runS (As := As) (rest := rest) ⟨hx, hb, hml, hown, hts⟩ cm ⟨cw, hts _ hst0⟩ ⟨CC_blind, fun U hU hW => ⟨rfl, by rw [hU]; exact hP, hSS.to hW hS hU⟩⟩ rfl hn (hl.1.trans hml) rfl (lv_room hcat) hd hroom) hS hl kk
theorem h_callV {G : GX} {Q : State → Prop} {nn kc ks pc nL : Nat} {lv : List (Nat × Value)} {st : List Value} {M : Mem} {b : ByteArray} {own : String} {ret : Option FieldType} {rm : Room} (h : OKm G b own nL ret rm) {o : Nat} {ci : Nat} {fs : List Value} {T : u_T} {N : Nat} {idx n maxL mc ms : Nat} {y : MethodName} {bytes : ByteArray} {rm1 : Room} {As rest : List Value} {post : Nat → Mem → Prop} (hce : CE y bytes maxL none n) (hmk : Cond.methodLink own idx y ∈ LW) (hin : Cond.instanceMethod y ∈ LW) (hse : ∀ x ∈ [Cond.selects y.cls y y], x ∈ lw_tbl) (hc : vwCl[ci]? = some (y.cls, T, N)) (ho : o < nn) (hoK : o < KN) (he : entC G.1 M o = .inr (ci, fs)) (hrc : rm1.cells = mc) (hrs : rm1.slots = ms) (hRR : rm1.frames + 1 ≤ rm.frames ∧ 8 + (maxL + 11) + rm1.locals ≤ rm.locals) (hroom : kc + mc ≤ rm.cells ∧ ks + ms ≤ rm.slots) (hn : As.length = n) (hd : decode b pc = .ok (.invokevirtual idx, 3)) (hst : st = As.reverse ++ rv G.1 o :: rest) (hcat : (rest.map fun v => v.category).sum ≤ 8) (cm : CC G.2.2.1 G.1 y bytes maxL rm1 mc ms (rv G.1 o :: As) nn M post) (kk : ∀ (n1 : Nat) (M1 : Mem), post n1 M1 → GC G Q n1 (kc + mc) (ks + ms) (pc + 3) lv rest M1) : GC G Q nn kc ks pc lv st M := by
  obtain ⟨w, p, l, e, R, s, m, args, below, meth, c⟩ := G
  obtain ⟨hx, hb, hml, hown, hts, hSS, hlk, hret, hR⟩ := h
  obtain ⟨hco, hini, hy1, hy2, hpar⟩ := hce
  intro H locs ls hl hP hS
  subst hR
  subst hst
  have cw : CallB R s args own idx y bytes maxL none (Cond.code y bytes maxL none :: LW) rm1 mc ms n := callB_of n hts (LW_in hco) rfl hrc hrs (hts _ hini) (hts _ hmk) ⟨hy1, hy2, hpar⟩ hRR
  have hw := WLC_at (w := w) (M := M) ho
  rw [show entC w M o = _ from he] at hw
  have hsel : (Cond.selects y.cls y y).before args s = true := hts _ (List.mem_filter.mpr ⟨hse _ List.mem_cons_self, rfl⟩)
  exact h_back (va_runV (As := As) (rest := rest) (b := w.1 + o) ⟨hx, hb, hml, hown, hts⟩ cm ⟨cw, hts _ hin, hsel⟩ ⟨CC_blind, va_recv hSS.1 hP.1 hc hw, fun U hU hW => ⟨by rw [rv_lt hoK], by rw [hU]; exact hP, hSS.to hW hS hU⟩⟩ rfl hn (hl.1.trans hml) (by rw [rv_lt hoK]) (lv_room hcat) hd hroom) hS hl kk
theorem h_vret {G : GX} {nn kc ks pc nL : Nat} {lv : List (Nat × Value)} {M : Mem} {b : ByteArray} {own : String} {ret : Option FieldType} {rm : Room} (h : OKm G b own nL ret rm) {post : Nat → Mem → Prop} {mc ms : Nat} (hrt : ret = none) (hp : post nn M) (hkc : kc ≤ mc) (hks : ks ≤ ms) (hd : decode b pc = .ok (.return_, 1)) : GC G (QmC G post mc ms) nn kc ks pc lv [] M := by
  obtain ⟨w, p, l, e, R, s, m, args, below, meth, c⟩ := G
  obtain ⟨hx, hb, hml, hown, hts, hSS, hlk, hret, hR⟩ := h
  intro H locs ls hl hP hS
  refine W.widen hkc hks ?_
  exact W.vret hx hb (hret.trans hrt) (fun t ht hW => ⟨⟨_, M, rfl, hp, by rw [ht]; exact hP⟩, hS.F ht⟩) hS.2.2 hd hlk
theorem h_obj {G : GX} {Q : State → Prop} {nn kc ks pc nL : Nat} {lv : List (Nat × Value)} {st : List Value} {M : Mem} {b : ByteArray} {own : String} {ret : Option FieldType} {rm : Room} (h : OKm G b own nL ret rm) {o : Nat} (ho : o < KN) {idx : Nat} (hm : Cond.methodLink own idx objectInit ∈ LW) (hin : Cond.instanceMethod objectInit ∈ LW) (hco : Cond.code objectInit ⟨#[0xb1]⟩ 1 none ∈ LW) (hr1 : 1 ≤ rm.frames) (hr2 : (st.map fun v => v.category).sum + 12 ≤ rm.locals) (hd : decode b pc = .ok (.invokespecial idx, 3)) (k : GC G Q nn kc ks (pc + 3) lv st M) : GC G Q nn kc ks pc lv (rv G.1 o :: st) M := by
  obtain ⟨w, p, l, e, R, s, m, args, below, meth, c⟩ := G
  obtain ⟨hx, hb, hml, hown, hts, hSS, hlk, hret, hR⟩ := h
  intro H locs ls hl hP hS
  subst hR
  rw [rv_lt ho]
  exact W.objInit hx hb hown (hts _ hm) (hts _ hin) (hts _ hco) rfl hl.1 rfl hd hr1 (by show 2 * 0 + _ + 12 ≤ _; omega) (k H locs ls hl hP hS)
