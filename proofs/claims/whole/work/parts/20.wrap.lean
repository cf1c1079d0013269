def CMw (l : Launch) (w : WX) (y : MethodName) (bytes : ByteArray) (maxL : Nat) (ret : Option FieldType) (hh : List (Nat × Nat × Nat × Nat)) (rm : Room) (mc ms : Nat) (av : List Value) (M : Mem) (post : Option Value → Mem → Prop) : Prop :=
  Met l y (Cond.codeWith y bytes maxL ret hh :: LW) rm (va_Pc av (fun U => Wd w M U.heap ∧ SS w U)) (QQ w post) mc ms (AA w)
def OKh (G : GX) (hh : List (Nat × Nat × Nat × Nat)) : Prop := G.2.2.1.stackTraces = false ∧ G.2.2.2.2.2.2.2.2.2.2.exceptionTable.toList = tableOf hh
theorem CMw_of {l : Launch} {w : WX} {y : MethodName} {bytes : ByteArray} {maxL : Nat} {ret : Option FieldType} {hh : List (Nat × Nat × Nat × Nat)} {rm : Room} {mc ms : Nat} {av : List Value} {M : Mem} {post : Option Value → Mem → Prop} (hl : l.stackTraces = false) (hy : plainName y.cls = true) (hsz : (lg_sl av).length ≤ maxL)
    (body : ∀ G : GX, G.1 = w → G.2.2.1 = l → OKm G bytes y.cls maxL ret rm → OKh G hh → GG G (Qm G post mc ms) 0 0 0 (lv_args 0 av) [] M) : CMw l w y bytes maxL ret hh rm mc ms av M post := by
  refine va_MetW (cc := bytes) (maxL := maxL) (ret := ret) (hh := hh) hy rfl ?_
  intro p e s m args below meth c s₁ B hml hv
  obtain ⟨rfl, hWd, hSS⟩ := hv
  have hts := atoms_spec (ws := Cond.codeWith y bytes maxL ret hh :: LW) B.pre
  have hlv := lv_entry av (n := maxL) hsz
  rw [lg_entry_eq]
  exact body (w, p, l, e, rm, s, m, av.toArray, below, meth, c) rfl rfl ⟨B.exec, B.bytes, hml, findClass_of_methodNamed B.named, fun x hx => hts x (List.mem_cons_of_mem _ hx), hSS, B.notSynchronized, B.returns, rfl⟩ ⟨hl, vx_table (x := y) B (hts _ List.mem_cons_self)⟩ s.heap [] _ (by rw [hml]; exact hlv) hWd va_S.rf
/-- a call that may throw: what goes on, what the handler does with kind e -/
def bT {α β : Type} (o : Option (Except Nat α)) (kx : Nat → Option β) (k : α → Option β) : Option β := match o with
  | none => none
  | some (.error e) => kx e
  | some (.ok a) => k a
theorem bT_some {α β : Type} {o : Option (Except Nat α)} {kx : Nat → Option β} {k : α → Option β} {r : β} (h : bT o kx k = some r) : (∃ a, o = some (.ok a) ∧ k a = some r) ∨ ∃ e, o = some (.error e) ∧ kx e = some r := by
  cases o with
  | none => cases h
  | some q =>
    cases q with
    | error e => exact Or.inr ⟨e, rfl, h⟩
    | ok a => exact Or.inl ⟨a, rfl, h⟩
theorem g_try {G : GX} {Q : State → Prop} {kc ks pc nL : Nat} {lv : List (Nat × Value)} {st : List Value} {M : Mem} {b : ByteArray} {own : String} {ret : Option FieldType} {rm : Room} (h : OKm G b own nL ret rm) {o : Nat} {ci mc1 ms1 : Nat} {fs : List Value} {T : u_T} {N : Nat} {post1 : Option Value → Mem → Prop} {xk1 : Option Nat} {idx n maxL : Nat} {y : MethodName} {bytes : ByteArray} {ret1 : Option FieldType} {rm1 : Room} {As rest : List Value} (hce : CE y bytes maxL ret1 n) (hmk : Cond.methodLink own idx y ∈ LW) (hin : Cond.instanceMethod y ∈ LW) (hse : ∀ x ∈ [Cond.selects y.cls y y], x ∈ lw_tbl) (hc : vwCl[ci]? = some (y.cls, T, N)) (ho : o < KN) (he : ent G.1 M o = .inr (ci, fs)) (hrc : rm1.cells = mc1) (hrs : rm1.slots = ms1) (hRR : rm1.frames + 1 ≤ rm.frames ∧ 8 + (maxL + 11) + rm1.locals ≤ rm.locals) (hroom : kc + mc1 ≤ rm.cells ∧ ks + ms1 ≤ rm.slots) (hn : As.length = n) (hd : decode b pc = .ok (.invokevirtual idx, 3)) (hst : st = As.reverse ++ rv G.1 o :: rest) (hcat : (rest.map fun v => v.category).sum ≤ 8) (cm : CX G.2.2.1 G.1 y bytes maxL ret1 rm1 mc1 ms1 (rv G.1 o :: As) M post1 xk1)
    (kx : ∀ z, xk1 = some z → ∃ (pre : List ExceptionTableEntry) (x : ExceptionTableEntry) (suf : List ExceptionTableEntry), G.2.2.2.2.2.2.2.2.2.2.exceptionTable.toList = pre ++ x :: suf ∧ (∀ z9 ∈ pre, z9.catchType ≠ 0 ∧ Cond.classLink own z9.catchType xNSE ∈ LW ∧ exN z = xIAE) ∧ covers x pc = true ∧ x.catchType ≠ 0 ∧ Cond.classLink own x.catchType (exN z) ∈ LW ∧ (∀ q : Nat, GG G Q (kc + mc1) (ks + ms1) x.handlerPc lv [.ref q] M))
    (kk : ∀ (z : Option Value) (M1 : Mem), post1 z M1 → GG G Q (kc + mc1) (ks + ms1) (pc + 3) lv (z.toList ++ rest) M1) : GG G Q kc ks pc lv st M := by
  obtain ⟨w, p, l, e, R, s, m, args, below, meth, c⟩ := G
  obtain ⟨hx, hb, hml, hown, hts, hSS, hlk, hret, hR⟩ := h
  obtain ⟨hco, hini, hy1, hy2, hpar⟩ := hce
  intro H locs ls hl hP hS
  subst hR
  subst hst
  have hw := WL_at (w := w) (M := M) ho
  rw [show ent w M o = _ from he] at hw
  have cw : CallB R s args own idx y bytes maxL ret1 (Cond.code y bytes maxL ret1 :: LW) rm1 mc1 ms1 n := callB_of n hts (LW_in hco) rfl hrc hrs (hts _ hini) (hts _ hmk) ⟨hy1, hy2, hpar⟩ hRR
  have hsel : (Cond.selects y.cls y y).before args s = true := hts _ (List.mem_filter.mpr ⟨hse _ List.mem_cons_self, rfl⟩)
  have hr := vx_runV (e := e) (meth := meth) (below := below) (As := As) (rest := rest) (b := w.1 + o) (cells := kc) (slots := ks) (locs := locs) (g := F0 m pc ls (As.reverse ++ rv w o :: rest)) (H := H) ⟨hx, hb, hml, hown, hts⟩ cm ⟨cw, hts _ hin, hsel⟩ ⟨CM_blind, va_recv hSS.1 hP hc hw, fun U hU hW => ⟨by rw [rv_lt ho], by rw [hU]; exact hP, hSS.to hW hS hU⟩⟩ rfl hn (hl.1.trans hml) (by rw [rv_lt ho]) (lv_room hcat) hd hroom
  intro T9 hT X
  have keep : ∀ (st₀ t T' : State) (L : List Loc), st₀.heap = H → T'.heap = t.heap → (∀ q ∈ L, AA w q.base) → va_F (AA w) st₀ t → va_S (AA w) s.heap T'.heap (locs ++ L) := fun st₀ t T' L h0 e1 hL hF => (vx_keep h0 e1 hS (fun _ _ q => q) (fun _ q => q) hL hF).2.2
  rcases hr T9 hT X with ⟨z, st₀, t, T', L, h0, X', hL, e1, e2, ⟨⟨z', M1, hv, hp, hW⟩, hF⟩, st⟩ | ⟨q, st₀, t, T', L, E, ce, h0, X', hL, e1, e2, ⟨k9, hk9, hE, hW, hF⟩, hce, hcv, hcl, st⟩
  · cases hv
    obtain ⟨t2, a1, b1⟩ := kk z M1 hp T'.heap (locs ++ L) ls hl (by rw [e1]; exact hW) (keep st₀ t T' L h0 e1 hL hF) T' rfl X'
    exact ⟨t2, st t2 a1, b1⟩
  · have hS2 := keep st₀ t T' L h0 e1 hL hF
    obtain ⟨pre, x, suf, y1, y2, y3, y4, y5, y6⟩ := kx k9 hk9
    subst hE
    have hcast : (Cond.castable (exN k9) (exN k9)).before args s = true := by
      unfold exN
      by_cases hz1 : k9 = 1
      · rw [if_pos hz1]; exact va_Nw.use rfl hSS.2.2.2.2.2.1
      · rw [if_neg hz1]; exact va_Nw.use rfl hSS.2.2.2.2.2.2.1
    obtain ⟨t2, a1, b1⟩ := vx_catch (p := p) (l := l) (e := e) (R := R) (s := s) (m := m) (args := args) (below := below) (meth := meth) (c := c) (H := T'.heap) (locs := locs ++ L) (cells := kc + mc1) (slots := ks + ms1) (ls := ls) (rest := rest) (pc := pc) hown pre x suf y1 (fun z9 hz9 => Or.inr ⟨(y2 z9 hz9).1, xNSE, hts _ (y2 z9 hz9).2.1, by rw [(y2 z9 hz9).2.2]; exact hSS.2.2.2.2.2.2.2.1⟩) y3 y4 (hts _ y5) hcast (by rw [e1]; exact hce) hcv hcl (y6 q T'.heap (locs ++ L) ls hl (by rw [e1]; exact hW) hS2) T' rfl X'
    exact ⟨t2, st.trans a1, b1⟩
theorem g_astore_nX {G : GX} {Q : State → Prop} {kc ks pc nL : Nat} {lv : List (Nat × Value)} {st : List Value} {M : Mem} {b : ByteArray} {own : String} {ret : Option FieldType} {rm : Room} (h : OKm G b own nL ret rm) {k4 : Fin 4} {i z : Nat} (hi : (k4 : Nat) = i) (lv' : List (Nat × Value)) (hn : i < nL) (hv : (i, Value.ref z) :: lv.filter (fun q => !(q.1 == i) && !(q.1 + 1 == i && q.2.category == 2)) = lv') (hd : decode b pc = .ok (.astore_n k4, 1)) (k : GG G Q kc ks (pc + 1) lv' st M) : GG G Q kc ks pc lv (Value.ref z :: st) M := by
  obtain ⟨w, p, l, e, R, s, m, args, below, meth, c⟩ := G
  obtain ⟨hx, hb, hml, hown, hts, hSS, hlk, hret, hR⟩ := h
  intro H locs ls hl hP hS
  exact lv_astore_n hx hb hd hi hl (by rw [hml]; exact hn) hv (fun ls hl => k H locs ls hl hP hS)
theorem g_astoreX {G : GX} {Q : State → Prop} {kc ks pc nL : Nat} {lv : List (Nat × Value)} {st : List Value} {M : Mem} {b : ByteArray} {own : String} {ret : Option FieldType} {rm : Room} (h : OKm G b own nL ret rm) {i z : Nat} (lv' : List (Nat × Value)) (hn : i < nL) (hv : (i, Value.ref z) :: lv.filter (fun q => !(q.1 == i) && !(q.1 + 1 == i && q.2.category == 2)) = lv') (hd : decode b pc = .ok (.astore i, 2)) (k : GG G Q kc ks (pc + 2) lv' st M) : GG G Q kc ks pc lv (Value.ref z :: st) M := by
  obtain ⟨w, p, l, e, R, s, m, args, below, meth, c⟩ := G
  obtain ⟨hx, hb, hml, hown, hts, hSS, hlk, hret, hR⟩ := h
  intro H locs ls hl hP hS
  exact lv_astore hx hb hd hl (by rw [hml]; exact hn) hv (fun ls hl => k H locs ls hl hP hS)
def fL_land (M : Mem) (x1 : Int32) : Option (Int32 × Mem) := bT (fX12_land M x1) (fun e => if e = 1 then none else some (1, M)) fun a => stL a.2 144 1 0 (Int32.toInt64 a.1) fun M2 => some (0, M2)
theorem kL_land {G : GX} (h : OKm G cL_land RL 4 (some .int) { frames := 117, cells := 4, slots := 24, locals := 2821 }) (hE : OKh G [(0, 9, 12, 13)]) {M : Mem} {x1 : Int32} {res : Int32 × Mem} (zf : fL_land M x1 = some res) : GG G (Qm G (Pwi res) 4 24) 0 0 0 [(0, rv G.1 0), (1, .int x1), (2, rv G.1 144)] [] M := by
  refine g_aload_n h 2 rfl dL_land_0 ?_
  refine g_iconst h 0 (v := 0) (by decide) dL_land_1 ?_
  refine g_aload_n h 0 rfl dL_land_2 ?_
  refine g_iload_n h 1 rfl dL_land_3 ?_
  rcases bT_some zf with ⟨a, zq, zf⟩ | ⟨e, zq, zf⟩
  · refine g_try (As := [.int x1]) (rest := [.int 0, rv G.1 144]) h ceX12_land mlL_7 imX12_land seX12_land (by rfl) (by decide) (ent_10 (by decide)) rfl rfl ⟨Nat.le_of_ble_eq_true rfl, Nat.le_of_ble_eq_true rfl⟩ ⟨Nat.le_of_ble_eq_true rfl, Nat.le_of_ble_eq_true rfl⟩ rfl dL_land_4 rfl (Nat.le_of_ble_eq_true rfl) (cxX12_land hE.1 zq) (fun z hz => by cases hz) (fun z M1 hp => ?_)
    obtain ⟨a9, ha9, hp1, hp2⟩ := hp
    cases ha9
    subst hp1
    subst hp2
    refine g_i2l h dL_land_7 ?_
    refine g_last h 1 (by decide) (by decide) zf dL_land_8 (fun M2 zf => ?_)
    refine g_goto h 15 (by decide) dL_land_9 ?_
    refine g_iconst h 0 (v := 0) (by decide) dL_land_15 ?_
    obtain rfl := Option.some.inj zf
    exact g_iret h rfl ⟨rfl, rfl⟩ (Nat.le_refl _) (Nat.le_refl _) dL_land_16
  · refine g_try (As := [.int x1]) (rest := [.int 0, rv G.1 144]) h ceX12_land mlL_7 imX12_land seX12_land (by rfl) (by decide) (ent_10 (by decide)) rfl rfl ⟨Nat.le_of_ble_eq_true rfl, Nat.le_of_ble_eq_true rfl⟩ ⟨Nat.le_of_ble_eq_true rfl, Nat.le_of_ble_eq_true rfl⟩ rfl dL_land_4 rfl (Nat.le_of_ble_eq_true rfl) (cxX12_land hE.1 zq) (fun z hz => ?_) (fun z M1 hp => by obtain ⟨a9, ha9, -⟩ := hp; cases ha9)
    obtain rfl := Option.some.inj hz
    by_cases he1 : e = 1
    · rw [if_pos he1] at zf
      cases zf
    · rw [if_neg he1] at zf
      have hex : exN e = xIAE := by unfold exN; rw [if_neg he1]; rfl
      refine ⟨[], ⟨0, 9, 12, 13⟩, [], hE.2, (fun z9 hz9 => absurd hz9 List.not_mem_nil), by decide, (by decide : (13 : Nat) ≠ 0), by rw [hex]; exact clL_13, fun q => ?_⟩
      obtain rfl := Option.some.inj zf
      refine g_astore_nX h rfl [(3, Value.ref q), (0, rv G.1 0), (1, .int x1), (2, rv G.1 144)] (by decide) rfl dL_land_12 ?_
      refine g_iconst h 1 (v := 1) (by decide) dL_land_13 ?_
      exact g_iret h rfl ⟨rfl, rfl⟩ (Nat.le_refl _) (Nat.le_refl _) dL_land_14
theorem cwL_land {l : Launch} (zl : l.stackTraces = false) {w : WX} {M : Mem} {x1 : Int32} {res : Int32 × Mem} (zf : fL_land M x1 = some res) : CMw l w yL_land cL_land 4 (some .int) [(0, 9, 12, 13)] { frames := 117, cells := 4, slots := 24, locals := 2821 } 4 24 [rv w 0, .int x1, rv w 144] M (Pwi res) := by
  refine CMw_of zl (by decide) (Nat.le_of_ble_eq_true rfl) (fun G hw hl h hE => ?_)
  subst hw
  exact kL_land h hE zf
theorem cdL_land : Cond.codeWith yL_land cL_land 4 (some .int) [(0, 9, 12, 13)] ∈ LW := List.mem_filter.mpr ⟨(List.mem_append_right _ (List.mem_append_right _ (List.mem_append_right _ (List.mem_append_left _ (List.mem_of_getElem? (i := 160) rfl))))), rfl⟩
theorem smL_land : Cond.static yL_land ∈ LW := List.mem_filter.mpr ⟨(List.mem_append_right _ (List.mem_append_right _ (List.mem_append_right _ (List.mem_append_left _ (List.mem_of_getElem? (i := 159) rfl))))), rfl⟩
def fL_count (M : Mem) (x1 : Int32) : Option (Int32 × Mem) := bT (fX12_count M x1) (fun e => if e = 1 then some (1, M) else none) fun a => stL M 144 1 0 (Int32.toInt64 a) fun M2 => some (0, M2)
theorem kL_count {G : GX} (h : OKm G cL_count RL 4 (some .int) { frames := 7, cells := 4, slots := 24, locals := 181 }) (hE : OKh G [(0, 9, 12, 18)]) {M : Mem} {x1 : Int32} {res : Int32 × Mem} (zf : fL_count M x1 = some res) : GG G (Qm G (Pwi res) 4 24) 0 0 0 [(0, rv G.1 0), (1, .int x1), (2, rv G.1 144)] [] M := by
  refine g_aload_n h 2 rfl dL_count_0 ?_
  refine g_iconst h 0 (v := 0) (by decide) dL_count_1 ?_
  refine g_aload_n h 0 rfl dL_count_2 ?_
  refine g_iload_n h 1 rfl dL_count_3 ?_
  rcases bT_some zf with ⟨a, zq, zf⟩ | ⟨e, zq, zf⟩
  · refine g_try (As := [.int x1]) (rest := [.int 0, rv G.1 144]) h ceX12_count mlL_15 imX12_count seX12_count (by rfl) (by decide) (ent_10 (by decide)) rfl rfl ⟨Nat.le_of_ble_eq_true rfl, Nat.le_of_ble_eq_true rfl⟩ ⟨Nat.le_of_ble_eq_true rfl, Nat.le_of_ble_eq_true rfl⟩ rfl dL_count_4 rfl (Nat.le_of_ble_eq_true rfl) (cxX12_count hE.1 zq) (fun z hz => by cases hz) (fun z M1 hp => ?_)
    obtain ⟨a9, ha9, hp1, hp2⟩ := hp
    cases ha9
    subst hp1
    subst hp2
    refine g_i2l h dL_count_7 ?_
    refine g_last h 1 (by decide) (by decide) zf dL_count_8 (fun M2 zf => ?_)
    refine g_goto h 15 (by decide) dL_count_9 ?_
    refine g_iconst h 0 (v := 0) (by decide) dL_count_15 ?_
    obtain rfl := Option.some.inj zf
    exact g_iret h rfl ⟨rfl, rfl⟩ (Nat.le_refl _) (Nat.le_refl _) dL_count_16
  · refine g_try (As := [.int x1]) (rest := [.int 0, rv G.1 144]) h ceX12_count mlL_15 imX12_count seX12_count (by rfl) (by decide) (ent_10 (by decide)) rfl rfl ⟨Nat.le_of_ble_eq_true rfl, Nat.le_of_ble_eq_true rfl⟩ ⟨Nat.le_of_ble_eq_true rfl, Nat.le_of_ble_eq_true rfl⟩ rfl dL_count_4 rfl (Nat.le_of_ble_eq_true rfl) (cxX12_count hE.1 zq) (fun z hz => ?_) (fun z M1 hp => by obtain ⟨a9, ha9, -⟩ := hp; cases ha9)
    obtain rfl := Option.some.inj hz
    by_cases he1 : e = 1
    · rw [if_pos he1] at zf
      have hex : exN e = xNSE := by unfold exN; rw [if_pos he1]; rfl
      refine ⟨[], ⟨0, 9, 12, 18⟩, [], hE.2, (fun z9 hz9 => absurd hz9 List.not_mem_nil), by decide, (by decide : (18 : Nat) ≠ 0), by rw [hex]; exact clL_18, fun q => ?_⟩
      obtain rfl := Option.some.inj zf
      refine g_astore_nX h rfl [(3, Value.ref q), (0, rv G.1 0), (1, .int x1), (2, rv G.1 144)] (by decide) rfl dL_count_12 ?_
      refine g_iconst h 1 (v := 1) (by decide) dL_count_13 ?_
      exact g_iret h rfl ⟨rfl, rfl⟩ (Nat.le_refl _) (Nat.le_refl _) dL_count_14
    · rw [if_neg he1] at zf
      cases zf
theorem cwL_count {l : Launch} (zl : l.stackTraces = false) {w : WX} {M : Mem} {x1 : Int32} {res : Int32 × Mem} (zf : fL_count M x1 = some res) : CMw l w yL_count cL_count 4 (some .int) [(0, 9, 12, 18)] { frames := 7, cells := 4, slots := 24, locals := 181 } 4 24 [rv w 0, .int x1, rv w 144] M (Pwi res) := by
  refine CMw_of zl (by decide) (Nat.le_of_ble_eq_true rfl) (fun G hw hl h hE => ?_)
  subst hw
  exact kL_count h hE zf
theorem cdL_count : Cond.codeWith yL_count cL_count 4 (some .int) [(0, 9, 12, 18)] ∈ LW := List.mem_filter.mpr ⟨(List.mem_append_right _ (List.mem_append_right _ (List.mem_append_right _ (List.mem_append_right _ (List.mem_append_left _ (List.mem_of_getElem? (i := 190) rfl)))))), rfl⟩
theorem smL_count : Cond.static yL_count ∈ LW := List.mem_filter.mpr ⟨(List.mem_append_right _ (List.mem_append_right _ (List.mem_append_right _ (List.mem_append_right _ (List.mem_append_left _ (List.mem_of_getElem? (i := 189) rfl)))))), rfl⟩
def fL_deed (M : Mem) (x1 : Int32) (x2 : Int32) : Option (Int32 × Mem) := bT (fX12_deed M x1 x2) (fun e => if e = 1 then some (1, M) else none) fun a => stL M 144 1 0 (Int32.toInt64 a) fun M2 => some (0, M2)
theorem kL_deed {G : GX} (h : OKm G cL_deed RL 5 (some .int) { frames := 8, cells := 4, slots := 24, locals := 204 }) (hE : OKh G [(0, 10, 13, 18)]) {M : Mem} {x1 : Int32} {x2 : Int32} {res : Int32 × Mem} (zf : fL_deed M x1 x2 = some res) : GG G (Qm G (Pwi res) 4 24) 0 0 0 [(0, rv G.1 0), (1, .int x1), (2, .int x2), (3, rv G.1 144)] [] M := by
  refine g_aload_n h 3 rfl dL_deed_0 ?_
  refine g_iconst h 0 (v := 0) (by decide) dL_deed_1 ?_
  refine g_aload_n h 0 rfl dL_deed_2 ?_
  refine g_iload_n h 1 rfl dL_deed_3 ?_
  refine g_iload_n h 2 rfl dL_deed_4 ?_
  rcases bT_some zf with ⟨a, zq, zf⟩ | ⟨e, zq, zf⟩
  · refine g_try (As := [.int x1, .int x2]) (rest := [.int 0, rv G.1 144]) h ceX12_deed mlL_20 imX12_deed seX12_deed (by rfl) (by decide) (ent_10 (by decide)) rfl rfl ⟨Nat.le_of_ble_eq_true rfl, Nat.le_of_ble_eq_true rfl⟩ ⟨Nat.le_of_ble_eq_true rfl, Nat.le_of_ble_eq_true rfl⟩ rfl dL_deed_5 rfl (Nat.le_of_ble_eq_true rfl) (cxX12_deed hE.1 zq) (fun z hz => by cases hz) (fun z M1 hp => ?_)
    obtain ⟨a9, ha9, hp1, hp2⟩ := hp
    cases ha9
    subst hp1
    subst hp2
    refine g_i2l h dL_deed_8 ?_
    refine g_last h 1 (by decide) (by decide) zf dL_deed_9 (fun M2 zf => ?_)
    refine g_goto h 17 (by decide) dL_deed_10 ?_
    refine g_iconst h 0 (v := 0) (by decide) dL_deed_17 ?_
    obtain rfl := Option.some.inj zf
    exact g_iret h rfl ⟨rfl, rfl⟩ (Nat.le_refl _) (Nat.le_refl _) dL_deed_18
  · refine g_try (As := [.int x1, .int x2]) (rest := [.int 0, rv G.1 144]) h ceX12_deed mlL_20 imX12_deed seX12_deed (by rfl) (by decide) (ent_10 (by decide)) rfl rfl ⟨Nat.le_of_ble_eq_true rfl, Nat.le_of_ble_eq_true rfl⟩ ⟨Nat.le_of_ble_eq_true rfl, Nat.le_of_ble_eq_true rfl⟩ rfl dL_deed_5 rfl (Nat.le_of_ble_eq_true rfl) (cxX12_deed hE.1 zq) (fun z hz => ?_) (fun z M1 hp => by obtain ⟨a9, ha9, -⟩ := hp; cases ha9)
    obtain rfl := Option.some.inj hz
    by_cases he1 : e = 1
    · rw [if_pos he1] at zf
      have hex : exN e = xNSE := by unfold exN; rw [if_pos he1]; rfl
      refine ⟨[], ⟨0, 10, 13, 18⟩, [], hE.2, (fun z9 hz9 => absurd hz9 List.not_mem_nil), by decide, (by decide : (18 : Nat) ≠ 0), by rw [hex]; exact clL_18, fun q => ?_⟩
      obtain rfl := Option.some.inj zf
      refine g_astoreX h [(4, Value.ref q), (0, rv G.1 0), (1, .int x1), (2, .int x2), (3, rv G.1 144)] (by decide) rfl dL_deed_13 ?_
      refine g_iconst h 1 (v := 1) (by decide) dL_deed_15 ?_
      exact g_iret h rfl ⟨rfl, rfl⟩ (Nat.le_refl _) (Nat.le_refl _) dL_deed_16
    · rw [if_neg he1] at zf
      cases zf
theorem cwL_deed {l : Launch} (zl : l.stackTraces = false) {w : WX} {M : Mem} {x1 : Int32} {x2 : Int32} {res : Int32 × Mem} (zf : fL_deed M x1 x2 = some res) : CMw l w yL_deed cL_deed 5 (some .int) [(0, 10, 13, 18)] { frames := 8, cells := 4, slots := 24, locals := 204 } 4 24 [rv w 0, .int x1, .int x2, rv w 144] M (Pwi res) := by
  refine CMw_of zl (by decide) (Nat.le_of_ble_eq_true rfl) (fun G hw hl h hE => ?_)
  subst hw
  exact kL_deed h hE zf
theorem cdL_deed : Cond.codeWith yL_deed cL_deed 5 (some .int) [(0, 10, 13, 18)] ∈ LW := List.mem_filter.mpr ⟨(List.mem_append_right _ (List.mem_append_right _ (List.mem_append_right _ (List.mem_append_right _ (List.mem_append_left _ (List.mem_of_getElem? (i := 214) rfl)))))), rfl⟩
theorem smL_deed : Cond.static yL_deed ∈ LW := List.mem_filter.mpr ⟨(List.mem_append_right _ (List.mem_append_right _ (List.mem_append_right _ (List.mem_append_right _ (List.mem_append_left _ (List.mem_of_getElem? (i := 213) rfl)))))), rfl⟩
def fL_brother (M : Mem) (x1 : Int32) (x2 : Int32) : Option (Int32 × Mem) := bT (fX12_brother M x1 x2) (fun e => if e = 1 then some (1, M) else none) fun a => stL a.2 144 1 0 (Int32.toInt64 a.1) fun M2 => some (0, M2)
theorem kL_brother {G : GX} (h : OKm G cL_brother RL 5 (some .int) { frames := 8, cells := 4, slots := 24, locals := 203 }) (hE : OKh G [(0, 10, 13, 18)]) {M : Mem} {x1 : Int32} {x2 : Int32} {res : Int32 × Mem} (zf : fL_brother M x1 x2 = some res) : GG G (Qm G (Pwi res) 4 24) 0 0 0 [(0, rv G.1 0), (1, .int x1), (2, .int x2), (3, rv G.1 144)] [] M := by
  refine g_aload_n h 3 rfl dL_brother_0 ?_
  refine g_iconst h 0 (v := 0) (by decide) dL_brother_1 ?_
  refine g_aload_n h 0 rfl dL_brother_2 ?_
  refine g_iload_n h 1 rfl dL_brother_3 ?_
  refine g_iload_n h 2 rfl dL_brother_4 ?_
  rcases bT_some zf with ⟨a, zq, zf⟩ | ⟨e, zq, zf⟩
  · refine g_try (As := [.int x1, .int x2]) (rest := [.int 0, rv G.1 144]) h ceX12_brother mlL_24 imX12_brother seX12_brother (by rfl) (by decide) (ent_10 (by decide)) rfl rfl ⟨Nat.le_of_ble_eq_true rfl, Nat.le_of_ble_eq_true rfl⟩ ⟨Nat.le_of_ble_eq_true rfl, Nat.le_of_ble_eq_true rfl⟩ rfl dL_brother_5 rfl (Nat.le_of_ble_eq_true rfl) (cxX12_brother hE.1 zq) (fun z hz => by cases hz) (fun z M1 hp => ?_)
    obtain ⟨a9, ha9, hp1, hp2⟩ := hp
    cases ha9
    subst hp1
    subst hp2
    refine g_i2l h dL_brother_8 ?_
    refine g_last h 1 (by decide) (by decide) zf dL_brother_9 (fun M2 zf => ?_)
    refine g_goto h 17 (by decide) dL_brother_10 ?_
    refine g_iconst h 0 (v := 0) (by decide) dL_brother_17 ?_
    obtain rfl := Option.some.inj zf
    exact g_iret h rfl ⟨rfl, rfl⟩ (Nat.le_refl _) (Nat.le_refl _) dL_brother_18
  · refine g_try (As := [.int x1, .int x2]) (rest := [.int 0, rv G.1 144]) h ceX12_brother mlL_24 imX12_brother seX12_brother (by rfl) (by decide) (ent_10 (by decide)) rfl rfl ⟨Nat.le_of_ble_eq_true rfl, Nat.le_of_ble_eq_true rfl⟩ ⟨Nat.le_of_ble_eq_true rfl, Nat.le_of_ble_eq_true rfl⟩ rfl dL_brother_5 rfl (Nat.le_of_ble_eq_true rfl) (cxX12_brother hE.1 zq) (fun z hz => ?_) (fun z M1 hp => by obtain ⟨a9, ha9, -⟩ := hp; cases ha9)
    obtain rfl := Option.some.inj hz
    by_cases he1 : e = 1
    · rw [if_pos he1] at zf
      have hex : exN e = xNSE := by unfold exN; rw [if_pos he1]; rfl
      refine ⟨[], ⟨0, 10, 13, 18⟩, [], hE.2, (fun z9 hz9 => absurd hz9 List.not_mem_nil), by decide, (by decide : (18 : Nat) ≠ 0), by rw [hex]; exact clL_18, fun q => ?_⟩
      obtain rfl := Option.some.inj zf
      refine g_astoreX h [(4, Value.ref q), (0, rv G.1 0), (1, .int x1), (2, .int x2), (3, rv G.1 144)] (by decide) rfl dL_brother_13 ?_
      refine g_iconst h 1 (v := 1) (by decide) dL_brother_15 ?_
      exact g_iret h rfl ⟨rfl, rfl⟩ (Nat.le_refl _) (Nat.le_refl _) dL_brother_16
    · rw [if_neg he1] at zf
      cases zf
theorem cwL_brother {l : Launch} (zl : l.stackTraces = false) {w : WX} {M : Mem} {x1 : Int32} {x2 : Int32} {res : Int32 × Mem} (zf : fL_brother M x1 x2 = some res) : CMw l w yL_brother cL_brother 5 (some .int) [(0, 10, 13, 18)] { frames := 8, cells := 4, slots := 24, locals := 203 } 4 24 [rv w 0, .int x1, .int x2, rv w 144] M (Pwi res) := by
  refine CMw_of zl (by decide) (Nat.le_of_ble_eq_true rfl) (fun G hw hl h hE => ?_)
  subst hw
  exact kL_brother h hE zf
theorem cdL_brother : Cond.codeWith yL_brother cL_brother 5 (some .int) [(0, 10, 13, 18)] ∈ LW := List.mem_filter.mpr ⟨(List.mem_append_right _ (List.mem_append_right _ (List.mem_append_right _ (List.mem_append_right _ (List.mem_append_left _ (List.mem_of_getElem? (i := 226) rfl)))))), rfl⟩
theorem smL_brother : Cond.static yL_brother ∈ LW := List.mem_filter.mpr ⟨(List.mem_append_right _ (List.mem_append_right _ (List.mem_append_right _ (List.mem_append_right _ (List.mem_append_left _ (List.mem_of_getElem? (i := 225) rfl)))))), rfl⟩
def fL_way (M : Mem) (x1 : Int32) (x2 : Int32) : Option (Int32 × Mem) := bT (fX12_way M x1 x2) (fun e => if e = 1 then some (1, M) else none) fun a => stL M 144 1 0 (Int32.toInt64 a) fun M2 => some (0, M2)
theorem kL_way {G : GX} (h : OKm G cL_way RL 5 (some .int) { frames := 8, cells := 4, slots := 24, locals := 203 }) (hE : OKh G [(0, 10, 13, 18)]) {M : Mem} {x1 : Int32} {x2 : Int32} {res : Int32 × Mem} (zf : fL_way M x1 x2 = some res) : GG G (Qm G (Pwi res) 4 24) 0 0 0 [(0, rv G.1 0), (1, .int x1), (2, .int x2), (3, rv G.1 144)] [] M := by
  refine g_aload_n h 3 rfl dL_way_0 ?_
  refine g_iconst h 0 (v := 0) (by decide) dL_way_1 ?_
  refine g_aload_n h 0 rfl dL_way_2 ?_
  refine g_iload_n h 1 rfl dL_way_3 ?_
  refine g_iload_n h 2 rfl dL_way_4 ?_
  rcases bT_some zf with ⟨a, zq, zf⟩ | ⟨e, zq, zf⟩
  · refine g_try (As := [.int x1, .int x2]) (rest := [.int 0, rv G.1 144]) h ceX12_way mlL_27 imX12_way seX12_way (by rfl) (by decide) (ent_10 (by decide)) rfl rfl ⟨Nat.le_of_ble_eq_true rfl, Nat.le_of_ble_eq_true rfl⟩ ⟨Nat.le_of_ble_eq_true rfl, Nat.le_of_ble_eq_true rfl⟩ rfl dL_way_5 rfl (Nat.le_of_ble_eq_true rfl) (cxX12_way hE.1 zq) (fun z hz => by cases hz) (fun z M1 hp => ?_)
    obtain ⟨a9, ha9, hp1, hp2⟩ := hp
    cases ha9
    subst hp1
    subst hp2
    refine g_i2l h dL_way_8 ?_
    refine g_last h 1 (by decide) (by decide) zf dL_way_9 (fun M2 zf => ?_)
    refine g_goto h 17 (by decide) dL_way_10 ?_
    refine g_iconst h 0 (v := 0) (by decide) dL_way_17 ?_
    obtain rfl := Option.some.inj zf
    exact g_iret h rfl ⟨rfl, rfl⟩ (Nat.le_refl _) (Nat.le_refl _) dL_way_18
  · refine g_try (As := [.int x1, .int x2]) (rest := [.int 0, rv G.1 144]) h ceX12_way mlL_27 imX12_way seX12_way (by rfl) (by decide) (ent_10 (by decide)) rfl rfl ⟨Nat.le_of_ble_eq_true rfl, Nat.le_of_ble_eq_true rfl⟩ ⟨Nat.le_of_ble_eq_true rfl, Nat.le_of_ble_eq_true rfl⟩ rfl dL_way_5 rfl (Nat.le_of_ble_eq_true rfl) (cxX12_way hE.1 zq) (fun z hz => ?_) (fun z M1 hp => by obtain ⟨a9, ha9, -⟩ := hp; cases ha9)
    obtain rfl := Option.some.inj hz
    by_cases he1 : e = 1
    · rw [if_pos he1] at zf
      have hex : exN e = xNSE := by unfold exN; rw [if_pos he1]; rfl
      refine ⟨[], ⟨0, 10, 13, 18⟩, [], hE.2, (fun z9 hz9 => absurd hz9 List.not_mem_nil), by decide, (by decide : (18 : Nat) ≠ 0), by rw [hex]; exact clL_18, fun q => ?_⟩
      obtain rfl := Option.some.inj zf
      refine g_astoreX h [(4, Value.ref q), (0, rv G.1 0), (1, .int x1), (2, .int x2), (3, rv G.1 144)] (by decide) rfl dL_way_13 ?_
      refine g_iconst h 1 (v := 1) (by decide) dL_way_15 ?_
      exact g_iret h rfl ⟨rfl, rfl⟩ (Nat.le_refl _) (Nat.le_refl _) dL_way_16
    · rw [if_neg he1] at zf
      cases zf
theorem cwL_way {l : Launch} (zl : l.stackTraces = false) {w : WX} {M : Mem} {x1 : Int32} {x2 : Int32} {res : Int32 × Mem} (zf : fL_way M x1 x2 = some res) : CMw l w yL_way cL_way 5 (some .int) [(0, 10, 13, 18)] { frames := 8, cells := 4, slots := 24, locals := 203 } 4 24 [rv w 0, .int x1, .int x2, rv w 144] M (Pwi res) := by
  refine CMw_of zl (by decide) (Nat.le_of_ble_eq_true rfl) (fun G hw hl h hE => ?_)
  subst hw
  exact kL_way h hE zf
theorem cdL_way : Cond.codeWith yL_way cL_way 5 (some .int) [(0, 10, 13, 18)] ∈ LW := List.mem_filter.mpr ⟨(List.mem_append_right _ (List.mem_append_right _ (List.mem_append_right _ (List.mem_append_right _ (List.mem_append_right _ (List.mem_append_left _ (List.mem_of_getElem? (i := 1) rfl))))))), rfl⟩
theorem smL_way : Cond.static yL_way ∈ LW := List.mem_filter.mpr ⟨(List.mem_append_right _ (List.mem_append_right _ (List.mem_append_right _ (List.mem_append_right _ (List.mem_append_right _ (List.mem_append_left _ (List.mem_of_getElem? (i := 0) rfl))))))), rfl⟩
def fL_friend (M : Mem) (x1 : Int32) (x2 : Int32) : Option (Int32 × Mem) := bT (fX12_friend M x1 x2) (fun e => if e = 1 then some (1, M) else none) fun a => stL a.2 144 1 0 (Int32.toInt64 a.1) fun M2 => some (0, M2)
theorem kL_friend {G : GX} (h : OKm G cL_friend RL 5 (some .int) { frames := 8, cells := 4, slots := 24, locals := 203 }) (hE : OKh G [(0, 10, 13, 18)]) {M : Mem} {x1 : Int32} {x2 : Int32} {res : Int32 × Mem} (zf : fL_friend M x1 x2 = some res) : GG G (Qm G (Pwi res) 4 24) 0 0 0 [(0, rv G.1 0), (1, .int x1), (2, .int x2), (3, rv G.1 144)] [] M := by
  refine g_aload_n h 3 rfl dL_friend_0 ?_
  refine g_iconst h 0 (v := 0) (by decide) dL_friend_1 ?_
  refine g_aload_n h 0 rfl dL_friend_2 ?_
  refine g_iload_n h 1 rfl dL_friend_3 ?_
  refine g_iload_n h 2 rfl dL_friend_4 ?_
  rcases bT_some zf with ⟨a, zq, zf⟩ | ⟨e, zq, zf⟩
  · refine g_try (As := [.int x1, .int x2]) (rest := [.int 0, rv G.1 144]) h ceX12_friend mlL_30 imX12_friend seX12_friend (by rfl) (by decide) (ent_10 (by decide)) rfl rfl ⟨Nat.le_of_ble_eq_true rfl, Nat.le_of_ble_eq_true rfl⟩ ⟨Nat.le_of_ble_eq_true rfl, Nat.le_of_ble_eq_true rfl⟩ rfl dL_friend_5 rfl (Nat.le_of_ble_eq_true rfl) (cxX12_friend hE.1 zq) (fun z hz => by cases hz) (fun z M1 hp => ?_)
    obtain ⟨a9, ha9, hp1, hp2⟩ := hp
    cases ha9
    subst hp1
    subst hp2
    refine g_i2l h dL_friend_8 ?_
    refine g_last h 1 (by decide) (by decide) zf dL_friend_9 (fun M2 zf => ?_)
    refine g_goto h 17 (by decide) dL_friend_10 ?_
    refine g_iconst h 0 (v := 0) (by decide) dL_friend_17 ?_
    obtain rfl := Option.some.inj zf
    exact g_iret h rfl ⟨rfl, rfl⟩ (Nat.le_refl _) (Nat.le_refl _) dL_friend_18
  · refine g_try (As := [.int x1, .int x2]) (rest := [.int 0, rv G.1 144]) h ceX12_friend mlL_30 imX12_friend seX12_friend (by rfl) (by decide) (ent_10 (by decide)) rfl rfl ⟨Nat.le_of_ble_eq_true rfl, Nat.le_of_ble_eq_true rfl⟩ ⟨Nat.le_of_ble_eq_true rfl, Nat.le_of_ble_eq_true rfl⟩ rfl dL_friend_5 rfl (Nat.le_of_ble_eq_true rfl) (cxX12_friend hE.1 zq) (fun z hz => ?_) (fun z M1 hp => by obtain ⟨a9, ha9, -⟩ := hp; cases ha9)
    obtain rfl := Option.some.inj hz
    by_cases he1 : e = 1
    · rw [if_pos he1] at zf
      have hex : exN e = xNSE := by unfold exN; rw [if_pos he1]; rfl
      refine ⟨[], ⟨0, 10, 13, 18⟩, [], hE.2, (fun z9 hz9 => absurd hz9 List.not_mem_nil), by decide, (by decide : (18 : Nat) ≠ 0), by rw [hex]; exact clL_18, fun q => ?_⟩
      obtain rfl := Option.some.inj zf
      refine g_astoreX h [(4, Value.ref q), (0, rv G.1 0), (1, .int x1), (2, .int x2), (3, rv G.1 144)] (by decide) rfl dL_friend_13 ?_
      refine g_iconst h 1 (v := 1) (by decide) dL_friend_15 ?_
      exact g_iret h rfl ⟨rfl, rfl⟩ (Nat.le_refl _) (Nat.le_refl _) dL_friend_16
    · rw [if_neg he1] at zf
      cases zf
theorem cwL_friend {l : Launch} (zl : l.stackTraces = false) {w : WX} {M : Mem} {x1 : Int32} {x2 : Int32} {res : Int32 × Mem} (zf : fL_friend M x1 x2 = some res) : CMw l w yL_friend cL_friend 5 (some .int) [(0, 10, 13, 18)] { frames := 8, cells := 4, slots := 24, locals := 203 } 4 24 [rv w 0, .int x1, .int x2, rv w 144] M (Pwi res) := by
  refine CMw_of zl (by decide) (Nat.le_of_ble_eq_true rfl) (fun G hw hl h hE => ?_)
  subst hw
  exact kL_friend h hE zf
theorem cdL_friend : Cond.codeWith yL_friend cL_friend 5 (some .int) [(0, 10, 13, 18)] ∈ LW := List.mem_filter.mpr ⟨(List.mem_append_right _ (List.mem_append_right _ (List.mem_append_right _ (List.mem_append_right _ (List.mem_append_right _ (List.mem_append_left _ (List.mem_of_getElem? (i := 13) rfl))))))), rfl⟩
theorem smL_friend : Cond.static yL_friend ∈ LW := List.mem_filter.mpr ⟨(List.mem_append_right _ (List.mem_append_right _ (List.mem_append_right _ (List.mem_append_right _ (List.mem_append_right _ (List.mem_append_left _ (List.mem_of_getElem? (i := 12) rfl))))))), rfl⟩
def fL_change (M : Mem) (x1 : Int32) (x2 : Int32) (x3 : Int32) : Option (Int32 × Mem) := bT (fX12_change M x1 x2 x3) (fun e => if e = 1 then some (1, M) else none) fun a => stL a.2 144 1 0 (Int32.toInt64 a.1) fun M2 => some (0, M2)
theorem kL_change {G : GX} (h : OKm G cL_change RL 6 (some .int) { frames := 8, cells := 4, slots := 24, locals := 268 }) (hE : OKh G [(0, 12, 15, 18)]) {M : Mem} {x1 : Int32} {x2 : Int32} {x3 : Int32} {res : Int32 × Mem} (zf : fL_change M x1 x2 x3 = some res) : GG G (Qm G (Pwi res) 4 24) 0 0 0 [(0, rv G.1 0), (1, .int x1), (2, .int x2), (3, .int x3), (4, rv G.1 144)] [] M := by
  refine g_aload h 4 rfl dL_change_0 ?_
  refine g_iconst h 0 (v := 0) (by decide) dL_change_2 ?_
  refine g_aload_n h 0 rfl dL_change_3 ?_
  refine g_iload_n h 1 rfl dL_change_4 ?_
  refine g_iload_n h 2 rfl dL_change_5 ?_
  refine g_iload_n h 3 rfl dL_change_6 ?_
  rcases bT_some zf with ⟨a, zq, zf⟩ | ⟨e, zq, zf⟩
  · refine g_try (As := [.int x1, .int x2, .int x3]) (rest := [.int 0, rv G.1 144]) h ceX12_change mlL_33 imX12_change seX12_change (by rfl) (by decide) (ent_10 (by decide)) rfl rfl ⟨Nat.le_of_ble_eq_true rfl, Nat.le_of_ble_eq_true rfl⟩ ⟨Nat.le_of_ble_eq_true rfl, Nat.le_of_ble_eq_true rfl⟩ rfl dL_change_7 rfl (Nat.le_of_ble_eq_true rfl) (cxX12_change hE.1 zq) (fun z hz => by cases hz) (fun z M1 hp => ?_)
    obtain ⟨a9, ha9, hp1, hp2⟩ := hp
    cases ha9
    subst hp1
    subst hp2
    refine g_i2l h dL_change_10 ?_
    refine g_last h 1 (by decide) (by decide) zf dL_change_11 (fun M2 zf => ?_)
    refine g_goto h 19 (by decide) dL_change_12 ?_
    refine g_iconst h 0 (v := 0) (by decide) dL_change_19 ?_
    obtain rfl := Option.some.inj zf
    exact g_iret h rfl ⟨rfl, rfl⟩ (Nat.le_refl _) (Nat.le_refl _) dL_change_20
  · refine g_try (As := [.int x1, .int x2, .int x3]) (rest := [.int 0, rv G.1 144]) h ceX12_change mlL_33 imX12_change seX12_change (by rfl) (by decide) (ent_10 (by decide)) rfl rfl ⟨Nat.le_of_ble_eq_true rfl, Nat.le_of_ble_eq_true rfl⟩ ⟨Nat.le_of_ble_eq_true rfl, Nat.le_of_ble_eq_true rfl⟩ rfl dL_change_7 rfl (Nat.le_of_ble_eq_true rfl) (cxX12_change hE.1 zq) (fun z hz => ?_) (fun z M1 hp => by obtain ⟨a9, ha9, -⟩ := hp; cases ha9)
    obtain rfl := Option.some.inj hz
    by_cases he1 : e = 1
    · rw [if_pos he1] at zf
      have hex : exN e = xNSE := by unfold exN; rw [if_pos he1]; rfl
      refine ⟨[], ⟨0, 12, 15, 18⟩, [], hE.2, (fun z9 hz9 => absurd hz9 List.not_mem_nil), by decide, (by decide : (18 : Nat) ≠ 0), by rw [hex]; exact clL_18, fun q => ?_⟩
      obtain rfl := Option.some.inj zf
      refine g_astoreX h [(5, Value.ref q), (0, rv G.1 0), (1, .int x1), (2, .int x2), (3, .int x3), (4, rv G.1 144)] (by decide) rfl dL_change_15 ?_
      refine g_iconst h 1 (v := 1) (by decide) dL_change_17 ?_
      exact g_iret h rfl ⟨rfl, rfl⟩ (Nat.le_refl _) (Nat.le_refl _) dL_change_18
    · rw [if_neg he1] at zf
      cases zf
theorem cwL_change {l : Launch} (zl : l.stackTraces = false) {w : WX} {M : Mem} {x1 : Int32} {x2 : Int32} {x3 : Int32} {res : Int32 × Mem} (zf : fL_change M x1 x2 x3 = some res) : CMw l w yL_change cL_change 6 (some .int) [(0, 12, 15, 18)] { frames := 8, cells := 4, slots := 24, locals := 268 } 4 24 [rv w 0, .int x1, .int x2, .int x3, rv w 144] M (Pwi res) := by
  refine CMw_of zl (by decide) (Nat.le_of_ble_eq_true rfl) (fun G hw hl h hE => ?_)
  subst hw
  exact kL_change h hE zf
theorem cdL_change : Cond.codeWith yL_change cL_change 6 (some .int) [(0, 12, 15, 18)] ∈ LW := List.mem_filter.mpr ⟨(List.mem_append_right _ (List.mem_append_right _ (List.mem_append_right _ (List.mem_append_right _ (List.mem_append_right _ (List.mem_append_left _ (List.mem_of_getElem? (i := 26) rfl))))))), rfl⟩
theorem smL_change : Cond.static yL_change ∈ LW := List.mem_filter.mpr ⟨(List.mem_append_right _ (List.mem_append_right _ (List.mem_append_right _ (List.mem_append_right _ (List.mem_append_right _ (List.mem_append_left _ (List.mem_of_getElem? (i := 25) rfl))))))), rfl⟩
def fL_gift (M : Mem) (x1 : Int32) (x2 : Int32) : Option (Int32 × Mem) := bT (fX12_gift M x1 x2) (fun e => if e = 1 then some (1, M) else none) fun a => stL a.2 144 1 0 (Int32.toInt64 a.1) fun M2 => some (0, M2)
theorem kL_gift {G : GX} (h : OKm G cL_gift RL 5 (some .int) { frames := 8, cells := 4, slots := 24, locals := 266 }) (hE : OKh G [(0, 10, 13, 18)]) {M : Mem} {x1 : Int32} {x2 : Int32} {res : Int32 × Mem} (zf : fL_gift M x1 x2 = some res) : GG G (Qm G (Pwi res) 4 24) 0 0 0 [(0, rv G.1 0), (1, .int x1), (2, .int x2), (3, rv G.1 144)] [] M := by
  refine g_aload_n h 3 rfl dL_gift_0 ?_
  refine g_iconst h 0 (v := 0) (by decide) dL_gift_1 ?_
  refine g_aload_n h 0 rfl dL_gift_2 ?_
  refine g_iload_n h 1 rfl dL_gift_3 ?_
  refine g_iload_n h 2 rfl dL_gift_4 ?_
  rcases bT_some zf with ⟨a, zq, zf⟩ | ⟨e, zq, zf⟩
  · refine g_try (As := [.int x1, .int x2]) (rest := [.int 0, rv G.1 144]) h ceX12_gift mlL_37 imX12_gift seX12_gift (by rfl) (by decide) (ent_10 (by decide)) rfl rfl ⟨Nat.le_of_ble_eq_true rfl, Nat.le_of_ble_eq_true rfl⟩ ⟨Nat.le_of_ble_eq_true rfl, Nat.le_of_ble_eq_true rfl⟩ rfl dL_gift_5 rfl (Nat.le_of_ble_eq_true rfl) (cxX12_gift hE.1 zq) (fun z hz => by cases hz) (fun z M1 hp => ?_)
    obtain ⟨a9, ha9, hp1, hp2⟩ := hp
    cases ha9
    subst hp1
    subst hp2
    refine g_i2l h dL_gift_8 ?_
    refine g_last h 1 (by decide) (by decide) zf dL_gift_9 (fun M2 zf => ?_)
    refine g_goto h 17 (by decide) dL_gift_10 ?_
    refine g_iconst h 0 (v := 0) (by decide) dL_gift_17 ?_
    obtain rfl := Option.some.inj zf
    exact g_iret h rfl ⟨rfl, rfl⟩ (Nat.le_refl _) (Nat.le_refl _) dL_gift_18
  · refine g_try (As := [.int x1, .int x2]) (rest := [.int 0, rv G.1 144]) h ceX12_gift mlL_37 imX12_gift seX12_gift (by rfl) (by decide) (ent_10 (by decide)) rfl rfl ⟨Nat.le_of_ble_eq_true rfl, Nat.le_of_ble_eq_true rfl⟩ ⟨Nat.le_of_ble_eq_true rfl, Nat.le_of_ble_eq_true rfl⟩ rfl dL_gift_5 rfl (Nat.le_of_ble_eq_true rfl) (cxX12_gift hE.1 zq) (fun z hz => ?_) (fun z M1 hp => by obtain ⟨a9, ha9, -⟩ := hp; cases ha9)
    obtain rfl := Option.some.inj hz
    by_cases he1 : e = 1
    · rw [if_pos he1] at zf
      have hex : exN e = xNSE := by unfold exN; rw [if_pos he1]; rfl
      refine ⟨[], ⟨0, 10, 13, 18⟩, [], hE.2, (fun z9 hz9 => absurd hz9 List.not_mem_nil), by decide, (by decide : (18 : Nat) ≠ 0), by rw [hex]; exact clL_18, fun q => ?_⟩
      obtain rfl := Option.some.inj zf
      refine g_astoreX h [(4, Value.ref q), (0, rv G.1 0), (1, .int x1), (2, .int x2), (3, rv G.1 144)] (by decide) rfl dL_gift_13 ?_
      refine g_iconst h 1 (v := 1) (by decide) dL_gift_15 ?_
      exact g_iret h rfl ⟨rfl, rfl⟩ (Nat.le_refl _) (Nat.le_refl _) dL_gift_16
    · rw [if_neg he1] at zf
      cases zf
theorem cwL_gift {l : Launch} (zl : l.stackTraces = false) {w : WX} {M : Mem} {x1 : Int32} {x2 : Int32} {res : Int32 × Mem} (zf : fL_gift M x1 x2 = some res) : CMw l w yL_gift cL_gift 5 (some .int) [(0, 10, 13, 18)] { frames := 8, cells := 4, slots := 24, locals := 266 } 4 24 [rv w 0, .int x1, .int x2, rv w 144] M (Pwi res) := by
  refine CMw_of zl (by decide) (Nat.le_of_ble_eq_true rfl) (fun G hw hl h hE => ?_)
  subst hw
  exact kL_gift h hE zf
theorem cdL_gift : Cond.codeWith yL_gift cL_gift 5 (some .int) [(0, 10, 13, 18)] ∈ LW := List.mem_filter.mpr ⟨(List.mem_append_right _ (List.mem_append_right _ (List.mem_append_right _ (List.mem_append_right _ (List.mem_append_right _ (List.mem_append_left _ (List.mem_of_getElem? (i := 33) rfl))))))), rfl⟩
theorem smL_gift : Cond.static yL_gift ∈ LW := List.mem_filter.mpr ⟨(List.mem_append_right _ (List.mem_append_right _ (List.mem_append_right _ (List.mem_append_right _ (List.mem_append_right _ (List.mem_append_left _ (List.mem_of_getElem? (i := 32) rfl))))))), rfl⟩
def fL_then (M : Mem) (x1 : Int32) (x2 : Int32) : Option (Int32 × Mem) := bT (fX12_then M x1 x2) (fun e => if e = 1 then some (1, M) else some (2, M)) fun a => stL a.2 144 1 0 (Int32.toInt64 a.1) fun M2 => some (0, M2)
theorem kL_then {G : GX} (h : OKm G cL_then RL 5 (some .int) { frames := 10, cells := 4, slots := 24, locals := 251 }) (hE : OKh G [(0, 10, 13, 18), (0, 10, 17, 13)]) {M : Mem} {x1 : Int32} {x2 : Int32} {res : Int32 × Mem} (zf : fL_then M x1 x2 = some res) : GG G (Qm G (Pwi res) 4 24) 0 0 0 [(0, rv G.1 0), (1, .int x1), (2, .int x2), (3, rv G.1 144)] [] M := by
  refine g_aload_n h 3 rfl dL_then_0 ?_
  refine g_iconst h 0 (v := 0) (by decide) dL_then_1 ?_
  refine g_aload_n h 0 rfl dL_then_2 ?_
  refine g_iload_n h 1 rfl dL_then_3 ?_
  refine g_iload_n h 2 rfl dL_then_4 ?_
  rcases bT_some zf with ⟨a, zq, zf⟩ | ⟨e, zq, zf⟩
  · refine g_try (As := [.int x1, .int x2]) (rest := [.int 0, rv G.1 144]) h ceX12_then mlL_40 imX12_then seX12_then (by rfl) (by decide) (ent_10 (by decide)) rfl rfl ⟨Nat.le_of_ble_eq_true rfl, Nat.le_of_ble_eq_true rfl⟩ ⟨Nat.le_of_ble_eq_true rfl, Nat.le_of_ble_eq_true rfl⟩ rfl dL_then_5 rfl (Nat.le_of_ble_eq_true rfl) (cxX12_then hE.1 zq) (fun z hz => by cases hz) (fun z M1 hp => ?_)
    obtain ⟨a9, ha9, hp1, hp2⟩ := hp
    cases ha9
    subst hp1
    subst hp2
    refine g_i2l h dL_then_8 ?_
    refine g_last h 1 (by decide) (by decide) zf dL_then_9 (fun M2 zf => ?_)
    refine g_goto h 21 (by decide) dL_then_10 ?_
    refine g_iconst h 0 (v := 0) (by decide) dL_then_21 ?_
    obtain rfl := Option.some.inj zf
    exact g_iret h rfl ⟨rfl, rfl⟩ (Nat.le_refl _) (Nat.le_refl _) dL_then_22
  · refine g_try (As := [.int x1, .int x2]) (rest := [.int 0, rv G.1 144]) h ceX12_then mlL_40 imX12_then seX12_then (by rfl) (by decide) (ent_10 (by decide)) rfl rfl ⟨Nat.le_of_ble_eq_true rfl, Nat.le_of_ble_eq_true rfl⟩ ⟨Nat.le_of_ble_eq_true rfl, Nat.le_of_ble_eq_true rfl⟩ rfl dL_then_5 rfl (Nat.le_of_ble_eq_true rfl) (cxX12_then hE.1 zq) (fun z hz => ?_) (fun z M1 hp => by obtain ⟨a9, ha9, -⟩ := hp; cases ha9)
    obtain rfl := Option.some.inj hz
    by_cases he1 : e = 1
    · rw [if_pos he1] at zf
      have hex : exN e = xNSE := by unfold exN; rw [if_pos he1]; rfl
      refine ⟨[], ⟨0, 10, 13, 18⟩, [⟨0, 10, 17, 13⟩], hE.2, (fun z9 hz9 => absurd hz9 List.not_mem_nil), by decide, (by decide : (18 : Nat) ≠ 0), by rw [hex]; exact clL_18, fun q => ?_⟩
      obtain rfl := Option.some.inj zf
      refine g_astoreX h [(4, Value.ref q), (0, rv G.1 0), (1, .int x1), (2, .int x2), (3, rv G.1 144)] (by decide) rfl dL_then_13 ?_
      refine g_iconst h 1 (v := 1) (by decide) dL_then_15 ?_
      exact g_iret h rfl ⟨rfl, rfl⟩ (Nat.le_refl _) (Nat.le_refl _) dL_then_16
    · rw [if_neg he1] at zf
      have hex : exN e = xIAE := by unfold exN; rw [if_neg he1]; rfl
      refine ⟨[⟨0, 10, 13, 18⟩], ⟨0, 10, 17, 13⟩, [], hE.2, (fun z9 hz9 => by rw [List.mem_singleton.mp hz9]; exact ⟨by decide, clL_18, hex⟩), by decide, (by decide : (13 : Nat) ≠ 0), by rw [hex]; exact clL_13, fun q => ?_⟩
      obtain rfl := Option.some.inj zf
      refine g_astoreX h [(4, Value.ref q), (0, rv G.1 0), (1, .int x1), (2, .int x2), (3, rv G.1 144)] (by decide) rfl dL_then_17 ?_
      refine g_iconst h 2 (v := 2) (by decide) dL_then_19 ?_
      exact g_iret h rfl ⟨rfl, rfl⟩ (Nat.le_refl _) (Nat.le_refl _) dL_then_20
theorem cwL_then {l : Launch} (zl : l.stackTraces = false) {w : WX} {M : Mem} {x1 : Int32} {x2 : Int32} {res : Int32 × Mem} (zf : fL_then M x1 x2 = some res) : CMw l w yL_then cL_then 5 (some .int) [(0, 10, 13, 18), (0, 10, 17, 13)] { frames := 10, cells := 4, slots := 24, locals := 251 } 4 24 [rv w 0, .int x1, .int x2, rv w 144] M (Pwi res) := by
  refine CMw_of zl (by decide) (Nat.le_of_ble_eq_true rfl) (fun G hw hl h hE => ?_)
  subst hw
  exact kL_then h hE zf
theorem cdL_then : Cond.codeWith yL_then cL_then 5 (some .int) [(0, 10, 13, 18), (0, 10, 17, 13)] ∈ LW := List.mem_filter.mpr ⟨(List.mem_append_right _ (List.mem_append_right _ (List.mem_append_right _ (List.mem_append_right _ (List.mem_append_right _ (List.mem_append_left _ (List.mem_of_getElem? (i := 41) rfl))))))), rfl⟩
theorem smL_then : Cond.static yL_then ∈ LW := List.mem_filter.mpr ⟨(List.mem_append_right _ (List.mem_append_right _ (List.mem_append_right _ (List.mem_append_right _ (List.mem_append_right _ (List.mem_append_left _ (List.mem_of_getElem? (i := 40) rfl))))))), rfl⟩
def fL_stays (M : Mem) (x1 : Int32) : Option (Int32 × Mem) := bT (fX12_stays M x1) (fun e => if e = 1 then some (1, M) else none) fun a => stL a.2 144 1 0 (Int32.toInt64 a.1) fun M2 => some (0, M2)
theorem kL_stays {G : GX} (h : OKm G cL_stays RL 4 (some .int) { frames := 10, cells := 4, slots := 24, locals := 251 }) (hE : OKh G [(0, 9, 12, 18)]) {M : Mem} {x1 : Int32} {res : Int32 × Mem} (zf : fL_stays M x1 = some res) : GG G (Qm G (Pwi res) 4 24) 0 0 0 [(0, rv G.1 0), (1, .int x1), (2, rv G.1 144)] [] M := by
  refine g_aload_n h 2 rfl dL_stays_0 ?_
  refine g_iconst h 0 (v := 0) (by decide) dL_stays_1 ?_
  refine g_aload_n h 0 rfl dL_stays_2 ?_
  refine g_iload_n h 1 rfl dL_stays_3 ?_
  rcases bT_some zf with ⟨a, zq, zf⟩ | ⟨e, zq, zf⟩
  · refine g_try (As := [.int x1]) (rest := [.int 0, rv G.1 144]) h ceX12_stays mlL_43 imX12_stays seX12_stays (by rfl) (by decide) (ent_10 (by decide)) rfl rfl ⟨Nat.le_of_ble_eq_true rfl, Nat.le_of_ble_eq_true rfl⟩ ⟨Nat.le_of_ble_eq_true rfl, Nat.le_of_ble_eq_true rfl⟩ rfl dL_stays_4 rfl (Nat.le_of_ble_eq_true rfl) (cxX12_stays hE.1 zq) (fun z hz => by cases hz) (fun z M1 hp => ?_)
    obtain ⟨a9, ha9, hp1, hp2⟩ := hp
    cases ha9
    subst hp1
    subst hp2
    refine g_i2l h dL_stays_7 ?_
    refine g_last h 1 (by decide) (by decide) zf dL_stays_8 (fun M2 zf => ?_)
    refine g_goto h 15 (by decide) dL_stays_9 ?_
    refine g_iconst h 0 (v := 0) (by decide) dL_stays_15 ?_
    obtain rfl := Option.some.inj zf
    exact g_iret h rfl ⟨rfl, rfl⟩ (Nat.le_refl _) (Nat.le_refl _) dL_stays_16
  · refine g_try (As := [.int x1]) (rest := [.int 0, rv G.1 144]) h ceX12_stays mlL_43 imX12_stays seX12_stays (by rfl) (by decide) (ent_10 (by decide)) rfl rfl ⟨Nat.le_of_ble_eq_true rfl, Nat.le_of_ble_eq_true rfl⟩ ⟨Nat.le_of_ble_eq_true rfl, Nat.le_of_ble_eq_true rfl⟩ rfl dL_stays_4 rfl (Nat.le_of_ble_eq_true rfl) (cxX12_stays hE.1 zq) (fun z hz => ?_) (fun z M1 hp => by obtain ⟨a9, ha9, -⟩ := hp; cases ha9)
    obtain rfl := Option.some.inj hz
    by_cases he1 : e = 1
    · rw [if_pos he1] at zf
      have hex : exN e = xNSE := by unfold exN; rw [if_pos he1]; rfl
      refine ⟨[], ⟨0, 9, 12, 18⟩, [], hE.2, (fun z9 hz9 => absurd hz9 List.not_mem_nil), by decide, (by decide : (18 : Nat) ≠ 0), by rw [hex]; exact clL_18, fun q => ?_⟩
      obtain rfl := Option.some.inj zf
      refine g_astore_nX h rfl [(3, Value.ref q), (0, rv G.1 0), (1, .int x1), (2, rv G.1 144)] (by decide) rfl dL_stays_12 ?_
      refine g_iconst h 1 (v := 1) (by decide) dL_stays_13 ?_
      exact g_iret h rfl ⟨rfl, rfl⟩ (Nat.le_refl _) (Nat.le_refl _) dL_stays_14
    · rw [if_neg he1] at zf
      cases zf
theorem cwL_stays {l : Launch} (zl : l.stackTraces = false) {w : WX} {M : Mem} {x1 : Int32} {res : Int32 × Mem} (zf : fL_stays M x1 = some res) : CMw l w yL_stays cL_stays 4 (some .int) [(0, 9, 12, 18)] { frames := 10, cells := 4, slots := 24, locals := 251 } 4 24 [rv w 0, .int x1, rv w 144] M (Pwi res) := by
  refine CMw_of zl (by decide) (Nat.le_of_ble_eq_true rfl) (fun G hw hl h hE => ?_)
  subst hw
  exact kL_stays h hE zf
theorem cdL_stays : Cond.codeWith yL_stays cL_stays 4 (some .int) [(0, 9, 12, 18)] ∈ LW := List.mem_filter.mpr ⟨(List.mem_append_right _ (List.mem_append_right _ (List.mem_append_right _ (List.mem_append_right _ (List.mem_append_right _ (List.mem_append_left _ (List.mem_of_getElem? (i := 57) rfl))))))), rfl⟩
theorem smL_stays : Cond.static yL_stays ∈ LW := List.mem_filter.mpr ⟨(List.mem_append_right _ (List.mem_append_right _ (List.mem_append_right _ (List.mem_append_right _ (List.mem_append_right _ (List.mem_append_left _ (List.mem_of_getElem? (i := 56) rfl))))))), rfl⟩
def fL_cost (M : Mem) (x1 : Int32) : Option (Int32 × Mem) := bT (fX12_cost M x1) (fun e => if e = 1 then none else some (1, M)) fun a => stL a.2 144 1 0 (Int32.toInt64 a.1) fun M2 => some (0, M2)
theorem kL_cost {G : GX} (h : OKm G cL_cost RL 4 (some .int) { frames := 10, cells := 4, slots := 24, locals := 252 }) (hE : OKh G [(0, 9, 12, 13)]) {M : Mem} {x1 : Int32} {res : Int32 × Mem} (zf : fL_cost M x1 = some res) : GG G (Qm G (Pwi res) 4 24) 0 0 0 [(0, rv G.1 0), (1, .int x1), (2, rv G.1 144)] [] M := by
  refine g_aload_n h 2 rfl dL_cost_0 ?_
  refine g_iconst h 0 (v := 0) (by decide) dL_cost_1 ?_
  refine g_aload_n h 0 rfl dL_cost_2 ?_
  refine g_iload_n h 1 rfl dL_cost_3 ?_
  rcases bT_some zf with ⟨a, zq, zf⟩ | ⟨e, zq, zf⟩
  · refine g_try (As := [.int x1]) (rest := [.int 0, rv G.1 144]) h ceX12_cost mlL_46 imX12_cost seX12_cost (by rfl) (by decide) (ent_10 (by decide)) rfl rfl ⟨Nat.le_of_ble_eq_true rfl, Nat.le_of_ble_eq_true rfl⟩ ⟨Nat.le_of_ble_eq_true rfl, Nat.le_of_ble_eq_true rfl⟩ rfl dL_cost_4 rfl (Nat.le_of_ble_eq_true rfl) (cxX12_cost hE.1 zq) (fun z hz => by cases hz) (fun z M1 hp => ?_)
    obtain ⟨a9, ha9, hp1, hp2⟩ := hp
    cases ha9
    subst hp1
    subst hp2
    refine g_i2l h dL_cost_7 ?_
    refine g_last h 1 (by decide) (by decide) zf dL_cost_8 (fun M2 zf => ?_)
    refine g_goto h 15 (by decide) dL_cost_9 ?_
    refine g_iconst h 0 (v := 0) (by decide) dL_cost_15 ?_
    obtain rfl := Option.some.inj zf
    exact g_iret h rfl ⟨rfl, rfl⟩ (Nat.le_refl _) (Nat.le_refl _) dL_cost_16
  · refine g_try (As := [.int x1]) (rest := [.int 0, rv G.1 144]) h ceX12_cost mlL_46 imX12_cost seX12_cost (by rfl) (by decide) (ent_10 (by decide)) rfl rfl ⟨Nat.le_of_ble_eq_true rfl, Nat.le_of_ble_eq_true rfl⟩ ⟨Nat.le_of_ble_eq_true rfl, Nat.le_of_ble_eq_true rfl⟩ rfl dL_cost_4 rfl (Nat.le_of_ble_eq_true rfl) (cxX12_cost hE.1 zq) (fun z hz => ?_) (fun z M1 hp => by obtain ⟨a9, ha9, -⟩ := hp; cases ha9)
    obtain rfl := Option.some.inj hz
    by_cases he1 : e = 1
    · rw [if_pos he1] at zf
      cases zf
    · rw [if_neg he1] at zf
      have hex : exN e = xIAE := by unfold exN; rw [if_neg he1]; rfl
      refine ⟨[], ⟨0, 9, 12, 13⟩, [], hE.2, (fun z9 hz9 => absurd hz9 List.not_mem_nil), by decide, (by decide : (13 : Nat) ≠ 0), by rw [hex]; exact clL_13, fun q => ?_⟩
      obtain rfl := Option.some.inj zf
      refine g_astore_nX h rfl [(3, Value.ref q), (0, rv G.1 0), (1, .int x1), (2, rv G.1 144)] (by decide) rfl dL_cost_12 ?_
      refine g_iconst h 1 (v := 1) (by decide) dL_cost_13 ?_
      exact g_iret h rfl ⟨rfl, rfl⟩ (Nat.le_refl _) (Nat.le_refl _) dL_cost_14
theorem cwL_cost {l : Launch} (zl : l.stackTraces = false) {w : WX} {M : Mem} {x1 : Int32} {res : Int32 × Mem} (zf : fL_cost M x1 = some res) : CMw l w yL_cost cL_cost 4 (some .int) [(0, 9, 12, 13)] { frames := 10, cells := 4, slots := 24, locals := 252 } 4 24 [rv w 0, .int x1, rv w 144] M (Pwi res) := by
  refine CMw_of zl (by decide) (Nat.le_of_ble_eq_true rfl) (fun G hw hl h hE => ?_)
  subst hw
  exact kL_cost h hE zf
theorem cdL_cost : Cond.codeWith yL_cost cL_cost 4 (some .int) [(0, 9, 12, 13)] ∈ LW := List.mem_filter.mpr ⟨(List.mem_append_right _ (List.mem_append_right _ (List.mem_append_right _ (List.mem_append_right _ (List.mem_append_right _ (List.mem_append_left _ (List.mem_of_getElem? (i := 64) rfl))))))), rfl⟩
theorem smL_cost : Cond.static yL_cost ∈ LW := List.mem_filter.mpr ⟨(List.mem_append_right _ (List.mem_append_right _ (List.mem_append_right _ (List.mem_append_right _ (List.mem_append_right _ (List.mem_append_left _ (List.mem_of_getElem? (i := 63) rfl))))))), rfl⟩
def fL_plan (M : Mem) (x1 : Int32) (x2 : Int32) : Option (Int32 × Mem) := bT (fX12_plan M x1 x2) (fun e => if e = 1 then some (1, M) else some (2, M)) fun a => stL a.2 144 1 0 (Int32.toInt64 a.1) fun M2 => some (0, M2)
theorem kL_plan {G : GX} (h : OKm G cL_plan RL 5 (some .int) { frames := 43, cells := 4, slots := 24, locals := 1315 }) (hE : OKh G [(0, 10, 13, 18), (0, 10, 17, 13)]) {M : Mem} {x1 : Int32} {x2 : Int32} {res : Int32 × Mem} (zf : fL_plan M x1 x2 = some res) : GG G (Qm G (Pwi res) 4 24) 0 0 0 [(0, rv G.1 0), (1, .int x1), (2, .int x2), (3, rv G.1 144)] [] M := by
  refine g_aload_n h 3 rfl dL_plan_0 ?_
  refine g_iconst h 0 (v := 0) (by decide) dL_plan_1 ?_
  refine g_aload_n h 0 rfl dL_plan_2 ?_
  refine g_iload_n h 1 rfl dL_plan_3 ?_
  refine g_iload_n h 2 rfl dL_plan_4 ?_
  rcases bT_some zf with ⟨a, zq, zf⟩ | ⟨e, zq, zf⟩
  · refine g_try (As := [.int x1, .int x2]) (rest := [.int 0, rv G.1 144]) h ceX12_plan mlL_49 imX12_plan seX12_plan (by rfl) (by decide) (ent_10 (by decide)) rfl rfl ⟨Nat.le_of_ble_eq_true rfl, Nat.le_of_ble_eq_true rfl⟩ ⟨Nat.le_of_ble_eq_true rfl, Nat.le_of_ble_eq_true rfl⟩ rfl dL_plan_5 rfl (Nat.le_of_ble_eq_true rfl) (cxX12_plan hE.1 zq) (fun z hz => by cases hz) (fun z M1 hp => ?_)
    obtain ⟨a9, ha9, hp1, hp2⟩ := hp
    cases ha9
    subst hp1
    subst hp2
    refine g_i2l h dL_plan_8 ?_
    refine g_last h 1 (by decide) (by decide) zf dL_plan_9 (fun M2 zf => ?_)
    refine g_goto h 21 (by decide) dL_plan_10 ?_
    refine g_iconst h 0 (v := 0) (by decide) dL_plan_21 ?_
    obtain rfl := Option.some.inj zf
    exact g_iret h rfl ⟨rfl, rfl⟩ (Nat.le_refl _) (Nat.le_refl _) dL_plan_22
  · refine g_try (As := [.int x1, .int x2]) (rest := [.int 0, rv G.1 144]) h ceX12_plan mlL_49 imX12_plan seX12_plan (by rfl) (by decide) (ent_10 (by decide)) rfl rfl ⟨Nat.le_of_ble_eq_true rfl, Nat.le_of_ble_eq_true rfl⟩ ⟨Nat.le_of_ble_eq_true rfl, Nat.le_of_ble_eq_true rfl⟩ rfl dL_plan_5 rfl (Nat.le_of_ble_eq_true rfl) (cxX12_plan hE.1 zq) (fun z hz => ?_) (fun z M1 hp => by obtain ⟨a9, ha9, -⟩ := hp; cases ha9)
    obtain rfl := Option.some.inj hz
    by_cases he1 : e = 1
    · rw [if_pos he1] at zf
      have hex : exN e = xNSE := by unfold exN; rw [if_pos he1]; rfl
      refine ⟨[], ⟨0, 10, 13, 18⟩, [⟨0, 10, 17, 13⟩], hE.2, (fun z9 hz9 => absurd hz9 List.not_mem_nil), by decide, (by decide : (18 : Nat) ≠ 0), by rw [hex]; exact clL_18, fun q => ?_⟩
      obtain rfl := Option.some.inj zf
      refine g_astoreX h [(4, Value.ref q), (0, rv G.1 0), (1, .int x1), (2, .int x2), (3, rv G.1 144)] (by decide) rfl dL_plan_13 ?_
      refine g_iconst h 1 (v := 1) (by decide) dL_plan_15 ?_
      exact g_iret h rfl ⟨rfl, rfl⟩ (Nat.le_refl _) (Nat.le_refl _) dL_plan_16
    · rw [if_neg he1] at zf
      have hex : exN e = xIAE := by unfold exN; rw [if_neg he1]; rfl
      refine ⟨[⟨0, 10, 13, 18⟩], ⟨0, 10, 17, 13⟩, [], hE.2, (fun z9 hz9 => by rw [List.mem_singleton.mp hz9]; exact ⟨by decide, clL_18, hex⟩), by decide, (by decide : (13 : Nat) ≠ 0), by rw [hex]; exact clL_13, fun q => ?_⟩
      obtain rfl := Option.some.inj zf
      refine g_astoreX h [(4, Value.ref q), (0, rv G.1 0), (1, .int x1), (2, .int x2), (3, rv G.1 144)] (by decide) rfl dL_plan_17 ?_
      refine g_iconst h 2 (v := 2) (by decide) dL_plan_19 ?_
      exact g_iret h rfl ⟨rfl, rfl⟩ (Nat.le_refl _) (Nat.le_refl _) dL_plan_20
theorem cwL_plan {l : Launch} (zl : l.stackTraces = false) {w : WX} {M : Mem} {x1 : Int32} {x2 : Int32} {res : Int32 × Mem} (zf : fL_plan M x1 x2 = some res) : CMw l w yL_plan cL_plan 5 (some .int) [(0, 10, 13, 18), (0, 10, 17, 13)] { frames := 43, cells := 4, slots := 24, locals := 1315 } 4 24 [rv w 0, .int x1, .int x2, rv w 144] M (Pwi res) := by
  refine CMw_of zl (by decide) (Nat.le_of_ble_eq_true rfl) (fun G hw hl h hE => ?_)
  subst hw
  exact kL_plan h hE zf
theorem cdL_plan : Cond.codeWith yL_plan cL_plan 5 (some .int) [(0, 10, 13, 18), (0, 10, 17, 13)] ∈ LW := List.mem_filter.mpr ⟨(List.mem_append_right _ (List.mem_append_right _ (List.mem_append_right _ (List.mem_append_right _ (List.mem_append_right _ (List.mem_append_left _ (List.mem_of_getElem? (i := 79) rfl))))))), rfl⟩
theorem smL_plan : Cond.static yL_plan ∈ LW := List.mem_filter.mpr ⟨(List.mem_append_right _ (List.mem_append_right _ (List.mem_append_right _ (List.mem_append_right _ (List.mem_append_right _ (List.mem_append_left _ (List.mem_of_getElem? (i := 78) rfl))))))), rfl⟩
def fL_wins (M : Mem) (x1 : Int32) (x2 : Int32) : Option (Int32 × Mem) := bT (fX12_wins M x1 x2) (fun e => if e = 1 then some (1, M) else none) fun a => if a = 0 then stL M 144 1 0 0 fun M2 => some (0, M2) else stL M 144 1 0 1 fun M2 => some (0, M2)
theorem kL_wins {G : GX} (h : OKm G cL_wins RL 5 (some .int) { frames := 8, cells := 4, slots := 24, locals := 203 }) (hE : OKh G [(0, 17, 20, 18)]) {M : Mem} {x1 : Int32} {x2 : Int32} {res : Int32 × Mem} (zf : fL_wins M x1 x2 = some res) : GG G (Qm G (Pwi res) 4 24) 0 0 0 [(0, rv G.1 0), (1, .int x1), (2, .int x2), (3, rv G.1 144)] [] M := by
  refine g_aload_n h 3 rfl dL_wins_0 ?_
  refine g_iconst h 0 (v := 0) (by decide) dL_wins_1 ?_
  refine g_aload_n h 0 rfl dL_wins_2 ?_
  refine g_iload_n h 1 rfl dL_wins_3 ?_
  refine g_iload_n h 2 rfl dL_wins_4 ?_
  rcases bT_some zf with ⟨a, zq, zf⟩ | ⟨e, zq, zf⟩
  · refine g_try (As := [.int x1, .int x2]) (rest := [.int 0, rv G.1 144]) h ceX12_wins mlL_52 imX12_wins seX12_wins (by rfl) (by decide) (ent_10 (by decide)) rfl rfl ⟨Nat.le_of_ble_eq_true rfl, Nat.le_of_ble_eq_true rfl⟩ ⟨Nat.le_of_ble_eq_true rfl, Nat.le_of_ble_eq_true rfl⟩ rfl dL_wins_5 rfl (Nat.le_of_ble_eq_true rfl) (cxX12_wins hE.1 zq) (fun z hz => by cases hz) (fun z M1 hp => ?_)
    obtain ⟨a9, ha9, hp1, hp2⟩ := hp
    cases ha9
    subst hp1
    subst hp2
    refine g_if_eq h 15 (by decide) zf dL_wins_8 (fun zf => ?_) (fun zf => ?_)
    · refine g_lconst h 0 (v := 0) (by decide) dL_wins_15 ?_
      refine g_last h 1 (by decide) (by decide) zf dL_wins_16 (fun M2 zf => ?_)
      refine g_goto h 24 (by decide) dL_wins_17 ?_
      refine g_iconst h 0 (v := 0) (by decide) dL_wins_24 ?_
      obtain rfl := Option.some.inj zf
      exact g_iret h rfl ⟨rfl, rfl⟩ (Nat.le_refl _) (Nat.le_refl _) dL_wins_25
    · refine g_lconst h 1 (v := 1) (by decide) dL_wins_11 ?_
      refine g_goto h 16 (by decide) dL_wins_12 ?_
      refine g_last h 1 (by decide) (by decide) zf dL_wins_16 (fun M2 zf => ?_)
      refine g_goto h 24 (by decide) dL_wins_17 ?_
      refine g_iconst h 0 (v := 0) (by decide) dL_wins_24 ?_
      obtain rfl := Option.some.inj zf
      exact g_iret h rfl ⟨rfl, rfl⟩ (Nat.le_refl _) (Nat.le_refl _) dL_wins_25
  · refine g_try (As := [.int x1, .int x2]) (rest := [.int 0, rv G.1 144]) h ceX12_wins mlL_52 imX12_wins seX12_wins (by rfl) (by decide) (ent_10 (by decide)) rfl rfl ⟨Nat.le_of_ble_eq_true rfl, Nat.le_of_ble_eq_true rfl⟩ ⟨Nat.le_of_ble_eq_true rfl, Nat.le_of_ble_eq_true rfl⟩ rfl dL_wins_5 rfl (Nat.le_of_ble_eq_true rfl) (cxX12_wins hE.1 zq) (fun z hz => ?_) (fun z M1 hp => by obtain ⟨a9, ha9, -⟩ := hp; cases ha9)
    obtain rfl := Option.some.inj hz
    by_cases he1 : e = 1
    · rw [if_pos he1] at zf
      have hex : exN e = xNSE := by unfold exN; rw [if_pos he1]; rfl
      refine ⟨[], ⟨0, 17, 20, 18⟩, [], hE.2, (fun z9 hz9 => absurd hz9 List.not_mem_nil), by decide, (by decide : (18 : Nat) ≠ 0), by rw [hex]; exact clL_18, fun q => ?_⟩
      obtain rfl := Option.some.inj zf
      refine g_astoreX h [(4, Value.ref q), (0, rv G.1 0), (1, .int x1), (2, .int x2), (3, rv G.1 144)] (by decide) rfl dL_wins_20 ?_
      refine g_iconst h 1 (v := 1) (by decide) dL_wins_22 ?_
      exact g_iret h rfl ⟨rfl, rfl⟩ (Nat.le_refl _) (Nat.le_refl _) dL_wins_23
    · rw [if_neg he1] at zf
      cases zf
theorem cwL_wins {l : Launch} (zl : l.stackTraces = false) {w : WX} {M : Mem} {x1 : Int32} {x2 : Int32} {res : Int32 × Mem} (zf : fL_wins M x1 x2 = some res) : CMw l w yL_wins cL_wins 5 (some .int) [(0, 17, 20, 18)] { frames := 8, cells := 4, slots := 24, locals := 203 } 4 24 [rv w 0, .int x1, .int x2, rv w 144] M (Pwi res) := by
  refine CMw_of zl (by decide) (Nat.le_of_ble_eq_true rfl) (fun G hw hl h hE => ?_)
  subst hw
  exact kL_wins h hE zf
theorem cdL_wins : Cond.codeWith yL_wins cL_wins 5 (some .int) [(0, 17, 20, 18)] ∈ LW := List.mem_filter.mpr ⟨(List.mem_append_right _ (List.mem_append_right _ (List.mem_append_right _ (List.mem_append_right _ (List.mem_append_right _ (List.mem_append_left _ (List.mem_of_getElem? (i := 104) rfl))))))), rfl⟩
theorem smL_wins : Cond.static yL_wins ∈ LW := List.mem_filter.mpr ⟨(List.mem_append_right _ (List.mem_append_right _ (List.mem_append_right _ (List.mem_append_right _ (List.mem_append_right _ (List.mem_append_left _ (List.mem_of_getElem? (i := 103) rfl))))))), rfl⟩
def fL_assault (M : Mem) (x1 : Int32) : Option (Int32 × Mem) := bT (fX12_assault M x1) (fun e => if e = 1 then some (1, M) else none) fun a => stL a.2 144 1 0 (Int32.toInt64 a.1) fun M2 => some (0, M2)
theorem kL_assault {G : GX} (h : OKm G cL_assault RL 4 (some .int) { frames := 8, cells := 4, slots := 24, locals := 205 }) (hE : OKh G [(0, 9, 12, 18)]) {M : Mem} {x1 : Int32} {res : Int32 × Mem} (zf : fL_assault M x1 = some res) : GG G (Qm G (Pwi res) 4 24) 0 0 0 [(0, rv G.1 0), (1, .int x1), (2, rv G.1 144)] [] M := by
  refine g_aload_n h 2 rfl dL_assault_0 ?_
  refine g_iconst h 0 (v := 0) (by decide) dL_assault_1 ?_
  refine g_aload_n h 0 rfl dL_assault_2 ?_
  refine g_iload_n h 1 rfl dL_assault_3 ?_
  rcases bT_some zf with ⟨a, zq, zf⟩ | ⟨e, zq, zf⟩
  · refine g_try (As := [.int x1]) (rest := [.int 0, rv G.1 144]) h ceX12_assault mlL_56 imX12_assault seX12_assault (by rfl) (by decide) (ent_10 (by decide)) rfl rfl ⟨Nat.le_of_ble_eq_true rfl, Nat.le_of_ble_eq_true rfl⟩ ⟨Nat.le_of_ble_eq_true rfl, Nat.le_of_ble_eq_true rfl⟩ rfl dL_assault_4 rfl (Nat.le_of_ble_eq_true rfl) (cxX12_assault hE.1 zq) (fun z hz => by cases hz) (fun z M1 hp => ?_)
    obtain ⟨a9, ha9, hp1, hp2⟩ := hp
    cases ha9
    subst hp1
    subst hp2
    refine g_i2l h dL_assault_7 ?_
    refine g_last h 1 (by decide) (by decide) zf dL_assault_8 (fun M2 zf => ?_)
    refine g_goto h 15 (by decide) dL_assault_9 ?_
    refine g_iconst h 0 (v := 0) (by decide) dL_assault_15 ?_
    obtain rfl := Option.some.inj zf
    exact g_iret h rfl ⟨rfl, rfl⟩ (Nat.le_refl _) (Nat.le_refl _) dL_assault_16
  · refine g_try (As := [.int x1]) (rest := [.int 0, rv G.1 144]) h ceX12_assault mlL_56 imX12_assault seX12_assault (by rfl) (by decide) (ent_10 (by decide)) rfl rfl ⟨Nat.le_of_ble_eq_true rfl, Nat.le_of_ble_eq_true rfl⟩ ⟨Nat.le_of_ble_eq_true rfl, Nat.le_of_ble_eq_true rfl⟩ rfl dL_assault_4 rfl (Nat.le_of_ble_eq_true rfl) (cxX12_assault hE.1 zq) (fun z hz => ?_) (fun z M1 hp => by obtain ⟨a9, ha9, -⟩ := hp; cases ha9)
    obtain rfl := Option.some.inj hz
    by_cases he1 : e = 1
    · rw [if_pos he1] at zf
      have hex : exN e = xNSE := by unfold exN; rw [if_pos he1]; rfl
      refine ⟨[], ⟨0, 9, 12, 18⟩, [], hE.2, (fun z9 hz9 => absurd hz9 List.not_mem_nil), by decide, (by decide : (18 : Nat) ≠ 0), by rw [hex]; exact clL_18, fun q => ?_⟩
      obtain rfl := Option.some.inj zf
      refine g_astore_nX h rfl [(3, Value.ref q), (0, rv G.1 0), (1, .int x1), (2, rv G.1 144)] (by decide) rfl dL_assault_12 ?_
      refine g_iconst h 1 (v := 1) (by decide) dL_assault_13 ?_
      exact g_iret h rfl ⟨rfl, rfl⟩ (Nat.le_refl _) (Nat.le_refl _) dL_assault_14
    · rw [if_neg he1] at zf
      cases zf
theorem cwL_assault {l : Launch} (zl : l.stackTraces = false) {w : WX} {M : Mem} {x1 : Int32} {res : Int32 × Mem} (zf : fL_assault M x1 = some res) : CMw l w yL_assault cL_assault 4 (some .int) [(0, 9, 12, 18)] { frames := 8, cells := 4, slots := 24, locals := 205 } 4 24 [rv w 0, .int x1, rv w 144] M (Pwi res) := by
  refine CMw_of zl (by decide) (Nat.le_of_ble_eq_true rfl) (fun G hw hl h hE => ?_)
  subst hw
  exact kL_assault h hE zf
theorem cdL_assault : Cond.codeWith yL_assault cL_assault 4 (some .int) [(0, 9, 12, 18)] ∈ LW := List.mem_filter.mpr ⟨(List.mem_append_right _ (List.mem_append_right _ (List.mem_append_right _ (List.mem_append_right _ (List.mem_append_right _ (List.mem_append_left _ (List.mem_of_getElem? (i := 125) rfl))))))), rfl⟩
theorem smL_assault : Cond.static yL_assault ∈ LW := List.mem_filter.mpr ⟨(List.mem_append_right _ (List.mem_append_right _ (List.mem_append_right _ (List.mem_append_right _ (List.mem_append_right _ (List.mem_append_left _ (List.mem_of_getElem? (i := 124) rfl))))))), rfl⟩
def fL_bought (M : Mem) (x1 : Int32) : Option (Int32 × Mem) := bT (fX12_bought M x1) (fun e => if e = 1 then some (1, M) else none) fun a => stL M 144 1 0 (Int32.toInt64 a) fun M2 => some (0, M2)
theorem kL_bought {G : GX} (h : OKm G cL_bought RL 4 (some .int) { frames := 8, cells := 4, slots := 24, locals := 208 }) (hE : OKh G [(0, 9, 12, 18)]) {M : Mem} {x1 : Int32} {res : Int32 × Mem} (zf : fL_bought M x1 = some res) : GG G (Qm G (Pwi res) 4 24) 0 0 0 [(0, rv G.1 0), (1, .int x1), (2, rv G.1 144)] [] M := by
  refine g_aload_n h 2 rfl dL_bought_0 ?_
  refine g_iconst h 0 (v := 0) (by decide) dL_bought_1 ?_
  refine g_aload_n h 0 rfl dL_bought_2 ?_
  refine g_iload_n h 1 rfl dL_bought_3 ?_
  rcases bT_some zf with ⟨a, zq, zf⟩ | ⟨e, zq, zf⟩
  · refine g_try (As := [.int x1]) (rest := [.int 0, rv G.1 144]) h ceX12_bought mlL_59 imX12_bought seX12_bought (by rfl) (by decide) (ent_10 (by decide)) rfl rfl ⟨Nat.le_of_ble_eq_true rfl, Nat.le_of_ble_eq_true rfl⟩ ⟨Nat.le_of_ble_eq_true rfl, Nat.le_of_ble_eq_true rfl⟩ rfl dL_bought_4 rfl (Nat.le_of_ble_eq_true rfl) (cxX12_bought hE.1 zq) (fun z hz => by cases hz) (fun z M1 hp => ?_)
    obtain ⟨a9, ha9, hp1, hp2⟩ := hp
    cases ha9
    subst hp1
    subst hp2
    refine g_i2l h dL_bought_7 ?_
    refine g_last h 1 (by decide) (by decide) zf dL_bought_8 (fun M2 zf => ?_)
    refine g_goto h 15 (by decide) dL_bought_9 ?_
    refine g_iconst h 0 (v := 0) (by decide) dL_bought_15 ?_
    obtain rfl := Option.some.inj zf
    exact g_iret h rfl ⟨rfl, rfl⟩ (Nat.le_refl _) (Nat.le_refl _) dL_bought_16
  · refine g_try (As := [.int x1]) (rest := [.int 0, rv G.1 144]) h ceX12_bought mlL_59 imX12_bought seX12_bought (by rfl) (by decide) (ent_10 (by decide)) rfl rfl ⟨Nat.le_of_ble_eq_true rfl, Nat.le_of_ble_eq_true rfl⟩ ⟨Nat.le_of_ble_eq_true rfl, Nat.le_of_ble_eq_true rfl⟩ rfl dL_bought_4 rfl (Nat.le_of_ble_eq_true rfl) (cxX12_bought hE.1 zq) (fun z hz => ?_) (fun z M1 hp => by obtain ⟨a9, ha9, -⟩ := hp; cases ha9)
    obtain rfl := Option.some.inj hz
    by_cases he1 : e = 1
    · rw [if_pos he1] at zf
      have hex : exN e = xNSE := by unfold exN; rw [if_pos he1]; rfl
      refine ⟨[], ⟨0, 9, 12, 18⟩, [], hE.2, (fun z9 hz9 => absurd hz9 List.not_mem_nil), by decide, (by decide : (18 : Nat) ≠ 0), by rw [hex]; exact clL_18, fun q => ?_⟩
      obtain rfl := Option.some.inj zf
      refine g_astore_nX h rfl [(3, Value.ref q), (0, rv G.1 0), (1, .int x1), (2, rv G.1 144)] (by decide) rfl dL_bought_12 ?_
      refine g_iconst h 1 (v := 1) (by decide) dL_bought_13 ?_
      exact g_iret h rfl ⟨rfl, rfl⟩ (Nat.le_refl _) (Nat.le_refl _) dL_bought_14
    · rw [if_neg he1] at zf
      cases zf
theorem cwL_bought {l : Launch} (zl : l.stackTraces = false) {w : WX} {M : Mem} {x1 : Int32} {res : Int32 × Mem} (zf : fL_bought M x1 = some res) : CMw l w yL_bought cL_bought 4 (some .int) [(0, 9, 12, 18)] { frames := 8, cells := 4, slots := 24, locals := 208 } 4 24 [rv w 0, .int x1, rv w 144] M (Pwi res) := by
  refine CMw_of zl (by decide) (Nat.le_of_ble_eq_true rfl) (fun G hw hl h hE => ?_)
  subst hw
  exact kL_bought h hE zf
theorem cdL_bought : Cond.codeWith yL_bought cL_bought 4 (some .int) [(0, 9, 12, 18)] ∈ LW := List.mem_filter.mpr ⟨(List.mem_append_right _ (List.mem_append_right _ (List.mem_append_right _ (List.mem_append_right _ (List.mem_append_right _ (List.mem_append_left _ (List.mem_of_getElem? (i := 144) rfl))))))), rfl⟩
theorem smL_bought : Cond.static yL_bought ∈ LW := List.mem_filter.mpr ⟨(List.mem_append_right _ (List.mem_append_right _ (List.mem_append_right _ (List.mem_append_right _ (List.mem_append_right _ (List.mem_append_left _ (List.mem_of_getElem? (i := 143) rfl))))))), rfl⟩
def fL_odds (M : Mem) (x1 : Int32) (x2 : Int32) (x3 : Int32) : Option (Int32 × Mem) := bT (fX12_odds M x1 x2 x3) (fun e => if e = 1 then some (1, M) else some (2, M)) fun a => stL a.2 144 1 0 (Int32.toInt64 a.1) fun M2 => some (0, M2)
theorem kL_odds {G : GX} (h : OKm G cL_odds RL 6 (some .int) { frames := 8, cells := 4, slots := 24, locals := 209 }) (hE : OKh G [(0, 12, 15, 18), (0, 12, 19, 13)]) {M : Mem} {x1 : Int32} {x2 : Int32} {x3 : Int32} {res : Int32 × Mem} (zf : fL_odds M x1 x2 x3 = some res) : GG G (Qm G (Pwi res) 4 24) 0 0 0 [(0, rv G.1 0), (1, .int x1), (2, .int x2), (3, .int x3), (4, rv G.1 144)] [] M := by
  refine g_aload h 4 rfl dL_odds_0 ?_
  refine g_iconst h 0 (v := 0) (by decide) dL_odds_2 ?_
  refine g_aload_n h 0 rfl dL_odds_3 ?_
  refine g_iload_n h 1 rfl dL_odds_4 ?_
  refine g_iload_n h 2 rfl dL_odds_5 ?_
  refine g_iload_n h 3 rfl dL_odds_6 ?_
  rcases bT_some zf with ⟨a, zq, zf⟩ | ⟨e, zq, zf⟩
  · refine g_try (As := [.int x1, .int x2, .int x3]) (rest := [.int 0, rv G.1 144]) h ceX12_odds mlL_62 imX12_odds seX12_odds (by rfl) (by decide) (ent_10 (by decide)) rfl rfl ⟨Nat.le_of_ble_eq_true rfl, Nat.le_of_ble_eq_true rfl⟩ ⟨Nat.le_of_ble_eq_true rfl, Nat.le_of_ble_eq_true rfl⟩ rfl dL_odds_7 rfl (Nat.le_of_ble_eq_true rfl) (cxX12_odds hE.1 zq) (fun z hz => by cases hz) (fun z M1 hp => ?_)
    obtain ⟨a9, ha9, hp1, hp2⟩ := hp
    cases ha9
    subst hp1
    subst hp2
    refine g_i2l h dL_odds_10 ?_
    refine g_last h 1 (by decide) (by decide) zf dL_odds_11 (fun M2 zf => ?_)
    refine g_goto h 23 (by decide) dL_odds_12 ?_
    refine g_iconst h 0 (v := 0) (by decide) dL_odds_23 ?_
    obtain rfl := Option.some.inj zf
    exact g_iret h rfl ⟨rfl, rfl⟩ (Nat.le_refl _) (Nat.le_refl _) dL_odds_24
  · refine g_try (As := [.int x1, .int x2, .int x3]) (rest := [.int 0, rv G.1 144]) h ceX12_odds mlL_62 imX12_odds seX12_odds (by rfl) (by decide) (ent_10 (by decide)) rfl rfl ⟨Nat.le_of_ble_eq_true rfl, Nat.le_of_ble_eq_true rfl⟩ ⟨Nat.le_of_ble_eq_true rfl, Nat.le_of_ble_eq_true rfl⟩ rfl dL_odds_7 rfl (Nat.le_of_ble_eq_true rfl) (cxX12_odds hE.1 zq) (fun z hz => ?_) (fun z M1 hp => by obtain ⟨a9, ha9, -⟩ := hp; cases ha9)
    obtain rfl := Option.some.inj hz
    by_cases he1 : e = 1
    · rw [if_pos he1] at zf
      have hex : exN e = xNSE := by unfold exN; rw [if_pos he1]; rfl
      refine ⟨[], ⟨0, 12, 15, 18⟩, [⟨0, 12, 19, 13⟩], hE.2, (fun z9 hz9 => absurd hz9 List.not_mem_nil), by decide, (by decide : (18 : Nat) ≠ 0), by rw [hex]; exact clL_18, fun q => ?_⟩
      obtain rfl := Option.some.inj zf
      refine g_astoreX h [(5, Value.ref q), (0, rv G.1 0), (1, .int x1), (2, .int x2), (3, .int x3), (4, rv G.1 144)] (by decide) rfl dL_odds_15 ?_
      refine g_iconst h 1 (v := 1) (by decide) dL_odds_17 ?_
      exact g_iret h rfl ⟨rfl, rfl⟩ (Nat.le_refl _) (Nat.le_refl _) dL_odds_18
    · rw [if_neg he1] at zf
      have hex : exN e = xIAE := by unfold exN; rw [if_neg he1]; rfl
      refine ⟨[⟨0, 12, 15, 18⟩], ⟨0, 12, 19, 13⟩, [], hE.2, (fun z9 hz9 => by rw [List.mem_singleton.mp hz9]; exact ⟨by decide, clL_18, hex⟩), by decide, (by decide : (13 : Nat) ≠ 0), by rw [hex]; exact clL_13, fun q => ?_⟩
      obtain rfl := Option.some.inj zf
      refine g_astoreX h [(5, Value.ref q), (0, rv G.1 0), (1, .int x1), (2, .int x2), (3, .int x3), (4, rv G.1 144)] (by decide) rfl dL_odds_19 ?_
      refine g_iconst h 2 (v := 2) (by decide) dL_odds_21 ?_
      exact g_iret h rfl ⟨rfl, rfl⟩ (Nat.le_refl _) (Nat.le_refl _) dL_odds_22
theorem cwL_odds {l : Launch} (zl : l.stackTraces = false) {w : WX} {M : Mem} {x1 : Int32} {x2 : Int32} {x3 : Int32} {res : Int32 × Mem} (zf : fL_odds M x1 x2 x3 = some res) : CMw l w yL_odds cL_odds 6 (some .int) [(0, 12, 15, 18), (0, 12, 19, 13)] { frames := 8, cells := 4, slots := 24, locals := 209 } 4 24 [rv w 0, .int x1, .int x2, .int x3, rv w 144] M (Pwi res) := by
  refine CMw_of zl (by decide) (Nat.le_of_ble_eq_true rfl) (fun G hw hl h hE => ?_)
  subst hw
  exact kL_odds h hE zf
theorem cdL_odds : Cond.codeWith yL_odds cL_odds 6 (some .int) [(0, 12, 15, 18), (0, 12, 19, 13)] ∈ LW := List.mem_filter.mpr ⟨(List.mem_append_right _ (List.mem_append_right _ (List.mem_append_right _ (List.mem_append_right _ (List.mem_append_right _ (List.mem_append_left _ (List.mem_of_getElem? (i := 157) rfl))))))), rfl⟩
theorem smL_odds : Cond.static yL_odds ∈ LW := List.mem_filter.mpr ⟨(List.mem_append_right _ (List.mem_append_right _ (List.mem_append_right _ (List.mem_append_right _ (List.mem_append_right _ (List.mem_append_left _ (List.mem_of_getElem? (i := 156) rfl))))))), rfl⟩
def fL_moved (M : Mem) (x1 : Int32) (x2 : Int32) : Option (Int32 × Mem) := bT (fX12_moved M x1 x2) (fun e => if e = 1 then some (1, M) else some (2, M)) fun a => stL a.2 144 1 0 (Int32.toInt64 a.1) fun M2 => some (0, M2)
theorem kL_moved {G : GX} (h : OKm G cL_moved RL 5 (some .int) { frames := 8, cells := 4, slots := 24, locals := 243 }) (hE : OKh G [(0, 10, 13, 18), (0, 10, 17, 13)]) {M : Mem} {x1 : Int32} {x2 : Int32} {res : Int32 × Mem} (zf : fL_moved M x1 x2 = some res) : GG G (Qm G (Pwi res) 4 24) 0 0 0 [(0, rv G.1 0), (1, .int x1), (2, .int x2), (3, rv G.1 144)] [] M := by
  refine g_aload_n h 3 rfl dL_moved_0 ?_
  refine g_iconst h 0 (v := 0) (by decide) dL_moved_1 ?_
  refine g_aload_n h 0 rfl dL_moved_2 ?_
  refine g_iload_n h 1 rfl dL_moved_3 ?_
  refine g_iload_n h 2 rfl dL_moved_4 ?_
  rcases bT_some zf with ⟨a, zq, zf⟩ | ⟨e, zq, zf⟩
  · refine g_try (As := [.int x1, .int x2]) (rest := [.int 0, rv G.1 144]) h ceX12_moved mlL_65 imX12_moved seX12_moved (by rfl) (by decide) (ent_10 (by decide)) rfl rfl ⟨Nat.le_of_ble_eq_true rfl, Nat.le_of_ble_eq_true rfl⟩ ⟨Nat.le_of_ble_eq_true rfl, Nat.le_of_ble_eq_true rfl⟩ rfl dL_moved_5 rfl (Nat.le_of_ble_eq_true rfl) (cxX12_moved hE.1 zq) (fun z hz => by cases hz) (fun z M1 hp => ?_)
    obtain ⟨a9, ha9, hp1, hp2⟩ := hp
    cases ha9
    subst hp1
    subst hp2
    refine g_i2l h dL_moved_8 ?_
    refine g_last h 1 (by decide) (by decide) zf dL_moved_9 (fun M2 zf => ?_)
    refine g_goto h 21 (by decide) dL_moved_10 ?_
    refine g_iconst h 0 (v := 0) (by decide) dL_moved_21 ?_
    obtain rfl := Option.some.inj zf
    exact g_iret h rfl ⟨rfl, rfl⟩ (Nat.le_refl _) (Nat.le_refl _) dL_moved_22
  · refine g_try (As := [.int x1, .int x2]) (rest := [.int 0, rv G.1 144]) h ceX12_moved mlL_65 imX12_moved seX12_moved (by rfl) (by decide) (ent_10 (by decide)) rfl rfl ⟨Nat.le_of_ble_eq_true rfl, Nat.le_of_ble_eq_true rfl⟩ ⟨Nat.le_of_ble_eq_true rfl, Nat.le_of_ble_eq_true rfl⟩ rfl dL_moved_5 rfl (Nat.le_of_ble_eq_true rfl) (cxX12_moved hE.1 zq) (fun z hz => ?_) (fun z M1 hp => by obtain ⟨a9, ha9, -⟩ := hp; cases ha9)
    obtain rfl := Option.some.inj hz
    by_cases he1 : e = 1
    · rw [if_pos he1] at zf
      have hex : exN e = xNSE := by unfold exN; rw [if_pos he1]; rfl
      refine ⟨[], ⟨0, 10, 13, 18⟩, [⟨0, 10, 17, 13⟩], hE.2, (fun z9 hz9 => absurd hz9 List.not_mem_nil), by decide, (by decide : (18 : Nat) ≠ 0), by rw [hex]; exact clL_18, fun q => ?_⟩
      obtain rfl := Option.some.inj zf
      refine g_astoreX h [(4, Value.ref q), (0, rv G.1 0), (1, .int x1), (2, .int x2), (3, rv G.1 144)] (by decide) rfl dL_moved_13 ?_
      refine g_iconst h 1 (v := 1) (by decide) dL_moved_15 ?_
      exact g_iret h rfl ⟨rfl, rfl⟩ (Nat.le_refl _) (Nat.le_refl _) dL_moved_16
    · rw [if_neg he1] at zf
      have hex : exN e = xIAE := by unfold exN; rw [if_neg he1]; rfl
      refine ⟨[⟨0, 10, 13, 18⟩], ⟨0, 10, 17, 13⟩, [], hE.2, (fun z9 hz9 => by rw [List.mem_singleton.mp hz9]; exact ⟨by decide, clL_18, hex⟩), by decide, (by decide : (13 : Nat) ≠ 0), by rw [hex]; exact clL_13, fun q => ?_⟩
      obtain rfl := Option.some.inj zf
      refine g_astoreX h [(4, Value.ref q), (0, rv G.1 0), (1, .int x1), (2, .int x2), (3, rv G.1 144)] (by decide) rfl dL_moved_17 ?_
      refine g_iconst h 2 (v := 2) (by decide) dL_moved_19 ?_
      exact g_iret h rfl ⟨rfl, rfl⟩ (Nat.le_refl _) (Nat.le_refl _) dL_moved_20
theorem cwL_moved {l : Launch} (zl : l.stackTraces = false) {w : WX} {M : Mem} {x1 : Int32} {x2 : Int32} {res : Int32 × Mem} (zf : fL_moved M x1 x2 = some res) : CMw l w yL_moved cL_moved 5 (some .int) [(0, 10, 13, 18), (0, 10, 17, 13)] { frames := 8, cells := 4, slots := 24, locals := 243 } 4 24 [rv w 0, .int x1, .int x2, rv w 144] M (Pwi res) := by
  refine CMw_of zl (by decide) (Nat.le_of_ble_eq_true rfl) (fun G hw hl h hE => ?_)
  subst hw
  exact kL_moved h hE zf
theorem cdL_moved : Cond.codeWith yL_moved cL_moved 5 (some .int) [(0, 10, 13, 18), (0, 10, 17, 13)] ∈ LW := List.mem_filter.mpr ⟨(List.mem_append_right _ (List.mem_append_right _ (List.mem_append_right _ (List.mem_append_right _ (List.mem_append_right _ (List.mem_append_left _ (List.mem_of_getElem? (i := 168) rfl))))))), rfl⟩
theorem smL_moved : Cond.static yL_moved ∈ LW := List.mem_filter.mpr ⟨(List.mem_append_right _ (List.mem_append_right _ (List.mem_append_right _ (List.mem_append_right _ (List.mem_append_right _ (List.mem_append_left _ (List.mem_of_getElem? (i := 167) rfl))))))), rfl⟩
def fL_parties (M : Mem) (x1 : Int32) : Option (Int32 × Mem) := bT (fX12_parties M x1) (fun e => if e = 1 then some (1, M) else none) fun a => stL M 144 1 0 (Int32.toInt64 a) fun M2 => some (0, M2)
theorem kL_parties {G : GX} (h : OKm G cL_parties RL 4 (some .int) { frames := 8, cells := 4, slots := 24, locals := 206 }) (hE : OKh G [(0, 9, 12, 18)]) {M : Mem} {x1 : Int32} {res : Int32 × Mem} (zf : fL_parties M x1 = some res) : GG G (Qm G (Pwi res) 4 24) 0 0 0 [(0, rv G.1 0), (1, .int x1), (2, rv G.1 144)] [] M := by
  refine g_aload_n h 2 rfl dL_parties_0 ?_
  refine g_iconst h 0 (v := 0) (by decide) dL_parties_1 ?_
  refine g_aload_n h 0 rfl dL_parties_2 ?_
  refine g_iload_n h 1 rfl dL_parties_3 ?_
  rcases bT_some zf with ⟨a, zq, zf⟩ | ⟨e, zq, zf⟩
  · refine g_try (As := [.int x1]) (rest := [.int 0, rv G.1 144]) h ceX12_parties mlL_68 imX12_parties seX12_parties (by rfl) (by decide) (ent_10 (by decide)) rfl rfl ⟨Nat.le_of_ble_eq_true rfl, Nat.le_of_ble_eq_true rfl⟩ ⟨Nat.le_of_ble_eq_true rfl, Nat.le_of_ble_eq_true rfl⟩ rfl dL_parties_4 rfl (Nat.le_of_ble_eq_true rfl) (cxX12_parties hE.1 zq) (fun z hz => by cases hz) (fun z M1 hp => ?_)
    obtain ⟨a9, ha9, hp1, hp2⟩ := hp
    cases ha9
    subst hp1
    subst hp2
    refine g_i2l h dL_parties_7 ?_
    refine g_last h 1 (by decide) (by decide) zf dL_parties_8 (fun M2 zf => ?_)
    refine g_goto h 15 (by decide) dL_parties_9 ?_
    refine g_iconst h 0 (v := 0) (by decide) dL_parties_15 ?_
    obtain rfl := Option.some.inj zf
    exact g_iret h rfl ⟨rfl, rfl⟩ (Nat.le_refl _) (Nat.le_refl _) dL_parties_16
  · refine g_try (As := [.int x1]) (rest := [.int 0, rv G.1 144]) h ceX12_parties mlL_68 imX12_parties seX12_parties (by rfl) (by decide) (ent_10 (by decide)) rfl rfl ⟨Nat.le_of_ble_eq_true rfl, Nat.le_of_ble_eq_true rfl⟩ ⟨Nat.le_of_ble_eq_true rfl, Nat.le_of_ble_eq_true rfl⟩ rfl dL_parties_4 rfl (Nat.le_of_ble_eq_true rfl) (cxX12_parties hE.1 zq) (fun z hz => ?_) (fun z M1 hp => by obtain ⟨a9, ha9, -⟩ := hp; cases ha9)
    obtain rfl := Option.some.inj hz
    by_cases he1 : e = 1
    · rw [if_pos he1] at zf
      have hex : exN e = xNSE := by unfold exN; rw [if_pos he1]; rfl
      refine ⟨[], ⟨0, 9, 12, 18⟩, [], hE.2, (fun z9 hz9 => absurd hz9 List.not_mem_nil), by decide, (by decide : (18 : Nat) ≠ 0), by rw [hex]; exact clL_18, fun q => ?_⟩
      obtain rfl := Option.some.inj zf
      refine g_astore_nX h rfl [(3, Value.ref q), (0, rv G.1 0), (1, .int x1), (2, rv G.1 144)] (by decide) rfl dL_parties_12 ?_
      refine g_iconst h 1 (v := 1) (by decide) dL_parties_13 ?_
      exact g_iret h rfl ⟨rfl, rfl⟩ (Nat.le_refl _) (Nat.le_refl _) dL_parties_14
    · rw [if_neg he1] at zf
      cases zf
theorem cwL_parties {l : Launch} (zl : l.stackTraces = false) {w : WX} {M : Mem} {x1 : Int32} {res : Int32 × Mem} (zf : fL_parties M x1 = some res) : CMw l w yL_parties cL_parties 4 (some .int) [(0, 9, 12, 18)] { frames := 8, cells := 4, slots := 24, locals := 206 } 4 24 [rv w 0, .int x1, rv w 144] M (Pwi res) := by
  refine CMw_of zl (by decide) (Nat.le_of_ble_eq_true rfl) (fun G hw hl h hE => ?_)
  subst hw
  exact kL_parties h hE zf
theorem cdL_parties : Cond.codeWith yL_parties cL_parties 4 (some .int) [(0, 9, 12, 18)] ∈ LW := List.mem_filter.mpr ⟨(List.mem_append_right _ (List.mem_append_right _ (List.mem_append_right _ (List.mem_append_right _ (List.mem_append_right _ (List.mem_append_left _ (List.mem_of_getElem? (i := 175) rfl))))))), rfl⟩
theorem smL_parties : Cond.static yL_parties ∈ LW := List.mem_filter.mpr ⟨(List.mem_append_right _ (List.mem_append_right _ (List.mem_append_right _ (List.mem_append_right _ (List.mem_append_right _ (List.mem_append_left _ (List.mem_of_getElem? (i := 174) rfl))))))), rfl⟩
def fL_another (M : Mem) (x1 : Int32) : Option (Int32 × Mem) := bT (fX12_another M x1) (fun e => if e = 1 then some (1, M) else none) fun a => stL a.2 144 1 0 (Int32.toInt64 a.1) fun M2 => some (0, M2)
theorem kL_another {G : GX} (h : OKm G cL_another RL 4 (some .int) { frames := 10, cells := 4, slots := 24, locals := 273 }) (hE : OKh G [(0, 9, 12, 18)]) {M : Mem} {x1 : Int32} {res : Int32 × Mem} (zf : fL_another M x1 = some res) : GG G (Qm G (Pwi res) 4 24) 0 0 0 [(0, rv G.1 0), (1, .int x1), (2, rv G.1 144)] [] M := by
  refine g_aload_n h 2 rfl dL_another_0 ?_
  refine g_iconst h 0 (v := 0) (by decide) dL_another_1 ?_
  refine g_aload_n h 0 rfl dL_another_2 ?_
  refine g_iload_n h 1 rfl dL_another_3 ?_
  rcases bT_some zf with ⟨a, zq, zf⟩ | ⟨e, zq, zf⟩
  · refine g_try (As := [.int x1]) (rest := [.int 0, rv G.1 144]) h ceX12_another mlL_71 imX12_another seX12_another (by rfl) (by decide) (ent_10 (by decide)) rfl rfl ⟨Nat.le_of_ble_eq_true rfl, Nat.le_of_ble_eq_true rfl⟩ ⟨Nat.le_of_ble_eq_true rfl, Nat.le_of_ble_eq_true rfl⟩ rfl dL_another_4 rfl (Nat.le_of_ble_eq_true rfl) (cxX12_another hE.1 zq) (fun z hz => by cases hz) (fun z M1 hp => ?_)
    obtain ⟨a9, ha9, hp1, hp2⟩ := hp
    cases ha9
    subst hp1
    subst hp2
    refine g_i2l h dL_another_7 ?_
    refine g_last h 1 (by decide) (by decide) zf dL_another_8 (fun M2 zf => ?_)
    refine g_goto h 15 (by decide) dL_another_9 ?_
    refine g_iconst h 0 (v := 0) (by decide) dL_another_15 ?_
    obtain rfl := Option.some.inj zf
    exact g_iret h rfl ⟨rfl, rfl⟩ (Nat.le_refl _) (Nat.le_refl _) dL_another_16
  · refine g_try (As := [.int x1]) (rest := [.int 0, rv G.1 144]) h ceX12_another mlL_71 imX12_another seX12_another (by rfl) (by decide) (ent_10 (by decide)) rfl rfl ⟨Nat.le_of_ble_eq_true rfl, Nat.le_of_ble_eq_true rfl⟩ ⟨Nat.le_of_ble_eq_true rfl, Nat.le_of_ble_eq_true rfl⟩ rfl dL_another_4 rfl (Nat.le_of_ble_eq_true rfl) (cxX12_another hE.1 zq) (fun z hz => ?_) (fun z M1 hp => by obtain ⟨a9, ha9, -⟩ := hp; cases ha9)
    obtain rfl := Option.some.inj hz
    by_cases he1 : e = 1
    · rw [if_pos he1] at zf
      have hex : exN e = xNSE := by unfold exN; rw [if_pos he1]; rfl
      refine ⟨[], ⟨0, 9, 12, 18⟩, [], hE.2, (fun z9 hz9 => absurd hz9 List.not_mem_nil), by decide, (by decide : (18 : Nat) ≠ 0), by rw [hex]; exact clL_18, fun q => ?_⟩
      obtain rfl := Option.some.inj zf
      refine g_astore_nX h rfl [(3, Value.ref q), (0, rv G.1 0), (1, .int x1), (2, rv G.1 144)] (by decide) rfl dL_another_12 ?_
      refine g_iconst h 1 (v := 1) (by decide) dL_another_13 ?_
      exact g_iret h rfl ⟨rfl, rfl⟩ (Nat.le_refl _) (Nat.le_refl _) dL_another_14
    · rw [if_neg he1] at zf
      cases zf
theorem cwL_another {l : Launch} (zl : l.stackTraces = false) {w : WX} {M : Mem} {x1 : Int32} {res : Int32 × Mem} (zf : fL_another M x1 = some res) : CMw l w yL_another cL_another 4 (some .int) [(0, 9, 12, 18)] { frames := 10, cells := 4, slots := 24, locals := 273 } 4 24 [rv w 0, .int x1, rv w 144] M (Pwi res) := by
  refine CMw_of zl (by decide) (Nat.le_of_ble_eq_true rfl) (fun G hw hl h hE => ?_)
  subst hw
  exact kL_another h hE zf
theorem cdL_another : Cond.codeWith yL_another cL_another 4 (some .int) [(0, 9, 12, 18)] ∈ LW := List.mem_filter.mpr ⟨(List.mem_append_right _ (List.mem_append_right _ (List.mem_append_right _ (List.mem_append_right _ (List.mem_append_right _ (List.mem_append_left _ (List.mem_of_getElem? (i := 186) rfl))))))), rfl⟩
theorem smL_another : Cond.static yL_another ∈ LW := List.mem_filter.mpr ⟨(List.mem_append_right _ (List.mem_append_right _ (List.mem_append_right _ (List.mem_append_right _ (List.mem_append_right _ (List.mem_append_left _ (List.mem_of_getElem? (i := 185) rfl))))))), rfl⟩
def fL_next (M : Mem) (x1 : Int32) : Option (Int32 × Mem) := bT (fX12_next M x1) (fun e => if e = 1 then some (1, M) else none) fun a => stL a.2 144 1 0 (Int32.toInt64 a.1) fun M2 => some (0, M2)
theorem kL_next {G : GX} (h : OKm G cL_next RL 4 (some .int) { frames := 11, cells := 4, slots := 24, locals := 296 }) (hE : OKh G [(0, 9, 12, 18)]) {M : Mem} {x1 : Int32} {res : Int32 × Mem} (zf : fL_next M x1 = some res) : GG G (Qm G (Pwi res) 4 24) 0 0 0 [(0, rv G.1 0), (1, .int x1), (2, rv G.1 144)] [] M := by
  refine g_aload_n h 2 rfl dL_next_0 ?_
  refine g_iconst h 0 (v := 0) (by decide) dL_next_1 ?_
  refine g_aload_n h 0 rfl dL_next_2 ?_
  refine g_iload_n h 1 rfl dL_next_3 ?_
  rcases bT_some zf with ⟨a, zq, zf⟩ | ⟨e, zq, zf⟩
  · refine g_try (As := [.int x1]) (rest := [.int 0, rv G.1 144]) h ceX12_next mlL_74 imX12_next seX12_next (by rfl) (by decide) (ent_10 (by decide)) rfl rfl ⟨Nat.le_of_ble_eq_true rfl, Nat.le_of_ble_eq_true rfl⟩ ⟨Nat.le_of_ble_eq_true rfl, Nat.le_of_ble_eq_true rfl⟩ rfl dL_next_4 rfl (Nat.le_of_ble_eq_true rfl) (cxX12_next hE.1 zq) (fun z hz => by cases hz) (fun z M1 hp => ?_)
    obtain ⟨a9, ha9, hp1, hp2⟩ := hp
    cases ha9
    subst hp1
    subst hp2
    refine g_i2l h dL_next_7 ?_
    refine g_last h 1 (by decide) (by decide) zf dL_next_8 (fun M2 zf => ?_)
    refine g_goto h 15 (by decide) dL_next_9 ?_
    refine g_iconst h 0 (v := 0) (by decide) dL_next_15 ?_
    obtain rfl := Option.some.inj zf
    exact g_iret h rfl ⟨rfl, rfl⟩ (Nat.le_refl _) (Nat.le_refl _) dL_next_16
  · refine g_try (As := [.int x1]) (rest := [.int 0, rv G.1 144]) h ceX12_next mlL_74 imX12_next seX12_next (by rfl) (by decide) (ent_10 (by decide)) rfl rfl ⟨Nat.le_of_ble_eq_true rfl, Nat.le_of_ble_eq_true rfl⟩ ⟨Nat.le_of_ble_eq_true rfl, Nat.le_of_ble_eq_true rfl⟩ rfl dL_next_4 rfl (Nat.le_of_ble_eq_true rfl) (cxX12_next hE.1 zq) (fun z hz => ?_) (fun z M1 hp => by obtain ⟨a9, ha9, -⟩ := hp; cases ha9)
    obtain rfl := Option.some.inj hz
    by_cases he1 : e = 1
    · rw [if_pos he1] at zf
      have hex : exN e = xNSE := by unfold exN; rw [if_pos he1]; rfl
      refine ⟨[], ⟨0, 9, 12, 18⟩, [], hE.2, (fun z9 hz9 => absurd hz9 List.not_mem_nil), by decide, (by decide : (18 : Nat) ≠ 0), by rw [hex]; exact clL_18, fun q => ?_⟩
      obtain rfl := Option.some.inj zf
      refine g_astore_nX h rfl [(3, Value.ref q), (0, rv G.1 0), (1, .int x1), (2, rv G.1 144)] (by decide) rfl dL_next_12 ?_
      refine g_iconst h 1 (v := 1) (by decide) dL_next_13 ?_
      exact g_iret h rfl ⟨rfl, rfl⟩ (Nat.le_refl _) (Nat.le_refl _) dL_next_14
    · rw [if_neg he1] at zf
      cases zf
theorem cwL_next {l : Launch} (zl : l.stackTraces = false) {w : WX} {M : Mem} {x1 : Int32} {res : Int32 × Mem} (zf : fL_next M x1 = some res) : CMw l w yL_next cL_next 4 (some .int) [(0, 9, 12, 18)] { frames := 11, cells := 4, slots := 24, locals := 296 } 4 24 [rv w 0, .int x1, rv w 144] M (Pwi res) := by
  refine CMw_of zl (by decide) (Nat.le_of_ble_eq_true rfl) (fun G hw hl h hE => ?_)
  subst hw
  exact kL_next h hE zf
theorem cdL_next : Cond.codeWith yL_next cL_next 4 (some .int) [(0, 9, 12, 18)] ∈ LW := List.mem_filter.mpr ⟨(List.mem_append_right _ (List.mem_append_right _ (List.mem_append_right _ (List.mem_append_right _ (List.mem_append_right _ (List.mem_append_left _ (List.mem_of_getElem? (i := 208) rfl))))))), rfl⟩
theorem smL_next : Cond.static yL_next ∈ LW := List.mem_filter.mpr ⟨(List.mem_append_right _ (List.mem_append_right _ (List.mem_append_right _ (List.mem_append_right _ (List.mem_append_right _ (List.mem_append_left _ (List.mem_of_getElem? (i := 207) rfl))))))), rfl⟩
def fL_game (M : Mem) (x1 : Int32) (x2 : Int32) (x3 : Int32) : Option (Int32 × Mem) := bT (fX12_game M x1 x2 x3) (fun e => if e = 1 then some (1, M) else some (2, M)) fun a => stL a.2 144 1 0 (Int32.toInt64 a.1) fun M2 => some (0, M2)
theorem kL_game {G : GX} (h : OKm G cL_game RL 6 (some .int) { frames := 10, cells := 4, slots := 24, locals := 276 }) (hE : OKh G [(0, 12, 15, 18), (0, 12, 19, 13)]) {M : Mem} {x1 : Int32} {x2 : Int32} {x3 : Int32} {res : Int32 × Mem} (zf : fL_game M x1 x2 x3 = some res) : GG G (Qm G (Pwi res) 4 24) 0 0 0 [(0, rv G.1 0), (1, .int x1), (2, .int x2), (3, .int x3), (4, rv G.1 144)] [] M := by
  refine g_aload h 4 rfl dL_game_0 ?_
  refine g_iconst h 0 (v := 0) (by decide) dL_game_2 ?_
  refine g_aload_n h 0 rfl dL_game_3 ?_
  refine g_iload_n h 1 rfl dL_game_4 ?_
  refine g_iload_n h 2 rfl dL_game_5 ?_
  refine g_iload_n h 3 rfl dL_game_6 ?_
  rcases bT_some zf with ⟨a, zq, zf⟩ | ⟨e, zq, zf⟩
  · refine g_try (As := [.int x1, .int x2, .int x3]) (rest := [.int 0, rv G.1 144]) h ceX12_game mlL_77 imX12_game seX12_game (by rfl) (by decide) (ent_10 (by decide)) rfl rfl ⟨Nat.le_of_ble_eq_true rfl, Nat.le_of_ble_eq_true rfl⟩ ⟨Nat.le_of_ble_eq_true rfl, Nat.le_of_ble_eq_true rfl⟩ rfl dL_game_7 rfl (Nat.le_of_ble_eq_true rfl) (cxX12_game hE.1 zq) (fun z hz => by cases hz) (fun z M1 hp => ?_)
    obtain ⟨a9, ha9, hp1, hp2⟩ := hp
    cases ha9
    subst hp1
    subst hp2
    refine g_i2l h dL_game_10 ?_
    refine g_last h 1 (by decide) (by decide) zf dL_game_11 (fun M2 zf => ?_)
    refine g_goto h 23 (by decide) dL_game_12 ?_
    refine g_iconst h 0 (v := 0) (by decide) dL_game_23 ?_
    obtain rfl := Option.some.inj zf
    exact g_iret h rfl ⟨rfl, rfl⟩ (Nat.le_refl _) (Nat.le_refl _) dL_game_24
  · refine g_try (As := [.int x1, .int x2, .int x3]) (rest := [.int 0, rv G.1 144]) h ceX12_game mlL_77 imX12_game seX12_game (by rfl) (by decide) (ent_10 (by decide)) rfl rfl ⟨Nat.le_of_ble_eq_true rfl, Nat.le_of_ble_eq_true rfl⟩ ⟨Nat.le_of_ble_eq_true rfl, Nat.le_of_ble_eq_true rfl⟩ rfl dL_game_7 rfl (Nat.le_of_ble_eq_true rfl) (cxX12_game hE.1 zq) (fun z hz => ?_) (fun z M1 hp => by obtain ⟨a9, ha9, -⟩ := hp; cases ha9)
    obtain rfl := Option.some.inj hz
    by_cases he1 : e = 1
    · rw [if_pos he1] at zf
      have hex : exN e = xNSE := by unfold exN; rw [if_pos he1]; rfl
      refine ⟨[], ⟨0, 12, 15, 18⟩, [⟨0, 12, 19, 13⟩], hE.2, (fun z9 hz9 => absurd hz9 List.not_mem_nil), by decide, (by decide : (18 : Nat) ≠ 0), by rw [hex]; exact clL_18, fun q => ?_⟩
      obtain rfl := Option.some.inj zf
      refine g_astoreX h [(5, Value.ref q), (0, rv G.1 0), (1, .int x1), (2, .int x2), (3, .int x3), (4, rv G.1 144)] (by decide) rfl dL_game_15 ?_
      refine g_iconst h 1 (v := 1) (by decide) dL_game_17 ?_
      exact g_iret h rfl ⟨rfl, rfl⟩ (Nat.le_refl _) (Nat.le_refl _) dL_game_18
    · rw [if_neg he1] at zf
      have hex : exN e = xIAE := by unfold exN; rw [if_neg he1]; rfl
      refine ⟨[⟨0, 12, 15, 18⟩], ⟨0, 12, 19, 13⟩, [], hE.2, (fun z9 hz9 => by rw [List.mem_singleton.mp hz9]; exact ⟨by decide, clL_18, hex⟩), by decide, (by decide : (13 : Nat) ≠ 0), by rw [hex]; exact clL_13, fun q => ?_⟩
      obtain rfl := Option.some.inj zf
      refine g_astoreX h [(5, Value.ref q), (0, rv G.1 0), (1, .int x1), (2, .int x2), (3, .int x3), (4, rv G.1 144)] (by decide) rfl dL_game_19 ?_
      refine g_iconst h 2 (v := 2) (by decide) dL_game_21 ?_
      exact g_iret h rfl ⟨rfl, rfl⟩ (Nat.le_refl _) (Nat.le_refl _) dL_game_22
theorem cwL_game {l : Launch} (zl : l.stackTraces = false) {w : WX} {M : Mem} {x1 : Int32} {x2 : Int32} {x3 : Int32} {res : Int32 × Mem} (zf : fL_game M x1 x2 x3 = some res) : CMw l w yL_game cL_game 6 (some .int) [(0, 12, 15, 18), (0, 12, 19, 13)] { frames := 10, cells := 4, slots := 24, locals := 276 } 4 24 [rv w 0, .int x1, .int x2, .int x3, rv w 144] M (Pwi res) := by
  refine CMw_of zl (by decide) (Nat.le_of_ble_eq_true rfl) (fun G hw hl h hE => ?_)
  subst hw
  exact kL_game h hE zf
theorem cdL_game : Cond.codeWith yL_game cL_game 6 (some .int) [(0, 12, 15, 18), (0, 12, 19, 13)] ∈ LW := List.mem_filter.mpr ⟨(List.mem_append_right _ (List.mem_append_right _ (List.mem_append_right _ (List.mem_append_right _ (List.mem_append_right _ (List.mem_append_left _ (List.mem_of_getElem? (i := 224) rfl))))))), rfl⟩
theorem smL_game : Cond.static yL_game ∈ LW := List.mem_filter.mpr ⟨(List.mem_append_right _ (List.mem_append_right _ (List.mem_append_right _ (List.mem_append_right _ (List.mem_append_right _ (List.mem_append_left _ (List.mem_of_getElem? (i := 223) rfl))))))), rfl⟩
def fL_cities (M : Mem) (x1 : Int32) (x2 : Int32) (x3 : Int32) : Option (Int32 × Mem) := bT (fX12_cities M x1 x2 x3) (fun e => if e = 1 then some (1, M) else some (2, M)) fun a => stL a.2 144 1 0 (Int32.toInt64 a.1) fun M2 => some (0, M2)
theorem kL_cities {G : GX} (h : OKm G cL_cities RL 6 (some .int) { frames := 9, cells := 4, slots := 24, locals := 247 }) (hE : OKh G [(0, 12, 15, 18), (0, 12, 19, 13)]) {M : Mem} {x1 : Int32} {x2 : Int32} {x3 : Int32} {res : Int32 × Mem} (zf : fL_cities M x1 x2 x3 = some res) : GG G (Qm G (Pwi res) 4 24) 0 0 0 [(0, rv G.1 0), (1, .int x1), (2, .int x2), (3, .int x3), (4, rv G.1 144)] [] M := by
  refine g_aload h 4 rfl dL_cities_0 ?_
  refine g_iconst h 0 (v := 0) (by decide) dL_cities_2 ?_
  refine g_aload_n h 0 rfl dL_cities_3 ?_
  refine g_iload_n h 1 rfl dL_cities_4 ?_
  refine g_iload_n h 2 rfl dL_cities_5 ?_
  refine g_iload_n h 3 rfl dL_cities_6 ?_
  rcases bT_some zf with ⟨a, zq, zf⟩ | ⟨e, zq, zf⟩
  · refine g_try (As := [.int x1, .int x2, .int x3]) (rest := [.int 0, rv G.1 144]) h ceX12_cities mlL_80 imX12_cities seX12_cities (by rfl) (by decide) (ent_10 (by decide)) rfl rfl ⟨Nat.le_of_ble_eq_true rfl, Nat.le_of_ble_eq_true rfl⟩ ⟨Nat.le_of_ble_eq_true rfl, Nat.le_of_ble_eq_true rfl⟩ rfl dL_cities_7 rfl (Nat.le_of_ble_eq_true rfl) (cxX12_cities hE.1 zq) (fun z hz => by cases hz) (fun z M1 hp => ?_)
    obtain ⟨a9, ha9, hp1, hp2⟩ := hp
    cases ha9
    subst hp1
    subst hp2
    refine g_i2l h dL_cities_10 ?_
    refine g_last h 1 (by decide) (by decide) zf dL_cities_11 (fun M2 zf => ?_)
    refine g_goto h 23 (by decide) dL_cities_12 ?_
    refine g_iconst h 0 (v := 0) (by decide) dL_cities_23 ?_
    obtain rfl := Option.some.inj zf
    exact g_iret h rfl ⟨rfl, rfl⟩ (Nat.le_refl _) (Nat.le_refl _) dL_cities_24
  · refine g_try (As := [.int x1, .int x2, .int x3]) (rest := [.int 0, rv G.1 144]) h ceX12_cities mlL_80 imX12_cities seX12_cities (by rfl) (by decide) (ent_10 (by decide)) rfl rfl ⟨Nat.le_of_ble_eq_true rfl, Nat.le_of_ble_eq_true rfl⟩ ⟨Nat.le_of_ble_eq_true rfl, Nat.le_of_ble_eq_true rfl⟩ rfl dL_cities_7 rfl (Nat.le_of_ble_eq_true rfl) (cxX12_cities hE.1 zq) (fun z hz => ?_) (fun z M1 hp => by obtain ⟨a9, ha9, -⟩ := hp; cases ha9)
    obtain rfl := Option.some.inj hz
    by_cases he1 : e = 1
    · rw [if_pos he1] at zf
      have hex : exN e = xNSE := by unfold exN; rw [if_pos he1]; rfl
      refine ⟨[], ⟨0, 12, 15, 18⟩, [⟨0, 12, 19, 13⟩], hE.2, (fun z9 hz9 => absurd hz9 List.not_mem_nil), by decide, (by decide : (18 : Nat) ≠ 0), by rw [hex]; exact clL_18, fun q => ?_⟩
      obtain rfl := Option.some.inj zf
      refine g_astoreX h [(5, Value.ref q), (0, rv G.1 0), (1, .int x1), (2, .int x2), (3, .int x3), (4, rv G.1 144)] (by decide) rfl dL_cities_15 ?_
      refine g_iconst h 1 (v := 1) (by decide) dL_cities_17 ?_
      exact g_iret h rfl ⟨rfl, rfl⟩ (Nat.le_refl _) (Nat.le_refl _) dL_cities_18
    · rw [if_neg he1] at zf
      have hex : exN e = xIAE := by unfold exN; rw [if_neg he1]; rfl
      refine ⟨[⟨0, 12, 15, 18⟩], ⟨0, 12, 19, 13⟩, [], hE.2, (fun z9 hz9 => by rw [List.mem_singleton.mp hz9]; exact ⟨by decide, clL_18, hex⟩), by decide, (by decide : (13 : Nat) ≠ 0), by rw [hex]; exact clL_13, fun q => ?_⟩
      obtain rfl := Option.some.inj zf
      refine g_astoreX h [(5, Value.ref q), (0, rv G.1 0), (1, .int x1), (2, .int x2), (3, .int x3), (4, rv G.1 144)] (by decide) rfl dL_cities_19 ?_
      refine g_iconst h 2 (v := 2) (by decide) dL_cities_21 ?_
      exact g_iret h rfl ⟨rfl, rfl⟩ (Nat.le_refl _) (Nat.le_refl _) dL_cities_22
theorem cwL_cities {l : Launch} (zl : l.stackTraces = false) {w : WX} {M : Mem} {x1 : Int32} {x2 : Int32} {x3 : Int32} {res : Int32 × Mem} (zf : fL_cities M x1 x2 x3 = some res) : CMw l w yL_cities cL_cities 6 (some .int) [(0, 12, 15, 18), (0, 12, 19, 13)] { frames := 9, cells := 4, slots := 24, locals := 247 } 4 24 [rv w 0, .int x1, .int x2, .int x3, rv w 144] M (Pwi res) := by
  refine CMw_of zl (by decide) (Nat.le_of_ble_eq_true rfl) (fun G hw hl h hE => ?_)
  subst hw
  exact kL_cities h hE zf
theorem cdL_cities : Cond.codeWith yL_cities cL_cities 6 (some .int) [(0, 12, 15, 18), (0, 12, 19, 13)] ∈ LW := List.mem_filter.mpr ⟨(List.mem_append_right _ (List.mem_append_right _ (List.mem_append_right _ (List.mem_append_right _ (List.mem_append_right _ (List.mem_append_right _ (List.mem_append_left _ (List.mem_of_getElem? (i := 0) rfl)))))))), rfl⟩
theorem smL_cities : Cond.static yL_cities ∈ LW := List.mem_filter.mpr ⟨(List.mem_append_right _ (List.mem_append_right _ (List.mem_append_right _ (List.mem_append_right _ (List.mem_append_right _ (List.mem_append_left _ (List.mem_of_getElem? (i := 239) rfl))))))), rfl⟩
def fL_highest (M : Mem) (x1 : Int32) : Option (Int32 × Mem) := bT (fX12_highest M x1) (fun e => if e = 1 then some (1, M) else none) fun a => stL a.2 144 1 0 (Int32.toInt64 a.1) fun M2 => some (0, M2)
theorem kL_highest {G : GX} (h : OKm G cL_highest RL 4 (some .int) { frames := 10, cells := 4, slots := 24, locals := 253 }) (hE : OKh G [(0, 9, 12, 18)]) {M : Mem} {x1 : Int32} {res : Int32 × Mem} (zf : fL_highest M x1 = some res) : GG G (Qm G (Pwi res) 4 24) 0 0 0 [(0, rv G.1 0), (1, .int x1), (2, rv G.1 144)] [] M := by
  refine g_aload_n h 2 rfl dL_highest_0 ?_
  refine g_iconst h 0 (v := 0) (by decide) dL_highest_1 ?_
  refine g_aload_n h 0 rfl dL_highest_2 ?_
  refine g_iload_n h 1 rfl dL_highest_3 ?_
  rcases bT_some zf with ⟨a, zq, zf⟩ | ⟨e, zq, zf⟩
  · refine g_try (As := [.int x1]) (rest := [.int 0, rv G.1 144]) h ceX12_highest mlL_83 imX12_highest seX12_highest (by rfl) (by decide) (ent_10 (by decide)) rfl rfl ⟨Nat.le_of_ble_eq_true rfl, Nat.le_of_ble_eq_true rfl⟩ ⟨Nat.le_of_ble_eq_true rfl, Nat.le_of_ble_eq_true rfl⟩ rfl dL_highest_4 rfl (Nat.le_of_ble_eq_true rfl) (cxX12_highest hE.1 zq) (fun z hz => by cases hz) (fun z M1 hp => ?_)
    obtain ⟨a9, ha9, hp1, hp2⟩ := hp
    cases ha9
    subst hp1
    subst hp2
    refine g_i2l h dL_highest_7 ?_
    refine g_last h 1 (by decide) (by decide) zf dL_highest_8 (fun M2 zf => ?_)
    refine g_goto h 15 (by decide) dL_highest_9 ?_
    refine g_iconst h 0 (v := 0) (by decide) dL_highest_15 ?_
    obtain rfl := Option.some.inj zf
    exact g_iret h rfl ⟨rfl, rfl⟩ (Nat.le_refl _) (Nat.le_refl _) dL_highest_16
  · refine g_try (As := [.int x1]) (rest := [.int 0, rv G.1 144]) h ceX12_highest mlL_83 imX12_highest seX12_highest (by rfl) (by decide) (ent_10 (by decide)) rfl rfl ⟨Nat.le_of_ble_eq_true rfl, Nat.le_of_ble_eq_true rfl⟩ ⟨Nat.le_of_ble_eq_true rfl, Nat.le_of_ble_eq_true rfl⟩ rfl dL_highest_4 rfl (Nat.le_of_ble_eq_true rfl) (cxX12_highest hE.1 zq) (fun z hz => ?_) (fun z M1 hp => by obtain ⟨a9, ha9, -⟩ := hp; cases ha9)
    obtain rfl := Option.some.inj hz
    by_cases he1 : e = 1
    · rw [if_pos he1] at zf
      have hex : exN e = xNSE := by unfold exN; rw [if_pos he1]; rfl
      refine ⟨[], ⟨0, 9, 12, 18⟩, [], hE.2, (fun z9 hz9 => absurd hz9 List.not_mem_nil), by decide, (by decide : (18 : Nat) ≠ 0), by rw [hex]; exact clL_18, fun q => ?_⟩
      obtain rfl := Option.some.inj zf
      refine g_astore_nX h rfl [(3, Value.ref q), (0, rv G.1 0), (1, .int x1), (2, rv G.1 144)] (by decide) rfl dL_highest_12 ?_
      refine g_iconst h 1 (v := 1) (by decide) dL_highest_13 ?_
      exact g_iret h rfl ⟨rfl, rfl⟩ (Nat.le_refl _) (Nat.le_refl _) dL_highest_14
    · rw [if_neg he1] at zf
      cases zf
theorem cwL_highest {l : Launch} (zl : l.stackTraces = false) {w : WX} {M : Mem} {x1 : Int32} {res : Int32 × Mem} (zf : fL_highest M x1 = some res) : CMw l w yL_highest cL_highest 4 (some .int) [(0, 9, 12, 18)] { frames := 10, cells := 4, slots := 24, locals := 253 } 4 24 [rv w 0, .int x1, rv w 144] M (Pwi res) := by
  refine CMw_of zl (by decide) (Nat.le_of_ble_eq_true rfl) (fun G hw hl h hE => ?_)
  subst hw
  exact kL_highest h hE zf
theorem cdL_highest : Cond.codeWith yL_highest cL_highest 4 (some .int) [(0, 9, 12, 18)] ∈ LW := List.mem_filter.mpr ⟨(List.mem_append_right _ (List.mem_append_right _ (List.mem_append_right _ (List.mem_append_right _ (List.mem_append_right _ (List.mem_append_right _ (List.mem_append_left _ (List.mem_of_getElem? (i := 13) rfl)))))))), rfl⟩
theorem smL_highest : Cond.static yL_highest ∈ LW := List.mem_filter.mpr ⟨(List.mem_append_right _ (List.mem_append_right _ (List.mem_append_right _ (List.mem_append_right _ (List.mem_append_right _ (List.mem_append_right _ (List.mem_append_left _ (List.mem_of_getElem? (i := 12) rfl)))))))), rfl⟩
def fL_better (M : Mem) (x1 : Int32) : Option (Int32 × Mem) := bT (fX12_better M x1) (fun e => if e = 1 then some (1, M) else none) fun a => stL a.2 144 1 0 (Int32.toInt64 a.1) fun M2 => some (0, M2)
theorem kL_better {G : GX} (h : OKm G cL_better RL 4 (some .int) { frames := 10, cells := 4, slots := 24, locals := 255 }) (hE : OKh G [(0, 9, 12, 18)]) {M : Mem} {x1 : Int32} {res : Int32 × Mem} (zf : fL_better M x1 = some res) : GG G (Qm G (Pwi res) 4 24) 0 0 0 [(0, rv G.1 0), (1, .int x1), (2, rv G.1 144)] [] M := by
  refine g_aload_n h 2 rfl dL_better_0 ?_
  refine g_iconst h 0 (v := 0) (by decide) dL_better_1 ?_
  refine g_aload_n h 0 rfl dL_better_2 ?_
  refine g_iload_n h 1 rfl dL_better_3 ?_
  rcases bT_some zf with ⟨a, zq, zf⟩ | ⟨e, zq, zf⟩
  · refine g_try (As := [.int x1]) (rest := [.int 0, rv G.1 144]) h ceX12_better mlL_86 imX12_better seX12_better (by rfl) (by decide) (ent_10 (by decide)) rfl rfl ⟨Nat.le_of_ble_eq_true rfl, Nat.le_of_ble_eq_true rfl⟩ ⟨Nat.le_of_ble_eq_true rfl, Nat.le_of_ble_eq_true rfl⟩ rfl dL_better_4 rfl (Nat.le_of_ble_eq_true rfl) (cxX12_better hE.1 zq) (fun z hz => by cases hz) (fun z M1 hp => ?_)
    obtain ⟨a9, ha9, hp1, hp2⟩ := hp
    cases ha9
    subst hp1
    subst hp2
    refine g_i2l h dL_better_7 ?_
    refine g_last h 1 (by decide) (by decide) zf dL_better_8 (fun M2 zf => ?_)
    refine g_goto h 15 (by decide) dL_better_9 ?_
    refine g_iconst h 0 (v := 0) (by decide) dL_better_15 ?_
    obtain rfl := Option.some.inj zf
    exact g_iret h rfl ⟨rfl, rfl⟩ (Nat.le_refl _) (Nat.le_refl _) dL_better_16
  · refine g_try (As := [.int x1]) (rest := [.int 0, rv G.1 144]) h ceX12_better mlL_86 imX12_better seX12_better (by rfl) (by decide) (ent_10 (by decide)) rfl rfl ⟨Nat.le_of_ble_eq_true rfl, Nat.le_of_ble_eq_true rfl⟩ ⟨Nat.le_of_ble_eq_true rfl, Nat.le_of_ble_eq_true rfl⟩ rfl dL_better_4 rfl (Nat.le_of_ble_eq_true rfl) (cxX12_better hE.1 zq) (fun z hz => ?_) (fun z M1 hp => by obtain ⟨a9, ha9, -⟩ := hp; cases ha9)
    obtain rfl := Option.some.inj hz
    by_cases he1 : e = 1
    · rw [if_pos he1] at zf
      have hex : exN e = xNSE := by unfold exN; rw [if_pos he1]; rfl
      refine ⟨[], ⟨0, 9, 12, 18⟩, [], hE.2, (fun z9 hz9 => absurd hz9 List.not_mem_nil), by decide, (by decide : (18 : Nat) ≠ 0), by rw [hex]; exact clL_18, fun q => ?_⟩
      obtain rfl := Option.some.inj zf
      refine g_astore_nX h rfl [(3, Value.ref q), (0, rv G.1 0), (1, .int x1), (2, rv G.1 144)] (by decide) rfl dL_better_12 ?_
      refine g_iconst h 1 (v := 1) (by decide) dL_better_13 ?_
      exact g_iret h rfl ⟨rfl, rfl⟩ (Nat.le_refl _) (Nat.le_refl _) dL_better_14
    · rw [if_neg he1] at zf
      cases zf
theorem cwL_better {l : Launch} (zl : l.stackTraces = false) {w : WX} {M : Mem} {x1 : Int32} {res : Int32 × Mem} (zf : fL_better M x1 = some res) : CMw l w yL_better cL_better 4 (some .int) [(0, 9, 12, 18)] { frames := 10, cells := 4, slots := 24, locals := 255 } 4 24 [rv w 0, .int x1, rv w 144] M (Pwi res) := by
  refine CMw_of zl (by decide) (Nat.le_of_ble_eq_true rfl) (fun G hw hl h hE => ?_)
  subst hw
  exact kL_better h hE zf
theorem cdL_better : Cond.codeWith yL_better cL_better 4 (some .int) [(0, 9, 12, 18)] ∈ LW := List.mem_filter.mpr ⟨(List.mem_append_right _ (List.mem_append_right _ (List.mem_append_right _ (List.mem_append_right _ (List.mem_append_right _ (List.mem_append_right _ (List.mem_append_left _ (List.mem_of_getElem? (i := 20) rfl)))))))), rfl⟩
theorem smL_better : Cond.static yL_better ∈ LW := List.mem_filter.mpr ⟨(List.mem_append_right _ (List.mem_append_right _ (List.mem_append_right _ (List.mem_append_right _ (List.mem_append_right _ (List.mem_append_right _ (List.mem_append_left _ (List.mem_of_getElem? (i := 19) rfl)))))))), rfl⟩
def fL_guarded (M : Mem) (x1 : Int32) : Option (Int32 × Mem) := bT (fX12_guarded M x1) (fun e => if e = 1 then some (1, M) else none) fun a => stL M 144 1 0 (Int32.toInt64 a) fun M2 => some (0, M2)
theorem kL_guarded {G : GX} (h : OKm G cL_guarded RL 4 (some .int) { frames := 8, cells := 4, slots := 24, locals := 204 }) (hE : OKh G [(0, 9, 12, 18)]) {M : Mem} {x1 : Int32} {res : Int32 × Mem} (zf : fL_guarded M x1 = some res) : GG G (Qm G (Pwi res) 4 24) 0 0 0 [(0, rv G.1 0), (1, .int x1), (2, rv G.1 144)] [] M := by
  refine g_aload_n h 2 rfl dL_guarded_0 ?_
  refine g_iconst h 0 (v := 0) (by decide) dL_guarded_1 ?_
  refine g_aload_n h 0 rfl dL_guarded_2 ?_
  refine g_iload_n h 1 rfl dL_guarded_3 ?_
  rcases bT_some zf with ⟨a, zq, zf⟩ | ⟨e, zq, zf⟩
  · refine g_try (As := [.int x1]) (rest := [.int 0, rv G.1 144]) h ceX12_guarded mlL_89 imX12_guarded seX12_guarded (by rfl) (by decide) (ent_10 (by decide)) rfl rfl ⟨Nat.le_of_ble_eq_true rfl, Nat.le_of_ble_eq_true rfl⟩ ⟨Nat.le_of_ble_eq_true rfl, Nat.le_of_ble_eq_true rfl⟩ rfl dL_guarded_4 rfl (Nat.le_of_ble_eq_true rfl) (cxX12_guarded hE.1 zq) (fun z hz => by cases hz) (fun z M1 hp => ?_)
    obtain ⟨a9, ha9, hp1, hp2⟩ := hp
    cases ha9
    subst hp1
    subst hp2
    refine g_i2l h dL_guarded_7 ?_
    refine g_last h 1 (by decide) (by decide) zf dL_guarded_8 (fun M2 zf => ?_)
    refine g_goto h 15 (by decide) dL_guarded_9 ?_
    refine g_iconst h 0 (v := 0) (by decide) dL_guarded_15 ?_
    obtain rfl := Option.some.inj zf
    exact g_iret h rfl ⟨rfl, rfl⟩ (Nat.le_refl _) (Nat.le_refl _) dL_guarded_16
  · refine g_try (As := [.int x1]) (rest := [.int 0, rv G.1 144]) h ceX12_guarded mlL_89 imX12_guarded seX12_guarded (by rfl) (by decide) (ent_10 (by decide)) rfl rfl ⟨Nat.le_of_ble_eq_true rfl, Nat.le_of_ble_eq_true rfl⟩ ⟨Nat.le_of_ble_eq_true rfl, Nat.le_of_ble_eq_true rfl⟩ rfl dL_guarded_4 rfl (Nat.le_of_ble_eq_true rfl) (cxX12_guarded hE.1 zq) (fun z hz => ?_) (fun z M1 hp => by obtain ⟨a9, ha9, -⟩ := hp; cases ha9)
    obtain rfl := Option.some.inj hz
    by_cases he1 : e = 1
    · rw [if_pos he1] at zf
      have hex : exN e = xNSE := by unfold exN; rw [if_pos he1]; rfl
      refine ⟨[], ⟨0, 9, 12, 18⟩, [], hE.2, (fun z9 hz9 => absurd hz9 List.not_mem_nil), by decide, (by decide : (18 : Nat) ≠ 0), by rw [hex]; exact clL_18, fun q => ?_⟩
      obtain rfl := Option.some.inj zf
      refine g_astore_nX h rfl [(3, Value.ref q), (0, rv G.1 0), (1, .int x1), (2, rv G.1 144)] (by decide) rfl dL_guarded_12 ?_
      refine g_iconst h 1 (v := 1) (by decide) dL_guarded_13 ?_
      exact g_iret h rfl ⟨rfl, rfl⟩ (Nat.le_refl _) (Nat.le_refl _) dL_guarded_14
    · rw [if_neg he1] at zf
      cases zf
theorem cwL_guarded {l : Launch} (zl : l.stackTraces = false) {w : WX} {M : Mem} {x1 : Int32} {res : Int32 × Mem} (zf : fL_guarded M x1 = some res) : CMw l w yL_guarded cL_guarded 4 (some .int) [(0, 9, 12, 18)] { frames := 8, cells := 4, slots := 24, locals := 204 } 4 24 [rv w 0, .int x1, rv w 144] M (Pwi res) := by
  refine CMw_of zl (by decide) (Nat.le_of_ble_eq_true rfl) (fun G hw hl h hE => ?_)
  subst hw
  exact kL_guarded h hE zf
theorem cdL_guarded : Cond.codeWith yL_guarded cL_guarded 4 (some .int) [(0, 9, 12, 18)] ∈ LW := List.mem_filter.mpr ⟨(List.mem_append_right _ (List.mem_append_right _ (List.mem_append_right _ (List.mem_append_right _ (List.mem_append_right _ (List.mem_append_right _ (List.mem_append_left _ (List.mem_of_getElem? (i := 30) rfl)))))))), rfl⟩
theorem smL_guarded : Cond.static yL_guarded ∈ LW := List.mem_filter.mpr ⟨(List.mem_append_right _ (List.mem_append_right _ (List.mem_append_right _ (List.mem_append_right _ (List.mem_append_right _ (List.mem_append_right _ (List.mem_append_left _ (List.mem_of_getElem? (i := 29) rfl)))))))), rfl⟩
def fL_swap (M : Mem) (x1 : Int32) : Option (Int32 × Mem) := bT (fX12_swap M x1) (fun e => if e = 1 then some (1, M) else none) fun a => stL a.2 144 1 0 (Int32.toInt64 a.1) fun M2 => some (0, M2)
theorem kL_swap {G : GX} (h : OKm G cL_swap RL 4 (some .int) { frames := 11, cells := 4, slots := 24, locals := 280 }) (hE : OKh G [(0, 9, 12, 18)]) {M : Mem} {x1 : Int32} {res : Int32 × Mem} (zf : fL_swap M x1 = some res) : GG G (Qm G (Pwi res) 4 24) 0 0 0 [(0, rv G.1 0), (1, .int x1), (2, rv G.1 144)] [] M := by
  refine g_aload_n h 2 rfl dL_swap_0 ?_
  refine g_iconst h 0 (v := 0) (by decide) dL_swap_1 ?_
  refine g_aload_n h 0 rfl dL_swap_2 ?_
  refine g_iload_n h 1 rfl dL_swap_3 ?_
  rcases bT_some zf with ⟨a, zq, zf⟩ | ⟨e, zq, zf⟩
  · refine g_try (As := [.int x1]) (rest := [.int 0, rv G.1 144]) h ceX12_swap mlL_92 imX12_swap seX12_swap (by rfl) (by decide) (ent_10 (by decide)) rfl rfl ⟨Nat.le_of_ble_eq_true rfl, Nat.le_of_ble_eq_true rfl⟩ ⟨Nat.le_of_ble_eq_true rfl, Nat.le_of_ble_eq_true rfl⟩ rfl dL_swap_4 rfl (Nat.le_of_ble_eq_true rfl) (cxX12_swap hE.1 zq) (fun z hz => by cases hz) (fun z M1 hp => ?_)
    obtain ⟨a9, ha9, hp1, hp2⟩ := hp
    cases ha9
    subst hp1
    subst hp2
    refine g_i2l h dL_swap_7 ?_
    refine g_last h 1 (by decide) (by decide) zf dL_swap_8 (fun M2 zf => ?_)
    refine g_goto h 15 (by decide) dL_swap_9 ?_
    refine g_iconst h 0 (v := 0) (by decide) dL_swap_15 ?_
    obtain rfl := Option.some.inj zf
    exact g_iret h rfl ⟨rfl, rfl⟩ (Nat.le_refl _) (Nat.le_refl _) dL_swap_16
  · refine g_try (As := [.int x1]) (rest := [.int 0, rv G.1 144]) h ceX12_swap mlL_92 imX12_swap seX12_swap (by rfl) (by decide) (ent_10 (by decide)) rfl rfl ⟨Nat.le_of_ble_eq_true rfl, Nat.le_of_ble_eq_true rfl⟩ ⟨Nat.le_of_ble_eq_true rfl, Nat.le_of_ble_eq_true rfl⟩ rfl dL_swap_4 rfl (Nat.le_of_ble_eq_true rfl) (cxX12_swap hE.1 zq) (fun z hz => ?_) (fun z M1 hp => by obtain ⟨a9, ha9, -⟩ := hp; cases ha9)
    obtain rfl := Option.some.inj hz
    by_cases he1 : e = 1
    · rw [if_pos he1] at zf
      have hex : exN e = xNSE := by unfold exN; rw [if_pos he1]; rfl
      refine ⟨[], ⟨0, 9, 12, 18⟩, [], hE.2, (fun z9 hz9 => absurd hz9 List.not_mem_nil), by decide, (by decide : (18 : Nat) ≠ 0), by rw [hex]; exact clL_18, fun q => ?_⟩
      obtain rfl := Option.some.inj zf
      refine g_astore_nX h rfl [(3, Value.ref q), (0, rv G.1 0), (1, .int x1), (2, rv G.1 144)] (by decide) rfl dL_swap_12 ?_
      refine g_iconst h 1 (v := 1) (by decide) dL_swap_13 ?_
      exact g_iret h rfl ⟨rfl, rfl⟩ (Nat.le_refl _) (Nat.le_refl _) dL_swap_14
    · rw [if_neg he1] at zf
      cases zf
theorem cwL_swap {l : Launch} (zl : l.stackTraces = false) {w : WX} {M : Mem} {x1 : Int32} {res : Int32 × Mem} (zf : fL_swap M x1 = some res) : CMw l w yL_swap cL_swap 4 (some .int) [(0, 9, 12, 18)] { frames := 11, cells := 4, slots := 24, locals := 280 } 4 24 [rv w 0, .int x1, rv w 144] M (Pwi res) := by
  refine CMw_of zl (by decide) (Nat.le_of_ble_eq_true rfl) (fun G hw hl h hE => ?_)
  subst hw
  exact kL_swap h hE zf
theorem cdL_swap : Cond.codeWith yL_swap cL_swap 4 (some .int) [(0, 9, 12, 18)] ∈ LW := List.mem_filter.mpr ⟨(List.mem_append_right _ (List.mem_append_right _ (List.mem_append_right _ (List.mem_append_right _ (List.mem_append_right _ (List.mem_append_right _ (List.mem_append_left _ (List.mem_of_getElem? (i := 37) rfl)))))))), rfl⟩
theorem smL_swap : Cond.static yL_swap ∈ LW := List.mem_filter.mpr ⟨(List.mem_append_right _ (List.mem_append_right _ (List.mem_append_right _ (List.mem_append_right _ (List.mem_append_right _ (List.mem_append_right _ (List.mem_append_left _ (List.mem_of_getElem? (i := 36) rfl)))))))), rfl⟩
theorem iniL : Cond.initialized RL ∈ LW := List.mem_filter.mpr ⟨(List.mem_append_right _ (List.mem_append_left _ (List.mem_of_getElem? (i := 0) rfl))), rfl⟩
