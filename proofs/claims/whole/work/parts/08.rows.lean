def wNm : List String := ["CITY", "DEED", "ELDER", "YOUNGER", "HARVESTS", "TERM", "FRIEND", "CHAMPION", "GATE", "STAYS", "LIKES", "OR", "AND", "NOT", "STORE", "WALLS", "DEBT", "GLORY", "YEAR", "MEN", "RULES", "LEAN", "UNKNOWN"]
def wFl : List (String × String × String × List Int32) := [("TurnBrothers$Word", "inStays", "I", [-1, -1, -1, -1, -1, -1, -1, -1, -1, -1, -1, -1, -1, -1, 0, 1, 2, 3, 4, 5, -1, -1, -1]), ("TurnBrothers$Word", "inLikes", "I", [-1, -1, -1, -1, -1, -1, -1, -1, -1, -1, -1, -1, -1, -1, 3, -1, 4, 0, -1, -1, 1, 2, -1]), ("java/lang/Enum", "ordinal", "I", [0, 1, 2, 3, 4, 5, 6, 7, 8, 9, 10, 11, 12, 13, 14, 15, 16, 17, 18, 19, 20, 21, 22])]
def wLn : List Nat := [4, 4, 5, 7, 8, 4, 6, 8, 4, 5, 5, 2, 3, 3, 5, 5, 4, 5, 4, 3, 5, 4, 0]
def wBy : List (List Int32) := [[99, 105, 116, 121], [100, 101, 101, 100], [101, 108, 100, 101, 114], [121, 111, 117, 110, 103, 101, 114], [104, 97, 114, 118, 101, 115, 116, 115], [116, 101, 114, 109], [102, 114, 105, 101, 110, 100], [99, 104, 97, 109, 112, 105, 111, 110], [103, 97, 116, 101], [115, 116, 97, 121, 115], [108, 105, 107, 101, 115], [111, 114], [97, 110, 100], [110, 111, 116], [115, 116, 111, 114, 101], [119, 97, 108, 108, 115], [100, 101, 98, 116], [103, 108, 111, 114, 121], [121, 101, 97, 114], [109, 101, 110], [114, 117, 108, 101, 115], [108, 101, 97, 110], []]
def swm (j : Nat) : Int32 := if j < 11 then nI (j + 1) else 0
def wMs : List (String × Nat × String) := [("TurnBrothers", 95, "the tape has not so many bytes"), ("TurnBrothers", 170, "what"), ("TurnBrothers", 212, "no such place in the way"), ("TurnBrothers", 230, "no such deed"), ("TurnBrothers", 232, "no such brother"), ("TurnBrothers", 234, "no such friend"), ("TurnBrothers", 236, "not within its bounds"), ("TurnBrothers", 314, "no such champion"), ("TurnBrothers", 316, "no such gate"), ("TurnBrothers", 343, "both deeds are one")]
/-- what the statics hold: the words, their texts, the table of the switch; what a throw asks -/
def XS (w : WX) (U : State) (H : Heap) : Prop :=
  va_En "TurnBrothers$Word" "LTurnBrothers$Word;" wNm wFl w.2.1 (AA w) U H ∧
  va_Ef 23 "TurnBrothers$Word" "text" "Ljava/lang/String;" (fun i => .ref (w.2.1 (100 + i))) w.2.1 (AA w) U H ∧
  va_Z "TurnBrothers" "WORDS" "[LTurnBrothers$Word;" (.ref (w.2.1 23)) (AA w) U H ∧
  va_T (.object "TurnBrothers$Word") (w.2.1 23) 23 (fun j => .ref (w.2.1 j)) (AA w) U H ∧
  va_Z "TurnBrothers$1" "$SwitchMap$TurnBrothers$Word" "[I" (.ref (w.2.1 24)) (AA w) U H ∧
  va_T .int (w.2.1 24) 23 (fun j => .int (swm j)) (AA w) U H ∧
  vk_S 23 wLn wBy (fun i => w.2.1 (100 + i)) (fun i => w.2.1 (200 + i)) (AA w) U H ∧
  va_Z "java/lang/String" "COMPACT_STRINGS" "Z" (.int 1) (AA w) U H ∧
  va_Zq "jdk/internal/util/Preconditions" "SIOOBE_FORMATTER" "Ljava/util/function/BiFunction;" (AA w) U H ∧
  vx_Zq Bundle.tN "UNASSIGNED_STACK" Bundle.steD (AA w) U H ∧ vx_Zq Bundle.tN "SUPPRESSED_SENTINEL" Bundle.listD (AA w) U H
theorem XS.moved {w : WX} {u U : State} {H : Heap} (hvm : u.vm.Alike U.vm) (h : XS w u H) : XS w U H := by
  obtain ⟨h1, h2, h3, h4, h5, h6, h7, h8, h11, h9, h10⟩ := h
  exact ⟨va_En.moved hvm h1, va_Ef.moved hvm h2, va_Z.moved hvm h3, va_T.moved hvm h4, va_Z.moved hvm h5, va_T.moved hvm h6, vk_S.moved hvm h7, va_Z.moved hvm h8, va_Zq.moved hvm h11, vx_Zq.moved hvm h9, vx_Zq.moved hvm h10⟩
theorem XS.kept {w : WX} {U : State} {H H1 : Heap} (h : XS w U H) (hq : ∀ a : Nat, a < H.size → ¬ AA w a → H1[a]? = H[a]?) : XS w U H1 := by
  obtain ⟨h1, h2, h3, h4, h5, h6, h7, h8, h11, h9, h10⟩ := h
  exact ⟨va_En.kept h1 hq, va_Ef.kept h2 hq, va_Z.kept h3 hq, va_T.kept h4 hq, va_Z.kept h5 hq, va_T.kept h6 hq, vk_S.kept h7 hq, va_Z.kept h8 hq, va_Zq.kept h11 hq, vx_Zq.kept h9 hq, vx_Zq.kept h10 hq⟩
def SM (U : State) : Prop := ∀ q ∈ wMs, ∃ a, vk_R q.1 q.2.1 q.2.2 a U
def tyW (w : WX) : List (ClassId × FieldType) := [(w.2.2.2 0, .int), (w.2.2.2 1, .byte), (w.2.2.2 2, .long), (w.2.2.2 3, .boolean), (w.2.2.2 4, .object "TurnBrothers$City")]
def xNSE : String := "java/util/NoSuchElementException"
def xIAE : String := "java/lang/IllegalArgumentException"
/-- words that need a road of their own: what is castable, links of nest mates -/
def wDe : List MethodName := [⟨"java/lang/RuntimeException", "<init>", "(Ljava/lang/String;)V"⟩, ⟨"java/lang/Exception", "<init>", "(Ljava/lang/String;)V"⟩, ⟨"java/lang/Throwable", "<init>", "(Ljava/lang/String;)V"⟩, ⟨"java/lang/Enum", "ordinal", "()I"⟩]
def wNe : List (String × Nat × MethodName × String) := ("TurnBrothers$Land", 45, yX4_init, "TurnBrothers") :: ("TurnBrothers", 35, yX7_init, "TurnBrothers") :: ("TurnBrothers", 61, yX1_init, "TurnBrothers") :: ("TurnBrothers", 68, yX9_init, "TurnBrothers") :: []
def SN (U : State) : Prop := (∀ y ∈ wDe, va_Nw (.declares y) U) ∧ va_Nw (.castable xNSE xNSE) U ∧ va_Nw (.castable xIAE xIAE) U ∧ va_Nc xIAE xNSE U ∧ va_Nw (.fieldLinkNest "TurnBrothers$Tokens" 63 "TurnBrothers" "WORDS" "[LTurnBrothers$Word;" "TurnBrothers") U ∧ (∀ q ∈ wNe, va_Nw (.methodLinkNest q.1 q.2.1 q.2.2.1 q.2.2.2) U) ∧ va_AO "TurnBrothers$City" U
theorem SN.warm {s U : State} (hW : s.WarmedH U.vm) (h : SN s) : SN U := ⟨fun y hy => va_Nw.warmD hW (h.1 y hy), va_Nw.warmC hW h.2.1, va_Nw.warmC hW h.2.2.1, va_Nc.moved hW.alike h.2.2.2.1, va_Nw.warmF hW h.2.2.2.2.1, fun q hq => va_Nw.warmM hW (h.2.2.2.2.2.1 q hq), va_AO.moved hW.alike h.2.2.2.2.2.2⟩
theorem SN.same {s U : State} (hv : s.vm = U.vm) (h : SN s) : SN U := ⟨fun y hy => va_Nw.same rfl hv (h.1 y hy), va_Nw.same rfl hv h.2.1, va_Nw.same rfl hv h.2.2.1, va_Nc.moved (by rw [hv]; exact Vm.Alike.refl _) h.2.2.2.1, va_Nw.same rfl hv h.2.2.2.2.1, fun q hq => va_Nw.same rfl hv (h.2.2.2.2.2.1 q hq), va_AO.moved (by rw [hv]; exact Vm.Alike.refl _) h.2.2.2.2.2.2⟩
def SS (w : WX) (U : State) : Prop := va_K w.2.2.1 vwCl (tyW w) U ∧ XS w U U.heap ∧ SM U ∧ w.1 ≤ U.heap.size ∧ SN U
theorem SS.to {w : WX} {s U : State} {H : Heap} {locs : List Loc} (h : SS w s) (hW : s.WarmedH U.vm) (hS : va_S (AA w) s.heap H locs) (hU : U.heap = H) : SS w U := by
  obtain ⟨h1, h2, h3, h4, h5⟩ := h
  refine ⟨va_K.moved hW.alike h1, ?_, fun q hq => ?_, by rw [hU]; exact Nat.le_trans h4 hS.1, h5.warm hW⟩
  · rw [hU]
    exact (XS.moved hW.alike h2).kept hS.2.1
  · obtain ⟨a, ha⟩ := h3 q hq
    exact ⟨a, vk_R.warm hW ha⟩
theorem SS.calling {w : WX} {U : State} (h : SS w U) (g : JFrame) (mk : MethodId) (a : Array Value) : SS w (U.calling g mk a) := by
  obtain ⟨h1, h2, h3, h4, h5⟩ := h
  refine ⟨va_K.moved (u := U) (U := U.calling g mk a) (Vm.Alike.refl U.vm) h1, XS.moved (u := U) (U := U.calling g mk a) (Vm.Alike.refl U.vm) h2, fun q hq => ?_, h4, SN.same (s := U) (U := U.calling g mk a) rfl h5⟩
  obtain ⟨b, hb⟩ := h3 q hq
  exact ⟨b, vk_R.same (U := U.calling g mk a) rfl hb⟩
abbrev GX : Type := WX × Program × Launch × Env × Room × State × MethodId × Array Value × List Frame × Method × Code
/-- what holds all through a method: the machine, the code, the tables, the statics, the room -/
def OKm (G : GX) (b : ByteArray) (own : String) (nL : Nat) (ret : Option FieldType) (rm : Room) : Prop := match G with
  | (w, p, _, _, R, s, m, args, _, meth, c) => p.tables.exec = Jvm.exec ∧ c.code = b ∧ c.maxLocals = nL ∧ s.vm.findClass own = some m.cls ∧ (∀ x ∈ LW, x.before args s = true) ∧ SS w s ∧ meth.locks = false ∧ meth.sig.returnType = ret ∧ R = rm
def GG (G : GX) (Q : State → Prop) (kc ks pc : Nat) (lv : List (Nat × Value)) (st : List Value) (M : Mem) : Prop := match G with
  | (w, p, l, e, R, s, m, args, below, meth, c) => ∀ (H : Heap) (locs : List Loc) (ls : Array Slot), lv_has ls c.maxLocals lv → Wd w M H → va_S (AA w) s.heap H locs → W p l e R s m args below meth c H locs kc ks Q (F0 m pc ls st)
def QQ (w : WX) (post : Option Value → Mem → Prop) : Array Value → State → Outcome → State → Prop := fun _ st o t => (∃ (v : Option Value) (M' : Mem), o = .returned v ∧ post v M' ∧ Wd w M' t.heap) ∧ va_F (AA w) st t
def Qm (G : GX) (post : Option Value → Mem → Prop) (mc ms : Nat) : State → Prop := match G with
  | (w, _, _, _, _, s, _, args, below, _, _) => MQ below (QQ w post) args s mc ms (AA w)
/-- a method's contract at a memory -/
def CM (l : Launch) (w : WX) (y : MethodName) (bytes : ByteArray) (maxL : Nat) (ret : Option FieldType) (rm : Room) (mc ms : Nat) (av : List Value) (M : Mem) (post : Option Value → Mem → Prop) : Prop :=
  Met l y (Cond.code y bytes maxL ret :: LW) rm (va_Pc av (fun U => Wd w M U.heap ∧ SS w U)) (QQ w post) mc ms (AA w)
theorem CM_blind {w : WX} {M : Mem} {av : List Value} : FrameBlind (va_Pc av (fun U => Wd w M U.heap ∧ SS w U)) := fun _ _ g mk h => ⟨h.1, h.2.1, h.2.2.calling g mk _⟩
theorem CM_of {l : Launch} {w : WX} {y : MethodName} {bytes : ByteArray} {maxL : Nat} {ret : Option FieldType} {rm : Room} {mc ms : Nat} {av : List Value} {M : Mem} {post : Option Value → Mem → Prop} (hy : plainName y.cls = true) (hsz : (lg_sl av).length ≤ maxL)
    (body : ∀ G : GX, G.1 = w → G.2.2.1 = l → OKm G bytes y.cls maxL ret rm → GG G (Qm G post mc ms) 0 0 0 (lv_args 0 av) [] M) : CM l w y bytes maxL ret rm mc ms av M post := by
  refine Met.ofW (cc := bytes) (maxL := maxL) (ret := ret) hy rfl ?_
  intro p e s m args below meth c s₁ B hml hv
  obtain ⟨rfl, hWd, hSS⟩ := hv
  have hts := atoms_spec (ws := Cond.code y bytes maxL ret :: LW) B.pre
  have hl := lv_entry av (n := maxL) hsz
  rw [lg_entry_eq]
  exact body (w, p, l, e, rm, s, m, av.toArray, below, meth, c) rfl rfl ⟨B.exec, B.bytes, hml, findClass_of_methodNamed B.named, fun x hx => hts x (List.mem_cons_of_mem _ hx), hSS, B.notSynchronized, B.returns, rfl⟩ s.heap [] _ (by rw [hml]; exact hl) hWd va_S.rf

theorem g_iconst {G : GX} {Q : State → Prop} {kc ks pc nL : Nat} {lv : List (Nat × Value)} {st : List Value} {M : Mem} {b : ByteArray} {own : String} {ret : Option FieldType} {rm : Room} (h : OKm G b own nL ret rm) (n : Int) {v : Int32} (hv : Int32.ofInt n = v) (hd : decode b pc = .ok (.iconst n, 1)) (k : GG G Q kc ks (pc + 1) lv (.int v :: st) M) : GG G Q kc ks pc lv (st) M := by
  obtain ⟨w, p, l, e, R, s, m, args, below, meth, c⟩ := G
  obtain ⟨hx, hb, hml, hown, hts, hSS, hlk, hret, hR⟩ := h
  intro H locs ls hl hP hS
  exact lv_iconst hx hb hd hv (k H locs ls hl hP hS)
theorem g_bipush {G : GX} {Q : State → Prop} {kc ks pc nL : Nat} {lv : List (Nat × Value)} {st : List Value} {M : Mem} {b : ByteArray} {own : String} {ret : Option FieldType} {rm : Room} (h : OKm G b own nL ret rm) (n : Int) {v : Int32} (hv : (Int8.ofInt n).toInt32 = v) (hd : decode b pc = .ok (.bipush n, 2)) (k : GG G Q kc ks (pc + 2) lv (.int v :: st) M) : GG G Q kc ks pc lv (st) M := by
  obtain ⟨w, p, l, e, R, s, m, args, below, meth, c⟩ := G
  obtain ⟨hx, hb, hml, hown, hts, hSS, hlk, hret, hR⟩ := h
  intro H locs ls hl hP hS
  exact lv_bipush hx hb hd hv (k H locs ls hl hP hS)
theorem g_sipush {G : GX} {Q : State → Prop} {kc ks pc nL : Nat} {lv : List (Nat × Value)} {st : List Value} {M : Mem} {b : ByteArray} {own : String} {ret : Option FieldType} {rm : Room} (h : OKm G b own nL ret rm) (n : Int) {v : Int32} (hv : (Int16.ofInt n).toInt32 = v) (hd : decode b pc = .ok (.sipush n, 3)) (k : GG G Q kc ks (pc + 3) lv (.int v :: st) M) : GG G Q kc ks pc lv (st) M := by
  obtain ⟨w, p, l, e, R, s, m, args, below, meth, c⟩ := G
  obtain ⟨hx, hb, hml, hown, hts, hSS, hlk, hret, hR⟩ := h
  intro H locs ls hl hP hS
  exact lv_sipush hx hb hd hv (k H locs ls hl hP hS)
theorem g_lconst {G : GX} {Q : State → Prop} {kc ks pc nL : Nat} {lv : List (Nat × Value)} {st : List Value} {M : Mem} {b : ByteArray} {own : String} {ret : Option FieldType} {rm : Room} (h : OKm G b own nL ret rm) (n : Fin 2) {v : Int64} (hv : Int64.ofNat (n : Nat) = v) (hd : decode b pc = .ok (.lconst n, 1)) (k : GG G Q kc ks (pc + 1) lv (.long v :: st) M) : GG G Q kc ks pc lv (st) M := by
  obtain ⟨w, p, l, e, R, s, m, args, below, meth, c⟩ := G
  obtain ⟨hx, hb, hml, hown, hts, hSS, hlk, hret, hR⟩ := h
  intro H locs ls hl hP hS
  exact lv_lconst hx hb hd hv (k H locs ls hl hP hS)
theorem g_iload_n {G : GX} {Q : State → Prop} {kc ks pc nL : Nat} {lv : List (Nat × Value)} {st : List Value} {M : Mem} {b : ByteArray} {own : String} {ret : Option FieldType} {rm : Room} (h : OKm G b own nL ret rm) (q : Nat) {k4 : Fin 4} {x : Int32} (hq : lv[q]? = some ((k4 : Nat), .int x)) (hd : decode b pc = .ok (.iload_n k4, 1)) (k : GG G Q kc ks (pc + 1) lv (.int x :: st) M) : GG G Q kc ks pc lv (st) M := by
  obtain ⟨w, p, l, e, R, s, m, args, below, meth, c⟩ := G
  obtain ⟨hx, hb, hml, hown, hts, hSS, hlk, hret, hR⟩ := h
  intro H locs ls hl hP hS
  exact lv_iload_n hx hb hd rfl (lv_at hl q hq) (k H locs ls hl hP hS)
theorem g_iload {G : GX} {Q : State → Prop} {kc ks pc nL : Nat} {lv : List (Nat × Value)} {st : List Value} {M : Mem} {b : ByteArray} {own : String} {ret : Option FieldType} {rm : Room} (h : OKm G b own nL ret rm) (q : Nat) {i : Nat} {x : Int32} (hq : lv[q]? = some (i, .int x)) (hd : decode b pc = .ok (.iload i, 2)) (k : GG G Q kc ks (pc + 2) lv (.int x :: st) M) : GG G Q kc ks pc lv (st) M := by
  obtain ⟨w, p, l, e, R, s, m, args, below, meth, c⟩ := G
  obtain ⟨hx, hb, hml, hown, hts, hSS, hlk, hret, hR⟩ := h
  intro H locs ls hl hP hS
  exact lv_iload hx hb hd (lv_at hl q hq) (k H locs ls hl hP hS)
theorem g_lload_n {G : GX} {Q : State → Prop} {kc ks pc nL : Nat} {lv : List (Nat × Value)} {st : List Value} {M : Mem} {b : ByteArray} {own : String} {ret : Option FieldType} {rm : Room} (h : OKm G b own nL ret rm) (q : Nat) {k4 : Fin 4} {x : Int64} (hq : lv[q]? = some ((k4 : Nat), .long x)) (hd : decode b pc = .ok (.lload_n k4, 1)) (k : GG G Q kc ks (pc + 1) lv (.long x :: st) M) : GG G Q kc ks pc lv (st) M := by
  obtain ⟨w, p, l, e, R, s, m, args, below, meth, c⟩ := G
  obtain ⟨hx, hb, hml, hown, hts, hSS, hlk, hret, hR⟩ := h
  intro H locs ls hl hP hS
  exact lv_lload_n hx hb hd rfl (lv_at hl q hq) (k H locs ls hl hP hS)
theorem g_lload {G : GX} {Q : State → Prop} {kc ks pc nL : Nat} {lv : List (Nat × Value)} {st : List Value} {M : Mem} {b : ByteArray} {own : String} {ret : Option FieldType} {rm : Room} (h : OKm G b own nL ret rm) (q : Nat) {i : Nat} {x : Int64} (hq : lv[q]? = some (i, .long x)) (hd : decode b pc = .ok (.lload i, 2)) (k : GG G Q kc ks (pc + 2) lv (.long x :: st) M) : GG G Q kc ks pc lv (st) M := by
  obtain ⟨w, p, l, e, R, s, m, args, below, meth, c⟩ := G
  obtain ⟨hx, hb, hml, hown, hts, hSS, hlk, hret, hR⟩ := h
  intro H locs ls hl hP hS
  exact lv_lload hx hb hd (lv_at hl q hq) (k H locs ls hl hP hS)
theorem g_aload_n {G : GX} {Q : State → Prop} {kc ks pc nL : Nat} {lv : List (Nat × Value)} {st : List Value} {M : Mem} {b : ByteArray} {own : String} {ret : Option FieldType} {rm : Room} (h : OKm G b own nL ret rm) (q : Nat) {k4 : Fin 4} {i : Nat} (hq : lv[q]? = some ((k4 : Nat), rv G.1 i)) (hd : decode b pc = .ok (.aload_n k4, 1)) (k : GG G Q kc ks (pc + 1) lv (rv G.1 i :: st) M) : GG G Q kc ks pc lv (st) M := by
  obtain ⟨w, p, l, e, R, s, m, args, below, meth, c⟩ := G
  obtain ⟨hx, hb, hml, hown, hts, hSS, hlk, hret, hR⟩ := h
  intro H locs ls hl hP hS
  exact lv_aload_n hx hb hd rfl (lv_at hl q hq) (k H locs ls hl hP hS)
theorem g_aload {G : GX} {Q : State → Prop} {kc ks pc nL : Nat} {lv : List (Nat × Value)} {st : List Value} {M : Mem} {b : ByteArray} {own : String} {ret : Option FieldType} {rm : Room} (h : OKm G b own nL ret rm) (q : Nat) {i j : Nat} (hq : lv[q]? = some (j, rv G.1 i)) (hd : decode b pc = .ok (.aload j, 2)) (k : GG G Q kc ks (pc + 2) lv (rv G.1 i :: st) M) : GG G Q kc ks pc lv (st) M := by
  obtain ⟨w, p, l, e, R, s, m, args, below, meth, c⟩ := G
  obtain ⟨hx, hb, hml, hown, hts, hSS, hlk, hret, hR⟩ := h
  intro H locs ls hl hP hS
  exact lv_aload hx hb hd (lv_at hl q hq) (k H locs ls hl hP hS)
theorem g_istore_n {G : GX} {Q : State → Prop} {kc ks pc nL : Nat} {lv : List (Nat × Value)} {st : List Value} {M : Mem} {b : ByteArray} {own : String} {ret : Option FieldType} {rm : Room} (h : OKm G b own nL ret rm) {k4 : Fin 4} {i : Nat} {x : Int32} (hi : (k4 : Nat) = i) (lv' : List (Nat × Value)) (hn : i < nL) (hv : (i, Value.int x) :: lv.filter (fun q => !(q.1 == i) && !(q.1 + 1 == i && q.2.category == 2)) = lv') (hd : decode b pc = .ok (.istore_n k4, 1)) (k : GG G Q kc ks (pc + 1) lv' st M) : GG G Q kc ks pc lv (Value.int x :: st) M := by
  obtain ⟨w, p, l, e, R, s, m, args, below, meth, c⟩ := G
  obtain ⟨hx, hb, hml, hown, hts, hSS, hlk, hret, hR⟩ := h
  intro H locs ls hl hP hS
  exact lv_istore_n hx hb hd hi hl (by rw [hml]; exact hn) hv (fun ls hl => k H locs ls hl hP hS)
theorem g_istore {G : GX} {Q : State → Prop} {kc ks pc nL : Nat} {lv : List (Nat × Value)} {st : List Value} {M : Mem} {b : ByteArray} {own : String} {ret : Option FieldType} {rm : Room} (h : OKm G b own nL ret rm) {i : Nat} {x : Int32} (lv' : List (Nat × Value)) (hn : i < nL) (hv : (i, Value.int x) :: lv.filter (fun q => !(q.1 == i) && !(q.1 + 1 == i && q.2.category == 2)) = lv') (hd : decode b pc = .ok (.istore i, 2)) (k : GG G Q kc ks (pc + 2) lv' st M) : GG G Q kc ks pc lv (Value.int x :: st) M := by
  obtain ⟨w, p, l, e, R, s, m, args, below, meth, c⟩ := G
  obtain ⟨hx, hb, hml, hown, hts, hSS, hlk, hret, hR⟩ := h
  intro H locs ls hl hP hS
  exact lv_istore hx hb hd hl (by rw [hml]; exact hn) hv (fun ls hl => k H locs ls hl hP hS)
theorem g_lstore_n {G : GX} {Q : State → Prop} {kc ks pc nL : Nat} {lv : List (Nat × Value)} {st : List Value} {M : Mem} {b : ByteArray} {own : String} {ret : Option FieldType} {rm : Room} (h : OKm G b own nL ret rm) {k4 : Fin 4} {i : Nat} {x : Int64} (hi : (k4 : Nat) = i) (lv' : List (Nat × Value)) (hn : i + 1 < nL) (hv : (i, Value.long x) :: lv.filter (fun q => !(q.1 == i) && (!(q.1 == i + 1) && !(q.1 + 1 == i && q.2.category == 2))) = lv') (hd : decode b pc = .ok (.lstore_n k4, 1)) (k : GG G Q kc ks (pc + 1) lv' st M) : GG G Q kc ks pc lv (Value.long x :: st) M := by
  obtain ⟨w, p, l, e, R, s, m, args, below, meth, c⟩ := G
  obtain ⟨hx, hb, hml, hown, hts, hSS, hlk, hret, hR⟩ := h
  intro H locs ls hl hP hS
  exact lv_lstore_n hx hb hd hi hl (by rw [hml]; exact hn) hv (fun ls hl => k H locs ls hl hP hS)
theorem g_lstore {G : GX} {Q : State → Prop} {kc ks pc nL : Nat} {lv : List (Nat × Value)} {st : List Value} {M : Mem} {b : ByteArray} {own : String} {ret : Option FieldType} {rm : Room} (h : OKm G b own nL ret rm) {i : Nat} {x : Int64} (lv' : List (Nat × Value)) (hn : i + 1 < nL) (hv : (i, Value.long x) :: lv.filter (fun q => !(q.1 == i) && (!(q.1 == i + 1) && !(q.1 + 1 == i && q.2.category == 2))) = lv') (hd : decode b pc = .ok (.lstore i, 2)) (k : GG G Q kc ks (pc + 2) lv' st M) : GG G Q kc ks pc lv (Value.long x :: st) M := by
  obtain ⟨w, p, l, e, R, s, m, args, below, meth, c⟩ := G
  obtain ⟨hx, hb, hml, hown, hts, hSS, hlk, hret, hR⟩ := h
  intro H locs ls hl hP hS
  exact lv_lstore hx hb hd hl (by rw [hml]; exact hn) hv (fun ls hl => k H locs ls hl hP hS)
theorem g_astore_n {G : GX} {Q : State → Prop} {kc ks pc nL : Nat} {lv : List (Nat × Value)} {st : List Value} {M : Mem} {b : ByteArray} {own : String} {ret : Option FieldType} {rm : Room} (h : OKm G b own nL ret rm) {k4 : Fin 4} {i z : Nat} (hi : (k4 : Nat) = i) (lv' : List (Nat × Value)) (hn : i < nL) (hv : (i, rv G.1 z) :: lv.filter (fun q => !(q.1 == i) && !(q.1 + 1 == i && q.2.category == 2)) = lv') (hd : decode b pc = .ok (.astore_n k4, 1)) (k : GG G Q kc ks (pc + 1) lv' st M) : GG G Q kc ks pc lv (rv G.1 z :: st) M := by
  obtain ⟨w, p, l, e, R, s, m, args, below, meth, c⟩ := G
  obtain ⟨hx, hb, hml, hown, hts, hSS, hlk, hret, hR⟩ := h
  intro H locs ls hl hP hS
  exact lv_astore_n hx hb hd hi hl (by rw [hml]; exact hn) hv (fun ls hl => k H locs ls hl hP hS)
theorem g_astore {G : GX} {Q : State → Prop} {kc ks pc nL : Nat} {lv : List (Nat × Value)} {st : List Value} {M : Mem} {b : ByteArray} {own : String} {ret : Option FieldType} {rm : Room} (h : OKm G b own nL ret rm) {i z : Nat} (lv' : List (Nat × Value)) (hn : i < nL) (hv : (i, rv G.1 z) :: lv.filter (fun q => !(q.1 == i) && !(q.1 + 1 == i && q.2.category == 2)) = lv') (hd : decode b pc = .ok (.astore i, 2)) (k : GG G Q kc ks (pc + 2) lv' st M) : GG G Q kc ks pc lv (rv G.1 z :: st) M := by
  obtain ⟨w, p, l, e, R, s, m, args, below, meth, c⟩ := G
  obtain ⟨hx, hb, hml, hown, hts, hSS, hlk, hret, hR⟩ := h
  intro H locs ls hl hP hS
  exact lv_astore hx hb hd hl (by rw [hml]; exact hn) hv (fun ls hl => k H locs ls hl hP hS)
theorem g_iinc {G : GX} {Q : State → Prop} {kc ks pc nL : Nat} {lv : List (Nat × Value)} {st : List Value} {M : Mem} {b : ByteArray} {own : String} {ret : Option FieldType} {rm : Room} (h : OKm G b own nL ret rm) (i q : Nat) {n : Int} {x v : Int32} (hq : lv[q]? = some (i, .int x)) (hv0 : x + Int32.ofInt n = v) (lv' : List (Nat × Value)) (hn : i < nL) (hv : (i, Value.int v) :: lv.filter (fun q => !(q.1 == i) && !(q.1 + 1 == i && q.2.category == 2)) = lv') (hd : decode b pc = .ok (.iinc i n, 3)) (k : GG G Q kc ks (pc + 3) lv' st M) : GG G Q kc ks pc lv (st) M := by
  obtain ⟨w, p, l, e, R, s, m, args, below, meth, c⟩ := G
  obtain ⟨hx, hb, hml, hown, hts, hSS, hlk, hret, hR⟩ := h
  intro H locs ls hl hP hS
  exact lv_iinc hx hb hd hl hq hv0 (by rw [hml]; exact hn) hv (fun ls hl => k H locs ls hl hP hS)
theorem g_iadd {G : GX} {Q : State → Prop} {kc ks pc nL : Nat} {lv : List (Nat × Value)} {st : List Value} {M : Mem} {b : ByteArray} {own : String} {ret : Option FieldType} {rm : Room} (h : OKm G b own nL ret rm) {x y : Int32} (hd : decode b pc = .ok (.iadd, 1)) (k : GG G Q kc ks (pc + 1) lv (.int (x + y) :: st) M) : GG G Q kc ks pc lv (.int y :: .int x :: st) M := by
  obtain ⟨w, p, l, e, R, s, m, args, below, meth, c⟩ := G
  obtain ⟨hx, hb, hml, hown, hts, hSS, hlk, hret, hR⟩ := h
  intro H locs ls hl hP hS
  exact lv_iadd hx hb hd (k H locs ls hl hP hS)
theorem g_isub {G : GX} {Q : State → Prop} {kc ks pc nL : Nat} {lv : List (Nat × Value)} {st : List Value} {M : Mem} {b : ByteArray} {own : String} {ret : Option FieldType} {rm : Room} (h : OKm G b own nL ret rm) {x y : Int32} (hd : decode b pc = .ok (.isub, 1)) (k : GG G Q kc ks (pc + 1) lv (.int (x - y) :: st) M) : GG G Q kc ks pc lv (.int y :: .int x :: st) M := by
  obtain ⟨w, p, l, e, R, s, m, args, below, meth, c⟩ := G
  obtain ⟨hx, hb, hml, hown, hts, hSS, hlk, hret, hR⟩ := h
  intro H locs ls hl hP hS
  exact lv_isub hx hb hd (k H locs ls hl hP hS)
theorem g_imul {G : GX} {Q : State → Prop} {kc ks pc nL : Nat} {lv : List (Nat × Value)} {st : List Value} {M : Mem} {b : ByteArray} {own : String} {ret : Option FieldType} {rm : Room} (h : OKm G b own nL ret rm) {x y : Int32} (hd : decode b pc = .ok (.imul, 1)) (k : GG G Q kc ks (pc + 1) lv (.int (x * y) :: st) M) : GG G Q kc ks pc lv (.int y :: .int x :: st) M := by
  obtain ⟨w, p, l, e, R, s, m, args, below, meth, c⟩ := G
  obtain ⟨hx, hb, hml, hown, hts, hSS, hlk, hret, hR⟩ := h
  intro H locs ls hl hP hS
  exact lv_imul hx hb hd (k H locs ls hl hP hS)
theorem g_iand {G : GX} {Q : State → Prop} {kc ks pc nL : Nat} {lv : List (Nat × Value)} {st : List Value} {M : Mem} {b : ByteArray} {own : String} {ret : Option FieldType} {rm : Room} (h : OKm G b own nL ret rm) {x y : Int32} (hd : decode b pc = .ok (.iand, 1)) (k : GG G Q kc ks (pc + 1) lv (.int (x &&& y) :: st) M) : GG G Q kc ks pc lv (.int y :: .int x :: st) M := by
  obtain ⟨w, p, l, e, R, s, m, args, below, meth, c⟩ := G
  obtain ⟨hx, hb, hml, hown, hts, hSS, hlk, hret, hR⟩ := h
  intro H locs ls hl hP hS
  exact lv_iand hx hb hd (k H locs ls hl hP hS)
theorem g_ior {G : GX} {Q : State → Prop} {kc ks pc nL : Nat} {lv : List (Nat × Value)} {st : List Value} {M : Mem} {b : ByteArray} {own : String} {ret : Option FieldType} {rm : Room} (h : OKm G b own nL ret rm) {x y : Int32} (hd : decode b pc = .ok (.ior, 1)) (k : GG G Q kc ks (pc + 1) lv (.int (x ||| y) :: st) M) : GG G Q kc ks pc lv (.int y :: .int x :: st) M := by
  obtain ⟨w, p, l, e, R, s, m, args, below, meth, c⟩ := G
  obtain ⟨hx, hb, hml, hown, hts, hSS, hlk, hret, hR⟩ := h
  intro H locs ls hl hP hS
  exact lv_ior hx hb hd (k H locs ls hl hP hS)
theorem g_ixor {G : GX} {Q : State → Prop} {kc ks pc nL : Nat} {lv : List (Nat × Value)} {st : List Value} {M : Mem} {b : ByteArray} {own : String} {ret : Option FieldType} {rm : Room} (h : OKm G b own nL ret rm) {x y : Int32} (hd : decode b pc = .ok (.ixor, 1)) (k : GG G Q kc ks (pc + 1) lv (.int (x ^^^ y) :: st) M) : GG G Q kc ks pc lv (.int y :: .int x :: st) M := by
  obtain ⟨w, p, l, e, R, s, m, args, below, meth, c⟩ := G
  obtain ⟨hx, hb, hml, hown, hts, hSS, hlk, hret, hR⟩ := h
  intro H locs ls hl hP hS
  exact lv_ixor hx hb hd (k H locs ls hl hP hS)
theorem g_ishl {G : GX} {Q : State → Prop} {kc ks pc nL : Nat} {lv : List (Nat × Value)} {st : List Value} {M : Mem} {b : ByteArray} {own : String} {ret : Option FieldType} {rm : Room} (h : OKm G b own nL ret rm) {x y : Int32} (hd : decode b pc = .ok (.ishl, 1)) (k : GG G Q kc ks (pc + 1) lv (.int (x <<< (y &&& 31)) :: st) M) : GG G Q kc ks pc lv (.int y :: .int x :: st) M := by
  obtain ⟨w, p, l, e, R, s, m, args, below, meth, c⟩ := G
  obtain ⟨hx, hb, hml, hown, hts, hSS, hlk, hret, hR⟩ := h
  intro H locs ls hl hP hS
  exact lv_ishl hx hb hd (k H locs ls hl hP hS)
theorem g_ishr {G : GX} {Q : State → Prop} {kc ks pc nL : Nat} {lv : List (Nat × Value)} {st : List Value} {M : Mem} {b : ByteArray} {own : String} {ret : Option FieldType} {rm : Room} (h : OKm G b own nL ret rm) {x y : Int32} (hd : decode b pc = .ok (.ishr, 1)) (k : GG G Q kc ks (pc + 1) lv (.int (x >>> (y &&& 31)) :: st) M) : GG G Q kc ks pc lv (.int y :: .int x :: st) M := by
  obtain ⟨w, p, l, e, R, s, m, args, below, meth, c⟩ := G
  obtain ⟨hx, hb, hml, hown, hts, hSS, hlk, hret, hR⟩ := h
  intro H locs ls hl hP hS
  exact lv_ishr hx hb hd (k H locs ls hl hP hS)
theorem g_ladd {G : GX} {Q : State → Prop} {kc ks pc nL : Nat} {lv : List (Nat × Value)} {st : List Value} {M : Mem} {b : ByteArray} {own : String} {ret : Option FieldType} {rm : Room} (h : OKm G b own nL ret rm) {x y : Int64} (hd : decode b pc = .ok (.ladd, 1)) (k : GG G Q kc ks (pc + 1) lv (.long (x + y) :: st) M) : GG G Q kc ks pc lv (.long y :: .long x :: st) M := by
  obtain ⟨w, p, l, e, R, s, m, args, below, meth, c⟩ := G
  obtain ⟨hx, hb, hml, hown, hts, hSS, hlk, hret, hR⟩ := h
  intro H locs ls hl hP hS
  exact lv_ladd hx hb hd (k H locs ls hl hP hS)
theorem g_lsub {G : GX} {Q : State → Prop} {kc ks pc nL : Nat} {lv : List (Nat × Value)} {st : List Value} {M : Mem} {b : ByteArray} {own : String} {ret : Option FieldType} {rm : Room} (h : OKm G b own nL ret rm) {x y : Int64} (hd : decode b pc = .ok (.lsub, 1)) (k : GG G Q kc ks (pc + 1) lv (.long (x - y) :: st) M) : GG G Q kc ks pc lv (.long y :: .long x :: st) M := by
  obtain ⟨w, p, l, e, R, s, m, args, below, meth, c⟩ := G
  obtain ⟨hx, hb, hml, hown, hts, hSS, hlk, hret, hR⟩ := h
  intro H locs ls hl hP hS
  exact lv_lsub hx hb hd (k H locs ls hl hP hS)
theorem g_lor {G : GX} {Q : State → Prop} {kc ks pc nL : Nat} {lv : List (Nat × Value)} {st : List Value} {M : Mem} {b : ByteArray} {own : String} {ret : Option FieldType} {rm : Room} (h : OKm G b own nL ret rm) {x y : Int64} (hd : decode b pc = .ok (.lor, 1)) (k : GG G Q kc ks (pc + 1) lv (.long (x ||| y) :: st) M) : GG G Q kc ks pc lv (.long y :: .long x :: st) M := by
  obtain ⟨w, p, l, e, R, s, m, args, below, meth, c⟩ := G
  obtain ⟨hx, hb, hml, hown, hts, hSS, hlk, hret, hR⟩ := h
  intro H locs ls hl hP hS
  exact lv_lor hx hb hd (k H locs ls hl hP hS)
theorem g_land {G : GX} {Q : State → Prop} {kc ks pc nL : Nat} {lv : List (Nat × Value)} {st : List Value} {M : Mem} {b : ByteArray} {own : String} {ret : Option FieldType} {rm : Room} (h : OKm G b own nL ret rm) {x y : Int64} (hd : decode b pc = .ok (.land, 1)) (k : GG G Q kc ks (pc + 1) lv (.long (x &&& y) :: st) M) : GG G Q kc ks pc lv (.long y :: .long x :: st) M := by
  obtain ⟨w, p, l, e, R, s, m, args, below, meth, c⟩ := G
  obtain ⟨hx, hb, hml, hown, hts, hSS, hlk, hret, hR⟩ := h
  intro H locs ls hl hP hS
  exact lv_land hx hb hd (k H locs ls hl hP hS)
theorem g_idiv {G : GX} {Q : State → Prop} {kc ks pc nL : Nat} {lv : List (Nat × Value)} {st : List Value} {M : Mem} {b : ByteArray} {own : String} {ret : Option FieldType} {rm : Room} (h : OKm G b own nL ret rm) {x y : Int32} (hne : ¬ y = 0) (hd : decode b pc = .ok (.idiv, 1)) (k : GG G Q kc ks (pc + 1) lv (.int (x / y) :: st) M) : GG G Q kc ks pc lv (.int y :: .int x :: st) M := by
  obtain ⟨w, p, l, e, R, s, m, args, below, meth, c⟩ := G
  obtain ⟨hx, hb, hml, hown, hts, hSS, hlk, hret, hR⟩ := h
  intro H locs ls hl hP hS
  exact lv_idiv hx hb hd hne (k H locs ls hl hP hS)
theorem g_irem {G : GX} {Q : State → Prop} {kc ks pc nL : Nat} {lv : List (Nat × Value)} {st : List Value} {M : Mem} {b : ByteArray} {own : String} {ret : Option FieldType} {rm : Room} (h : OKm G b own nL ret rm) {x y : Int32} (hne : ¬ y = 0) (hd : decode b pc = .ok (.irem, 1)) (k : GG G Q kc ks (pc + 1) lv (.int (x - x / y * y) :: st) M) : GG G Q kc ks pc lv (.int y :: .int x :: st) M := by
  obtain ⟨w, p, l, e, R, s, m, args, below, meth, c⟩ := G
  obtain ⟨hx, hb, hml, hown, hts, hSS, hlk, hret, hR⟩ := h
  intro H locs ls hl hP hS
  exact lv_irem hx hb hd hne (k H locs ls hl hP hS)
theorem g_iushr {G : GX} {Q : State → Prop} {kc ks pc nL : Nat} {lv : List (Nat × Value)} {st : List Value} {M : Mem} {b : ByteArray} {own : String} {ret : Option FieldType} {rm : Room} (h : OKm G b own nL ret rm) {x y : Int32} (hd : decode b pc = .ok (.iushr, 1)) (k : GG G Q kc ks (pc + 1) lv (.int (x.toUInt32 >>> (y.toUInt32 &&& Int32.toUInt32 31)).toInt32 :: st) M) : GG G Q kc ks pc lv (.int y :: .int x :: st) M := by
  obtain ⟨w, p, l, e, R, s, m, args, below, meth, c⟩ := G
  obtain ⟨hx, hb, hml, hown, hts, hSS, hlk, hret, hR⟩ := h
  intro H locs ls hl hP hS
  exact lv_iushr hx hb hd rfl (k H locs ls hl hP hS)
theorem g_lshl {G : GX} {Q : State → Prop} {kc ks pc nL : Nat} {lv : List (Nat × Value)} {st : List Value} {M : Mem} {b : ByteArray} {own : String} {ret : Option FieldType} {rm : Room} (h : OKm G b own nL ret rm) {x : Int64} {y : Int32} (hd : decode b pc = .ok (.lshl, 1)) (k : GG G Q kc ks (pc + 1) lv (.long (x <<< (y.toInt64 &&& 63)) :: st) M) : GG G Q kc ks pc lv (.int y :: .long x :: st) M := by
  obtain ⟨w, p, l, e, R, s, m, args, below, meth, c⟩ := G
  obtain ⟨hx, hb, hml, hown, hts, hSS, hlk, hret, hR⟩ := h
  intro H locs ls hl hP hS
  exact lv_lshl hx hb hd rfl (k H locs ls hl hP hS)
theorem g_lcmp {G : GX} {Q : State → Prop} {kc ks pc nL : Nat} {lv : List (Nat × Value)} {st : List Value} {M : Mem} {b : ByteArray} {own : String} {ret : Option FieldType} {rm : Room} (h : OKm G b own nL ret rm) {x y : Int64} (hd : decode b pc = .ok (.lcmp, 1)) (k : GG G Q kc ks (pc + 1) lv (.int (lg_cmp x y) :: st) M) : GG G Q kc ks pc lv (.long y :: .long x :: st) M := by
  obtain ⟨w, p, l, e, R, s, m, args, below, meth, c⟩ := G
  obtain ⟨hx, hb, hml, hown, hts, hSS, hlk, hret, hR⟩ := h
  intro H locs ls hl hP hS
  exact W.lcmp hx hb hd (k H locs ls hl hP hS)
theorem g_ineg {G : GX} {Q : State → Prop} {kc ks pc nL : Nat} {lv : List (Nat × Value)} {st : List Value} {M : Mem} {b : ByteArray} {own : String} {ret : Option FieldType} {rm : Room} (h : OKm G b own nL ret rm) {x : Int32} (hd : decode b pc = .ok (.ineg, 1)) (k : GG G Q kc ks (pc + 1) lv (.int (-x) :: st) M) : GG G Q kc ks pc lv (.int x :: st) M := by
  obtain ⟨w, p, l, e, R, s, m, args, below, meth, c⟩ := G
  obtain ⟨hx, hb, hml, hown, hts, hSS, hlk, hret, hR⟩ := h
  intro H locs ls hl hP hS
  exact lv_ineg hx hb hd (k H locs ls hl hP hS)
theorem g_i2l {G : GX} {Q : State → Prop} {kc ks pc nL : Nat} {lv : List (Nat × Value)} {st : List Value} {M : Mem} {b : ByteArray} {own : String} {ret : Option FieldType} {rm : Room} (h : OKm G b own nL ret rm) {x : Int32} (hd : decode b pc = .ok (.i2l, 1)) (k : GG G Q kc ks (pc + 1) lv (.long x.toInt64 :: st) M) : GG G Q kc ks pc lv (.int x :: st) M := by
  obtain ⟨w, p, l, e, R, s, m, args, below, meth, c⟩ := G
  obtain ⟨hx, hb, hml, hown, hts, hSS, hlk, hret, hR⟩ := h
  intro H locs ls hl hP hS
  exact lv_i2l hx hb hd rfl (k H locs ls hl hP hS)
theorem g_i2b {G : GX} {Q : State → Prop} {kc ks pc nL : Nat} {lv : List (Nat × Value)} {st : List Value} {M : Mem} {b : ByteArray} {own : String} {ret : Option FieldType} {rm : Room} (h : OKm G b own nL ret rm) {x : Int32} (hd : decode b pc = .ok (.i2b, 1)) (k : GG G Q kc ks (pc + 1) lv (.int x.toInt8.toInt32 :: st) M) : GG G Q kc ks pc lv (.int x :: st) M := by
  obtain ⟨w, p, l, e, R, s, m, args, below, meth, c⟩ := G
  obtain ⟨hx, hb, hml, hown, hts, hSS, hlk, hret, hR⟩ := h
  intro H locs ls hl hP hS
  exact lv_i2b hx hb hd rfl (k H locs ls hl hP hS)
theorem g_i2c {G : GX} {Q : State → Prop} {kc ks pc nL : Nat} {lv : List (Nat × Value)} {st : List Value} {M : Mem} {b : ByteArray} {own : String} {ret : Option FieldType} {rm : Room} (h : OKm G b own nL ret rm) {x : Int32} (hd : decode b pc = .ok (.i2c, 1)) (k : GG G Q kc ks (pc + 1) lv (.int (x.toUInt32 % 65536).toInt32 :: st) M) : GG G Q kc ks pc lv (.int x :: st) M := by
  obtain ⟨w, p, l, e, R, s, m, args, below, meth, c⟩ := G
  obtain ⟨hx, hb, hml, hown, hts, hSS, hlk, hret, hR⟩ := h
  intro H locs ls hl hP hS
  exact lv_i2c hx hb hd rfl (k H locs ls hl hP hS)
theorem g_dup {G : GX} {Q : State → Prop} {kc ks pc nL : Nat} {lv : List (Nat × Value)} {st : List Value} {M : Mem} {b : ByteArray} {own : String} {ret : Option FieldType} {rm : Room} (h : OKm G b own nL ret rm) {x : Value} (hc : x.category = 1) (hd : decode b pc = .ok (.dup, 1)) (k : GG G Q kc ks (pc + 1) lv (x :: x :: st) M) : GG G Q kc ks pc lv (x :: st) M := by
  obtain ⟨w, p, l, e, R, s, m, args, below, meth, c⟩ := G
  obtain ⟨hx, hb, hml, hown, hts, hSS, hlk, hret, hR⟩ := h
  intro H locs ls hl hP hS
  exact lv_dup hx hb hd hc (k H locs ls hl hP hS)
theorem g_dup2 {G : GX} {Q : State → Prop} {kc ks pc nL : Nat} {lv : List (Nat × Value)} {st : List Value} {M : Mem} {b : ByteArray} {own : String} {ret : Option FieldType} {rm : Room} (h : OKm G b own nL ret rm) {x y : Value} (hc : x.category = 1) (hc2 : y.category = 1) (hd : decode b pc = .ok (.dup2, 1)) (k : GG G Q kc ks (pc + 1) lv (x :: y :: x :: y :: st) M) : GG G Q kc ks pc lv (x :: y :: st) M := by
  obtain ⟨w, p, l, e, R, s, m, args, below, meth, c⟩ := G
  obtain ⟨hx, hb, hml, hown, hts, hSS, hlk, hret, hR⟩ := h
  intro H locs ls hl hP hS
  exact lv_dup2_11 hx hb hd hc hc2 (k H locs ls hl hP hS)
theorem g_pop {G : GX} {Q : State → Prop} {kc ks pc nL : Nat} {lv : List (Nat × Value)} {st : List Value} {M : Mem} {b : ByteArray} {own : String} {ret : Option FieldType} {rm : Room} (h : OKm G b own nL ret rm) {x : Value} (hc : x.category = 1) (hd : decode b pc = .ok (.pop, 1)) (k : GG G Q kc ks (pc + 1) lv (st) M) : GG G Q kc ks pc lv (x :: st) M := by
  obtain ⟨w, p, l, e, R, s, m, args, below, meth, c⟩ := G
  obtain ⟨hx, hb, hml, hown, hts, hSS, hlk, hret, hR⟩ := h
  intro H locs ls hl hP hS
  exact lv_pop hx hb hd hc (k H locs ls hl hP hS)
theorem g_goto {G : GX} {Q : State → Prop} {kc ks pc nL : Nat} {lv : List (Nat × Value)} {st : List Value} {M : Mem} {b : ByteArray} {own : String} {ret : Option FieldType} {rm : Room} (h : OKm G b own nL ret rm) {off : Int} (tgt : Nat) (ht : (pc : Int) + off = (tgt : Int)) (hd : decode b pc = .ok (.goto off, 3)) (k : GG G Q kc ks tgt lv st M) : GG G Q kc ks pc lv (st) M := by
  obtain ⟨w, p, l, e, R, s, m, args, below, meth, c⟩ := G
  obtain ⟨hx, hb, hml, hown, hts, hSS, hlk, hret, hR⟩ := h
  intro H locs ls hl hP hS
  exact lv_goto hx hb hd ht (k H locs ls hl hP hS)
theorem g_if_eq {G : GX} {Q : State → Prop} {kc ks pc nL : Nat} {lv : List (Nat × Value)} {st : List Value} {M : Mem} {b : ByteArray} {own : String} {ret : Option FieldType} {rm : Room} (h : OKm G b own nL ret rm) {x : Int32} {β : Type} {A B : Option β} {res : β} {off : Int} (tgt : Nat) (ht : (pc : Int) + off = (tgt : Int)) (hf : (if x = 0 then A else B) = some res) (hd : decode b pc = .ok (.ifCond .eq off, 3)) (kt : A = some res → GG G Q kc ks tgt lv st M) (kf : B = some res → GG G Q kc ks (pc + 3) lv st M) : GG G Q kc ks pc lv (.int x :: st) M := by
  obtain ⟨w, p, l, e, R, s, m, args, below, meth, c⟩ := G
  obtain ⟨hx, hb, hml, hown, hts, hSS, hlk, hret, hR⟩ := h
  intro H locs ls hl hP hS
  exact lv_if_eq hx hb hd ht (fun z => kt (by rw [if_pos z] at hf; exact hf) H locs ls hl hP hS) (fun z => kf (by rw [if_neg z] at hf; exact hf) H locs ls hl hP hS)
theorem g_if_ne {G : GX} {Q : State → Prop} {kc ks pc nL : Nat} {lv : List (Nat × Value)} {st : List Value} {M : Mem} {b : ByteArray} {own : String} {ret : Option FieldType} {rm : Room} (h : OKm G b own nL ret rm) {x : Int32} {β : Type} {A B : Option β} {res : β} {off : Int} (tgt : Nat) (ht : (pc : Int) + off = (tgt : Int)) (hf : (if x = 0 then A else B) = some res) (hd : decode b pc = .ok (.ifCond .ne off, 3)) (kt : B = some res → GG G Q kc ks tgt lv st M) (kf : A = some res → GG G Q kc ks (pc + 3) lv st M) : GG G Q kc ks pc lv (.int x :: st) M := by
  obtain ⟨w, p, l, e, R, s, m, args, below, meth, c⟩ := G
  obtain ⟨hx, hb, hml, hown, hts, hSS, hlk, hret, hR⟩ := h
  intro H locs ls hl hP hS
  exact lv_if_ne hx hb hd ht (fun z => kt (by rw [if_neg z] at hf; exact hf) H locs ls hl hP hS) (fun z => kf (by rw [if_pos z] at hf; exact hf) H locs ls hl hP hS)
theorem g_if_lt {G : GX} {Q : State → Prop} {kc ks pc nL : Nat} {lv : List (Nat × Value)} {st : List Value} {M : Mem} {b : ByteArray} {own : String} {ret : Option FieldType} {rm : Room} (h : OKm G b own nL ret rm) {x : Int32} {β : Type} {A B : Option β} {res : β} {off : Int} (tgt : Nat) (ht : (pc : Int) + off = (tgt : Int)) (hf : (if x < 0 then A else B) = some res) (hd : decode b pc = .ok (.ifCond .lt off, 3)) (kt : A = some res → GG G Q kc ks tgt lv st M) (kf : B = some res → GG G Q kc ks (pc + 3) lv st M) : GG G Q kc ks pc lv (.int x :: st) M := by
  obtain ⟨w, p, l, e, R, s, m, args, below, meth, c⟩ := G
  obtain ⟨hx, hb, hml, hown, hts, hSS, hlk, hret, hR⟩ := h
  intro H locs ls hl hP hS
  exact lv_if_lt hx hb hd ht (fun z => kt (by rw [if_pos z] at hf; exact hf) H locs ls hl hP hS) (fun z => kf (by rw [if_neg z] at hf; exact hf) H locs ls hl hP hS)
theorem g_if_ge {G : GX} {Q : State → Prop} {kc ks pc nL : Nat} {lv : List (Nat × Value)} {st : List Value} {M : Mem} {b : ByteArray} {own : String} {ret : Option FieldType} {rm : Room} (h : OKm G b own nL ret rm) {x : Int32} {β : Type} {A B : Option β} {res : β} {off : Int} (tgt : Nat) (ht : (pc : Int) + off = (tgt : Int)) (hf : (if x < 0 then A else B) = some res) (hd : decode b pc = .ok (.ifCond .ge off, 3)) (kt : B = some res → GG G Q kc ks tgt lv st M) (kf : A = some res → GG G Q kc ks (pc + 3) lv st M) : GG G Q kc ks pc lv (.int x :: st) M := by
  obtain ⟨w, p, l, e, R, s, m, args, below, meth, c⟩ := G
  obtain ⟨hx, hb, hml, hown, hts, hSS, hlk, hret, hR⟩ := h
  intro H locs ls hl hP hS
  exact lv_if_ge hx hb hd ht (fun z => kt (by rw [if_neg (Int32.not_lt.mpr z)] at hf; exact hf) H locs ls hl hP hS) (fun z => kf (by rw [if_pos (Int32.not_le.mp z)] at hf; exact hf) H locs ls hl hP hS)
theorem g_if_gt {G : GX} {Q : State → Prop} {kc ks pc nL : Nat} {lv : List (Nat × Value)} {st : List Value} {M : Mem} {b : ByteArray} {own : String} {ret : Option FieldType} {rm : Room} (h : OKm G b own nL ret rm) {x : Int32} {β : Type} {A B : Option β} {res : β} {off : Int} (tgt : Nat) (ht : (pc : Int) + off = (tgt : Int)) (hf : (if 0 < x then A else B) = some res) (hd : decode b pc = .ok (.ifCond .gt off, 3)) (kt : A = some res → GG G Q kc ks tgt lv st M) (kf : B = some res → GG G Q kc ks (pc + 3) lv st M) : GG G Q kc ks pc lv (.int x :: st) M := by
  obtain ⟨w, p, l, e, R, s, m, args, below, meth, c⟩ := G
  obtain ⟨hx, hb, hml, hown, hts, hSS, hlk, hret, hR⟩ := h
  intro H locs ls hl hP hS
  exact lv_if_gt hx hb hd ht (fun z => kt (by rw [if_pos z] at hf; exact hf) H locs ls hl hP hS) (fun z => kf (by rw [if_neg z] at hf; exact hf) H locs ls hl hP hS)
theorem g_if_le {G : GX} {Q : State → Prop} {kc ks pc nL : Nat} {lv : List (Nat × Value)} {st : List Value} {M : Mem} {b : ByteArray} {own : String} {ret : Option FieldType} {rm : Room} (h : OKm G b own nL ret rm) {x : Int32} {β : Type} {A B : Option β} {res : β} {off : Int} (tgt : Nat) (ht : (pc : Int) + off = (tgt : Int)) (hf : (if 0 < x then A else B) = some res) (hd : decode b pc = .ok (.ifCond .le off, 3)) (kt : B = some res → GG G Q kc ks tgt lv st M) (kf : A = some res → GG G Q kc ks (pc + 3) lv st M) : GG G Q kc ks pc lv (.int x :: st) M := by
  obtain ⟨w, p, l, e, R, s, m, args, below, meth, c⟩ := G
  obtain ⟨hx, hb, hml, hown, hts, hSS, hlk, hret, hR⟩ := h
  intro H locs ls hl hP hS
  exact lv_if_le hx hb hd ht (fun z => kt (by rw [if_neg (Int32.not_lt.mpr z)] at hf; exact hf) H locs ls hl hP hS) (fun z => kf (by rw [if_pos (Int32.not_le.mp z)] at hf; exact hf) H locs ls hl hP hS)
theorem g_ic_eq {G : GX} {Q : State → Prop} {kc ks pc nL : Nat} {lv : List (Nat × Value)} {st : List Value} {M : Mem} {b : ByteArray} {own : String} {ret : Option FieldType} {rm : Room} (h : OKm G b own nL ret rm) {x y : Int32} {β : Type} {A B : Option β} {res : β} {off : Int} (tgt : Nat) (ht : (pc : Int) + off = (tgt : Int)) (hf : (if x = y then A else B) = some res) (hd : decode b pc = .ok (.if_icmp .eq off, 3)) (kt : A = some res → GG G Q kc ks tgt lv st M) (kf : B = some res → GG G Q kc ks (pc + 3) lv st M) : GG G Q kc ks pc lv (.int y :: .int x :: st) M := by
  obtain ⟨w, p, l, e, R, s, m, args, below, meth, c⟩ := G
  obtain ⟨hx, hb, hml, hown, hts, hSS, hlk, hret, hR⟩ := h
  intro H locs ls hl hP hS
  exact lv_icmp_eq hx hb hd ht (fun z => kt (by rw [if_pos z] at hf; exact hf) H locs ls hl hP hS) (fun z => kf (by rw [if_neg z] at hf; exact hf) H locs ls hl hP hS)
theorem g_ic_ne {G : GX} {Q : State → Prop} {kc ks pc nL : Nat} {lv : List (Nat × Value)} {st : List Value} {M : Mem} {b : ByteArray} {own : String} {ret : Option FieldType} {rm : Room} (h : OKm G b own nL ret rm) {x y : Int32} {β : Type} {A B : Option β} {res : β} {off : Int} (tgt : Nat) (ht : (pc : Int) + off = (tgt : Int)) (hf : (if x = y then A else B) = some res) (hd : decode b pc = .ok (.if_icmp .ne off, 3)) (kt : B = some res → GG G Q kc ks tgt lv st M) (kf : A = some res → GG G Q kc ks (pc + 3) lv st M) : GG G Q kc ks pc lv (.int y :: .int x :: st) M := by
  obtain ⟨w, p, l, e, R, s, m, args, below, meth, c⟩ := G
  obtain ⟨hx, hb, hml, hown, hts, hSS, hlk, hret, hR⟩ := h
  intro H locs ls hl hP hS
  exact lv_icmp_ne hx hb hd ht (fun z => kt (by rw [if_neg z] at hf; exact hf) H locs ls hl hP hS) (fun z => kf (by rw [if_pos z] at hf; exact hf) H locs ls hl hP hS)
theorem g_ic_lt {G : GX} {Q : State → Prop} {kc ks pc nL : Nat} {lv : List (Nat × Value)} {st : List Value} {M : Mem} {b : ByteArray} {own : String} {ret : Option FieldType} {rm : Room} (h : OKm G b own nL ret rm) {x y : Int32} {β : Type} {A B : Option β} {res : β} {off : Int} (tgt : Nat) (ht : (pc : Int) + off = (tgt : Int)) (hf : (if x < y then A else B) = some res) (hd : decode b pc = .ok (.if_icmp .lt off, 3)) (kt : A = some res → GG G Q kc ks tgt lv st M) (kf : B = some res → GG G Q kc ks (pc + 3) lv st M) : GG G Q kc ks pc lv (.int y :: .int x :: st) M := by
  obtain ⟨w, p, l, e, R, s, m, args, below, meth, c⟩ := G
  obtain ⟨hx, hb, hml, hown, hts, hSS, hlk, hret, hR⟩ := h
  intro H locs ls hl hP hS
  exact lv_icmp_lt hx hb hd ht (fun z => kt (by rw [if_pos z] at hf; exact hf) H locs ls hl hP hS) (fun z => kf (by rw [if_neg z] at hf; exact hf) H locs ls hl hP hS)
theorem g_ic_ge {G : GX} {Q : State → Prop} {kc ks pc nL : Nat} {lv : List (Nat × Value)} {st : List Value} {M : Mem} {b : ByteArray} {own : String} {ret : Option FieldType} {rm : Room} (h : OKm G b own nL ret rm) {x y : Int32} {β : Type} {A B : Option β} {res : β} {off : Int} (tgt : Nat) (ht : (pc : Int) + off = (tgt : Int)) (hf : (if x < y then A else B) = some res) (hd : decode b pc = .ok (.if_icmp .ge off, 3)) (kt : B = some res → GG G Q kc ks tgt lv st M) (kf : A = some res → GG G Q kc ks (pc + 3) lv st M) : GG G Q kc ks pc lv (.int y :: .int x :: st) M := by
  obtain ⟨w, p, l, e, R, s, m, args, below, meth, c⟩ := G
  obtain ⟨hx, hb, hml, hown, hts, hSS, hlk, hret, hR⟩ := h
  intro H locs ls hl hP hS
  exact lv_icmp_ge hx hb hd ht (fun z => kt (by rw [if_neg (Int32.not_lt.mpr z)] at hf; exact hf) H locs ls hl hP hS) (fun z => kf (by rw [if_pos (Int32.not_le.mp z)] at hf; exact hf) H locs ls hl hP hS)
theorem g_ic_gt {G : GX} {Q : State → Prop} {kc ks pc nL : Nat} {lv : List (Nat × Value)} {st : List Value} {M : Mem} {b : ByteArray} {own : String} {ret : Option FieldType} {rm : Room} (h : OKm G b own nL ret rm) {x y : Int32} {β : Type} {A B : Option β} {res : β} {off : Int} (tgt : Nat) (ht : (pc : Int) + off = (tgt : Int)) (hf : (if y < x then A else B) = some res) (hd : decode b pc = .ok (.if_icmp .gt off, 3)) (kt : A = some res → GG G Q kc ks tgt lv st M) (kf : B = some res → GG G Q kc ks (pc + 3) lv st M) : GG G Q kc ks pc lv (.int y :: .int x :: st) M := by
  obtain ⟨w, p, l, e, R, s, m, args, below, meth, c⟩ := G
  obtain ⟨hx, hb, hml, hown, hts, hSS, hlk, hret, hR⟩ := h
  intro H locs ls hl hP hS
  exact lv_icmp_gt hx hb hd ht (fun z => kt (by rw [if_pos z] at hf; exact hf) H locs ls hl hP hS) (fun z => kf (by rw [if_neg z] at hf; exact hf) H locs ls hl hP hS)
theorem g_ic_le {G : GX} {Q : State → Prop} {kc ks pc nL : Nat} {lv : List (Nat × Value)} {st : List Value} {M : Mem} {b : ByteArray} {own : String} {ret : Option FieldType} {rm : Room} (h : OKm G b own nL ret rm) {x y : Int32} {β : Type} {A B : Option β} {res : β} {off : Int} (tgt : Nat) (ht : (pc : Int) + off = (tgt : Int)) (hf : (if y < x then A else B) = some res) (hd : decode b pc = .ok (.if_icmp .le off, 3)) (kt : B = some res → GG G Q kc ks tgt lv st M) (kf : A = some res → GG G Q kc ks (pc + 3) lv st M) : GG G Q kc ks pc lv (.int y :: .int x :: st) M := by
  obtain ⟨w, p, l, e, R, s, m, args, below, meth, c⟩ := G
  obtain ⟨hx, hb, hml, hown, hts, hSS, hlk, hret, hR⟩ := h
  intro H locs ls hl hP hS
  exact lv_icmp_le hx hb hd ht (fun z => kt (by rw [if_neg (Int32.not_lt.mpr z)] at hf; exact hf) H locs ls hl hP hS) (fun z => kf (by rw [if_pos (Int32.not_le.mp z)] at hf; exact hf) H locs ls hl hP hS)
theorem g_tabIn {G : GX} {Q : State → Prop} {kc ks pc nL : Nat} {lv : List (Nat × Value)} {st : List Value} {M : Mem} {b : ByteArray} {own : String} {ret : Option FieldType} {rm : Room} (h : OKm G b own nL ret rm) {x : Int32} {dflt lo hi : Int} {offs : Array Int} {len : Nat} {off : Int} (tgt : Nat) (h1 : ¬ x.toInt < lo) (h2 : ¬ hi < x.toInt) (ho : offs[(x.toInt - lo).toNat]? = some off) (ht : (pc : Int) + off = (tgt : Int)) (hd : decode b pc = .ok (.tableswitch dflt lo hi offs, len)) (k : GG G Q kc ks tgt lv st M) : GG G Q kc ks pc lv (.int x :: st) M := by
  obtain ⟨w, p, l, e, R, s, m, args, below, meth, c⟩ := G
  obtain ⟨hx, hb, hml, hown, hts, hSS, hlk, hret, hR⟩ := h
  intro H locs ls hl hP hS
  exact lv_tableIn hx hb hd h1 h2 ho ht (k H locs ls hl hP hS)
theorem g_tabOut {G : GX} {Q : State → Prop} {kc ks pc nL : Nat} {lv : List (Nat × Value)} {st : List Value} {M : Mem} {b : ByteArray} {own : String} {ret : Option FieldType} {rm : Room} (h : OKm G b own nL ret rm) {x : Int32} {dflt lo hi : Int} {offs : Array Int} {len : Nat} (tgt : Nat) (h1 : x.toInt < lo ∨ hi < x.toInt) (ht : (pc : Int) + dflt = (tgt : Int)) (hd : decode b pc = .ok (.tableswitch dflt lo hi offs, len)) (k : GG G Q kc ks tgt lv st M) : GG G Q kc ks pc lv (.int x :: st) M := by
  obtain ⟨w, p, l, e, R, s, m, args, below, meth, c⟩ := G
  obtain ⟨hx, hb, hml, hown, hts, hSS, hlk, hret, hR⟩ := h
  intro H locs ls hl hP hS
  exact lv_tableOut hx hb hd h1 ht (k H locs ls hl hP hS)
theorem g_lookup {G : GX} {Q : State → Prop} {kc ks pc nL : Nat} {lv : List (Nat × Value)} {st : List Value} {M : Mem} {b : ByteArray} {own : String} {ret : Option FieldType} {rm : Room} (h : OKm G b own nL ret rm) {x : Int32} {dflt : Int} {ps : Array (Int × Int)} {len : Nat} {off : Int} (tgt : Nat) (hp : (ps.toList.zip (ps.toList.drop 1)).all (fun (a, next) => a.1 < next.1) = true) (ho : Op.lookupswitch.offset ps.toList dflt x.toInt = off) (ht : (pc : Int) + off = (tgt : Int)) (hd : decode b pc = .ok (.lookupswitch dflt ps, len)) (k : GG G Q kc ks tgt lv st M) : GG G Q kc ks pc lv (.int x :: st) M := by
  obtain ⟨w, p, l, e, R, s, m, args, below, meth, c⟩ := G
  obtain ⟨hx, hb, hml, hown, hts, hSS, hlk, hret, hR⟩ := h
  intro H locs ls hl hP hS
  exact lv_lookup hx hb hd hp ho ht (k H locs ls hl hP hS)
theorem g_sub {G : GX} {Q : State → Prop} {kc ks pc nL : Nat} {lv : List (Nat × Value)} {st : List Value} {M : Mem} {b : ByteArray} {own : String} {ret : Option FieldType} {rm : Room} (h : OKm G b own nL ret rm) (is : List Nat) {lv' : List (Nat × Value)} (hv : lv_pick lv is = lv') (k : GG G Q kc ks pc lv' st M) : GG G Q kc ks pc lv (st) M := by
  obtain ⟨w, p, l, e, R, s, m, args, below, meth, c⟩ := G
  obtain ⟨hx, hb, hml, hown, hts, hSS, hlk, hret, hR⟩ := h
  intro H locs ls hl hP hS
  exact k H locs ls (lv_sub hl is hv) hP hS
theorem g_cs {G : GX} {Q : State → Prop} {kc ks pc nL : Nat} {lv : List (Nat × Value)} {st : List Value} {M : Mem} {b : ByteArray} {own : String} {ret : Option FieldType} {rm : Room} (h : OKm G b own nL ret rm) {kc' ks' : Nat} (hk : kc ≤ kc') (hk2 : ks ≤ ks') (k : GG G Q kc' ks' pc lv st M) : GG G Q kc ks pc lv (st) M := by
  obtain ⟨w, p, l, e, R, s, m, args, below, meth, c⟩ := G
  obtain ⟨hx, hb, hml, hown, hts, hSS, hlk, hret, hR⟩ := h
  intro H locs ls hl hP hS
  exact W.widen hk hk2 (k H locs ls hl hP hS)
theorem g_ldc {G : GX} {Q : State → Prop} {kc ks pc nL : Nat} {lv : List (Nat × Value)} {st : List Value} {M : Mem} {b : ByteArray} {own : String} {ret : Option FieldType} {rm : Room} (h : OKm G b own nL ret rm) (idx : Nat) {v : Int32} (hc : Cond.constant own idx v ∈ LW) (hd : decode b pc = .ok (.ldc idx, 2)) (k : GG G Q kc ks (pc + 2) lv (.int v :: st) M) : GG G Q kc ks pc lv (st) M := by
  obtain ⟨w, p, l, e, R, s, m, args, below, meth, c⟩ := G
  obtain ⟨hx, hb, hml, hown, hts, hSS, hlk, hret, hR⟩ := h
  intro H locs ls hl hP hS
  exact lv_ldc hx hb hown (hts _ hc) hd (k H locs ls hl hP hS)
theorem g_ldcw {G : GX} {Q : State → Prop} {kc ks pc nL : Nat} {lv : List (Nat × Value)} {st : List Value} {M : Mem} {b : ByteArray} {own : String} {ret : Option FieldType} {rm : Room} (h : OKm G b own nL ret rm) (idx : Nat) {v : Int32} (hc : Cond.constant own idx v ∈ LW) (hd : decode b pc = .ok (.ldc_w idx, 3)) (k : GG G Q kc ks (pc + 3) lv (.int v :: st) M) : GG G Q kc ks pc lv (st) M := by
  obtain ⟨w, p, l, e, R, s, m, args, below, meth, c⟩ := G
  obtain ⟨hx, hb, hml, hown, hts, hSS, hlk, hret, hR⟩ := h
  intro H locs ls hl hP hS
  exact lv_ldcw hx hb hown (hts _ hc) hd (k H locs ls hl hP hS)
theorem g_ldc2 {G : GX} {Q : State → Prop} {kc ks pc nL : Nat} {lv : List (Nat × Value)} {st : List Value} {M : Mem} {b : ByteArray} {own : String} {ret : Option FieldType} {rm : Room} (h : OKm G b own nL ret rm) (idx : Nat) {v : Int64} (hc : Cond.constantLong own idx v ∈ LW) (hd : decode b pc = .ok (.ldc2_w idx, 3)) (k : GG G Q kc ks (pc + 3) lv (.long v :: st) M) : GG G Q kc ks pc lv (st) M := by
  obtain ⟨w, p, l, e, R, s, m, args, below, meth, c⟩ := G
  obtain ⟨hx, hb, hml, hown, hts, hSS, hlk, hret, hR⟩ := h
  intro H locs ls hl hP hS
  exact lv_ldc2 hx hb hown (hts _ hc) hd (k H locs ls hl hP hS)
