/-- the script that the law is given -/
def SCR (G : GX) (zb L : Nat) (xs : Nat → Int32) : Prop := va_X zb L xs G.2.2.2.2.2.1 G.2.2.2.2.2.1.heap ∧ zb < G.2.2.2.2.2.1.heap.size ∧ ¬ AA G.1 zb
def RTL (G : GX) (QL : Int32 → State → Prop) : Prop := ∀ (x : Int32) (kc ks pc : Nat) (lv : List (Nat × Value)) (M : Mem), kc ≤ 600000 → ks ≤ 7000000 → decode cL_law pc = .ok (.ireturn, 1) → GG G (QL x) kc ks pc lv [.int x] M
def ldX {β : Type} (xs : Nat → Int32) (L : Nat) (i : Int32) (k : Int32 → Option β) : Option β := if i < 0 ∨ L ≤ i.toNatClampNeg then none else k (xs i.toNatClampNeg)
theorem g_aload_nX {G : GX} {Q : State → Prop} {kc ks pc nL : Nat} {lv : List (Nat × Value)} {st : List Value} {M : Mem} {b : ByteArray} {own : String} {ret : Option FieldType} {rm : Room} (h : OKm G b own nL ret rm) (q : Nat) {k4 : Fin 4} {i : Nat} (hq : lv[q]? = some ((k4 : Nat), Value.ref i)) (hd : decode b pc = .ok (.aload_n k4, 1)) (k : GG G Q kc ks (pc + 1) lv (.ref i :: st) M) : GG G Q kc ks pc lv st M := by
  obtain ⟨w, p, l, e, R, s, m, args, below, meth, c⟩ := G
  obtain ⟨hx, hb, hml, hown, hts, hSS, hlk, hret, hR⟩ := h
  intro H locs ls hl hP hS
  exact lv_aload_n hx hb hd rfl (lv_at hl q hq) (k H locs ls hl hP hS)
theorem g_sld {G : GX} {Q : State → Prop} {kc ks pc nL : Nat} {lv : List (Nat × Value)} {st : List Value} {M : Mem} {b : ByteArray} {own : String} {ret : Option FieldType} {rm : Room} (h : OKm G b own nL ret rm) {zb L : Nat} {xs : Nat → Int32} (zS : SCR G zb L xs) {i : Int32} {β : Type} {kf : Int32 → Option β} {res : β} (hf : ldX xs L i kf = some res) (hd : decode b pc = .ok (.iaload, 1)) (kk : ∀ x, kf x = some res → GG G Q kc ks (pc + 1) lv (.int x :: st) M) : GG G Q kc ks pc lv (.int i :: .ref zb :: st) M := by
  obtain ⟨w, p, l, e, R, s, m, args, below, meth, c⟩ := G
  obtain ⟨hx, hb, hml, hown, hts, hSS, hlk, hret, hR⟩ := h
  intro H locs ls hl hP hS
  obtain ⟨hin, hk⟩ := pre_if hf
  exact va_sld hx hb zS.1 zS.2.1 zS.2.2 hS hin hd (kk _ hk H locs ls hl hP hS)
theorem g_slen {G : GX} {Q : State → Prop} {kc ks pc nL : Nat} {lv : List (Nat × Value)} {st : List Value} {M : Mem} {b : ByteArray} {own : String} {ret : Option FieldType} {rm : Room} (h : OKm G b own nL ret rm) {zb L : Nat} {xs : Nat → Int32} (zS : SCR G zb L xs) (hd : decode b pc = .ok (.arraylength, 1)) (k : GG G Q kc ks (pc + 1) lv (.int (Int32.ofNat L) :: st) M) : GG G Q kc ks pc lv (.ref zb :: st) M := by
  obtain ⟨w, p, l, e, R, s, m, args, below, meth, c⟩ := G
  obtain ⟨hx, hb, hml, hown, hts, hSS, hlk, hret, hR⟩ := h
  intro H locs ls hl hP hS
  exact va_slen hx hb zS.1 zS.2.1 zS.2.2 hS hd (k H locs ls hl hP hS)
theorem g_callSW {G : GX} {Q : State → Prop} {kc ks pc nL : Nat} {lv : List (Nat × Value)} {st : List Value} {M : Mem} {b : ByteArray} {own : String} {ret : Option FieldType} {rm : Room} (h : OKm G b own nL ret rm) {idx n maxL mc ms : Nat} {y : MethodName} {bytes : ByteArray} {ret1 : Option FieldType} {hh : List (Nat × Nat × Nat × Nat)} {rm1 : Room} {As rest : List Value} {r : Int32} {M1 : Mem} (hcd : Cond.codeWith y bytes maxL ret1 hh ∈ LW) (hini : Cond.initialized y.cls ∈ LW) (hy : y.cls ≠ "java/lang/invoke/MethodHandle" ∧ y.cls ≠ "java/lang/invoke/VarHandle" ∧ (parseMethodDescriptor y.desc).map (fun d => d.parameters.length) = some n) (hmk : Cond.methodLink own idx y ∈ LW) (hst0 : Cond.static y ∈ LW) (hrc : rm1.cells = mc) (hrs : rm1.slots = ms) (hRR : rm1.frames + 1 ≤ rm.frames ∧ 8 + (maxL + 11) + rm1.locals ≤ rm.locals) (hroom : kc + mc ≤ rm.cells ∧ ks + ms ≤ rm.slots) (hn : As.length = n) (hd : decode b pc = .ok (.invokestatic idx, 3)) (hst : st = As.reverse ++ rest) (hcat : (rest.map fun v => v.category).sum ≤ 8) (cm : CMw G.2.2.1 G.1 y bytes maxL ret1 hh rm1 mc ms As M (Pwi (r, M1))) (k : GG G Q (kc + mc) (ks + ms) (pc + 3) lv (.int r :: rest) M1) : GG G Q kc ks pc lv st M := by
  obtain ⟨w, p, l, e, R, s, m, args, below, meth, c⟩ := G
  obtain ⟨hx, hb, hml, hown, hts, hSS, hlk, hret, hR⟩ := h
  intro H locs ls hl hP hS
  subst hR
  subst hst
  have hG : GoodIn LW (va_wsS own idx y (Cond.codeWith y bytes maxL ret1 hh :: LW)) := by
    intro x hx9
    have hx8 : x ∈ ([.methodLink own idx y, .static y, .initialized y.cls] : List Cond) ++ (Cond.codeWith y bytes maxL ret1 hh :: LW) := hx9
    have hm : x ∈ LW := by
      rcases List.mem_append.mp hx8 with q | q
      · rcases List.mem_cons.mp q with rfl | q
        · exact hmk
        · rcases List.mem_cons.mp q with rfl | q
          · exact hst0
          · rcases List.mem_cons.mp q with rfl | q
            · exact hini
            · cases q
      · rcases List.mem_cons.mp q with rfl | q
        · exact hcd
        · exact q
    exact ⟨hm, good_of_word (LW_good hm)⟩
  have cw : vx_CSW R s args own idx y bytes maxL ret1 hh (Cond.codeWith y bytes maxL ret1 hh :: LW) rm1 mc ms n := vx_cwSW n hts hG rfl hrc hrs hy hRR
  exact g_back (vx_runSW (As := As) (rest := rest) ⟨hx, hb, hml, hown, hts⟩ cm cw ⟨CM_blind, fun U hU hW => ⟨rfl, by rw [hU]; exact hP, hSS.to hW hS hU⟩⟩ rfl hn (hl.1.trans hml) rfl (lv_room hcat) hd hroom) hS hl (fun z M2 hp => by obtain ⟨rfl, rfl⟩ := hp; exact k)
def fL_law_b2164 (xs : Nat → Int32) (L : Nat) (a23 : Mem → Int32 → Option Int32) (M : Mem) (x4 : Int32) : Option Int32 :=
  pu (x4 + 6) fun vq17 =>
  a23 M vq17

def fL_law_b212 (xs : Nat → Int32) (L : Nat) (a23 : Mem → Int32 → Option Int32) (M : Mem) (x4 : Int32) : Option Int32 :=
  ldX xs L (x4 + 1) fun vq3 =>
  ldX xs L (x4 + 2) fun vq4 =>
  ldX xs L (x4 + 3) fun vq5 =>
  ldX xs L (x4 + 4) fun vq6 =>
  ldX xs L (x4 + 5) fun vq7 =>
  b2 (fX12_feed M vq3 vq4 vq5 vq6 vq7) fun vq8 Mq9 =>
  ldX xs L (x4 + 1) fun vq10 =>
  ldX xs L (x4 + 2) fun vq11 =>
  ldX xs L (x4 + 3) fun vq12 =>
  ldX xs L (x4 + 4) fun vq13 =>
  ldX xs L (x4 + 5) fun vq14 =>
  b2 (fX13_feed Mq9 vq10 vq11 vq12 vq13 vq14) fun vq15 Mq16 =>
  if vq8 = vq15 then
    fL_law_b2164 xs L a23 Mq16 x4
  else
    some (0)

def fL_law_b285 (xs : Nat → Int32) (L : Nat) (a23 : Mem → Int32 → Option Int32) (M : Mem) (x4 : Int32) : Option Int32 :=
  ldX xs L (x4 + 1) fun vq18 =>
  b2 (fL_land M vq18) fun vq19 Mq20 =>
  ldX xs L (x4 + 1) fun vq21 =>
  b2 (fX13_land Mq20 vq21) fun vq22 Mq23 =>
  b1 (fX13_thrown Mq23) fun vq24 =>
  if vq24 = vq19 then
    if vq19 = 0 then
      ldL Mq23 144 1 (0) fun vq25 =>
      if lg_cmp (vq25) (Int32.toInt64 vq22) = 0 then
        fL_law_b2164 xs L a23 Mq23 x4
      else
        some (0)
    else
      fL_law_b2164 xs L a23 Mq23 x4
  else
    some (0)

def fL_law_b341 (xs : Nat → Int32) (L : Nat) (a23 : Mem → Int32 → Option Int32) (M : Mem) (x4 : Int32) : Option Int32 :=
  b1 (fX12_fault M) fun vq26 =>
  b2 (fX13_fault M) fun vq27 Mq28 =>
  if vq26 = vq27 then
    fL_law_b2164 xs L a23 Mq28 x4
  else
    some (0)

def fL_law_b354 (xs : Nat → Int32) (L : Nat) (a23 : Mem → Int32 → Option Int32) (M : Mem) (x4 : Int32) : Option Int32 :=
  ldX xs L (x4 + 1) fun vq29 =>
  b2 (fL_count M vq29) fun vq30 Mq31 =>
  ldX xs L (x4 + 1) fun vq32 =>
  b2 (fX13_count Mq31 vq32) fun vq33 Mq34 =>
  b1 (fX13_thrown Mq34) fun vq35 =>
  if vq35 = vq30 then
    if vq30 = 0 then
      ldL Mq34 144 1 (0) fun vq36 =>
      if lg_cmp (vq36) (Int32.toInt64 vq33) = 0 then
        fL_law_b2164 xs L a23 Mq34 x4
      else
        some (0)
    else
      fL_law_b2164 xs L a23 Mq34 x4
  else
    some (0)

def fL_law_b410 (xs : Nat → Int32) (L : Nat) (a23 : Mem → Int32 → Option Int32) (M : Mem) (x4 : Int32) : Option Int32 :=
  ldX xs L (x4 + 1) fun vq37 =>
  ldX xs L (x4 + 2) fun vq38 =>
  b2 (fL_deed M vq37 vq38) fun vq39 Mq40 =>
  ldX xs L (x4 + 1) fun vq41 =>
  ldX xs L (x4 + 2) fun vq42 =>
  b2 (fX13_deed Mq40 vq41 vq42) fun vq43 Mq44 =>
  b1 (fX13_thrown Mq44) fun vq45 =>
  if vq45 = vq39 then
    if vq39 = 0 then
      ldL Mq44 144 1 (0) fun vq46 =>
      if lg_cmp (vq46) (Int32.toInt64 vq43) = 0 then
        fL_law_b2164 xs L a23 Mq44 x4
      else
        some (0)
    else
      fL_law_b2164 xs L a23 Mq44 x4
  else
    some (0)

def fL_law_b478 (xs : Nat → Int32) (L : Nat) (a23 : Mem → Int32 → Option Int32) (M : Mem) (x4 : Int32) : Option Int32 :=
  ldX xs L (x4 + 1) fun vq47 =>
  ldX xs L (x4 + 2) fun vq48 =>
  b2 (fL_brother M vq47 vq48) fun vq49 Mq50 =>
  ldX xs L (x4 + 1) fun vq51 =>
  ldX xs L (x4 + 2) fun vq52 =>
  b2 (fX13_brother Mq50 vq51 vq52) fun vq53 Mq54 =>
  b1 (fX13_thrown Mq54) fun vq55 =>
  if vq55 = vq49 then
    if vq49 = 0 then
      ldL Mq54 144 1 (0) fun vq56 =>
      if lg_cmp (vq56) (Int32.toInt64 vq53) = 0 then
        fL_law_b2164 xs L a23 Mq54 x4
      else
        some (0)
    else
      fL_law_b2164 xs L a23 Mq54 x4
  else
    some (0)

def fL_law_b546 (xs : Nat → Int32) (L : Nat) (a23 : Mem → Int32 → Option Int32) (M : Mem) (x4 : Int32) : Option Int32 :=
  ldX xs L (x4 + 1) fun vq57 =>
  ldX xs L (x4 + 2) fun vq58 =>
  b2 (fL_way M vq57 vq58) fun vq59 Mq60 =>
  ldX xs L (x4 + 1) fun vq61 =>
  ldX xs L (x4 + 2) fun vq62 =>
  b2 (fX13_way Mq60 vq61 vq62) fun vq63 Mq64 =>
  b1 (fX13_thrown Mq64) fun vq65 =>
  if vq65 = vq59 then
    if vq59 = 0 then
      ldL Mq64 144 1 (0) fun vq66 =>
      if lg_cmp (vq66) (Int32.toInt64 vq63) = 0 then
        fL_law_b2164 xs L a23 Mq64 x4
      else
        some (0)
    else
      fL_law_b2164 xs L a23 Mq64 x4
  else
    some (0)

def fL_law_b614 (xs : Nat → Int32) (L : Nat) (a23 : Mem → Int32 → Option Int32) (M : Mem) (x4 : Int32) : Option Int32 :=
  ldX xs L (x4 + 1) fun vq67 =>
  ldX xs L (x4 + 2) fun vq68 =>
  b2 (fL_friend M vq67 vq68) fun vq69 Mq70 =>
  ldX xs L (x4 + 1) fun vq71 =>
  ldX xs L (x4 + 2) fun vq72 =>
  b2 (fX13_friend Mq70 vq71 vq72) fun vq73 Mq74 =>
  b1 (fX13_thrown Mq74) fun vq75 =>
  if vq75 = vq69 then
    if vq69 = 0 then
      ldL Mq74 144 1 (0) fun vq76 =>
      if lg_cmp (vq76) (Int32.toInt64 vq73) = 0 then
        fL_law_b2164 xs L a23 Mq74 x4
      else
        some (0)
    else
      fL_law_b2164 xs L a23 Mq74 x4
  else
    some (0)

def fL_law_b682 (xs : Nat → Int32) (L : Nat) (a23 : Mem → Int32 → Option Int32) (M : Mem) (x4 : Int32) : Option Int32 :=
  ldX xs L (x4 + 1) fun vq77 =>
  b2 (fX12_years M vq77) fun vq78 Mq79 =>
  ldX xs L (x4 + 1) fun vq80 =>
  b2 (fX13_years Mq79 vq80) fun vq81 Mq82 =>
  if vq78 = vq81 then
    fL_law_b2164 xs L a23 Mq82 x4
  else
    some (0)

def fL_law_b707 (xs : Nat → Int32) (L : Nat) (a23 : Mem → Int32 → Option Int32) (M : Mem) (x4 : Int32) : Option Int32 :=
  ldX xs L (x4 + 1) fun vq83 =>
  ldX xs L (x4 + 2) fun vq84 =>
  ldX xs L (x4 + 3) fun vq85 =>
  b2 (fL_change M vq83 vq84 vq85) fun vq86 Mq87 =>
  ldX xs L (x4 + 1) fun vq88 =>
  ldX xs L (x4 + 2) fun vq89 =>
  ldX xs L (x4 + 3) fun vq90 =>
  b2 (fX13_change Mq87 vq88 vq89 vq90) fun vq91 Mq92 =>
  b1 (fX13_thrown Mq92) fun vq93 =>
  if vq93 = vq86 then
    if vq86 = 0 then
      ldL Mq92 144 1 (0) fun vq94 =>
      if lg_cmp (vq94) (Int32.toInt64 vq91) = 0 then
        fL_law_b2164 xs L a23 Mq92 x4
      else
        some (0)
    else
      fL_law_b2164 xs L a23 Mq92 x4
  else
    some (0)

def fL_law_b787 (xs : Nat → Int32) (L : Nat) (a23 : Mem → Int32 → Option Int32) (M : Mem) (x4 : Int32) : Option Int32 :=
  ldX xs L (x4 + 1) fun vq95 =>
  b2 (fX12_term M vq95) fun vq96 Mq97 =>
  ldX xs L (x4 + 1) fun vq98 =>
  b2 (fX13_term Mq97 vq98) fun vq99 Mq100 =>
  if vq96 = vq99 then
    fL_law_b2164 xs L a23 Mq100 x4
  else
    some (0)

def fL_law_b812 (xs : Nat → Int32) (L : Nat) (a23 : Mem → Int32 → Option Int32) (M : Mem) (x4 : Int32) : Option Int32 :=
  ldX xs L (x4 + 1) fun vq101 =>
  b2 (fX12_loan M vq101) fun vq102 Mq103 =>
  ldX xs L (x4 + 1) fun vq104 =>
  b2 (fX13_loan Mq103 vq104) fun vq105 Mq106 =>
  if vq102 = vq105 then
    fL_law_b2164 xs L a23 Mq106 x4
  else
    some (0)

def fL_law_b837 (xs : Nat → Int32) (L : Nat) (a23 : Mem → Int32 → Option Int32) (M : Mem) (x4 : Int32) : Option Int32 :=
  ldX xs L (x4 + 1) fun vq107 =>
  ldX xs L (x4 + 2) fun vq108 =>
  b2 (fL_gift M vq107 vq108) fun vq109 Mq110 =>
  ldX xs L (x4 + 1) fun vq111 =>
  ldX xs L (x4 + 2) fun vq112 =>
  b2 (fX13_gift Mq110 vq111 vq112) fun vq113 Mq114 =>
  b1 (fX13_thrown Mq114) fun vq115 =>
  if vq115 = vq109 then
    if vq109 = 0 then
      ldL Mq114 144 1 (0) fun vq116 =>
      if lg_cmp (vq116) (Int32.toInt64 vq113) = 0 then
        fL_law_b2164 xs L a23 Mq114 x4
      else
        some (0)
    else
      fL_law_b2164 xs L a23 Mq114 x4
  else
    some (0)

def fL_law_b905 (xs : Nat → Int32) (L : Nat) (a23 : Mem → Int32 → Option Int32) (M : Mem) (x4 : Int32) : Option Int32 :=
  b2 (fX12_undo M) fun vq117 Mq118 =>
  b2 (fX13_undo Mq118) fun vq119 Mq120 =>
  if vq117 = vq119 then
    fL_law_b2164 xs L a23 Mq120 x4
  else
    some (0)

def fL_law_b918 (xs : Nat → Int32) (L : Nat) (a23 : Mem → Int32 → Option Int32) (M : Mem) (x4 : Int32) : Option Int32 :=
  ldX xs L (x4 + 1) fun vq121 =>
  ldX xs L (x4 + 2) fun vq122 =>
  b2 (fL_then M vq121 vq122) fun vq123 Mq124 =>
  ldX xs L (x4 + 1) fun vq125 =>
  ldX xs L (x4 + 2) fun vq126 =>
  b2 (fX13_then Mq124 vq125 vq126) fun vq127 Mq128 =>
  b1 (fX13_thrown Mq128) fun vq129 =>
  if vq129 = vq123 then
    if vq123 = 0 then
      ldL Mq128 144 1 (0) fun vq130 =>
      if lg_cmp (vq130) (Int32.toInt64 vq127) = 0 then
        fL_law_b2164 xs L a23 Mq128 x4
      else
        some (0)
    else
      fL_law_b2164 xs L a23 Mq128 x4
  else
    some (0)

def fL_law_b986 (xs : Nat → Int32) (L : Nat) (a23 : Mem → Int32 → Option Int32) (M : Mem) (x4 : Int32) : Option Int32 :=
  ldX xs L (x4 + 1) fun vq131 =>
  b2 (fL_stays M vq131) fun vq132 Mq133 =>
  ldX xs L (x4 + 1) fun vq134 =>
  b2 (fX13_stays Mq133 vq134) fun vq135 Mq136 =>
  b1 (fX13_thrown Mq136) fun vq137 =>
  if vq137 = vq132 then
    if vq132 = 0 then
      ldL Mq136 144 1 (0) fun vq138 =>
      if lg_cmp (vq138) (Int32.toInt64 vq135) = 0 then
        fL_law_b2164 xs L a23 Mq136 x4
      else
        some (0)
    else
      fL_law_b2164 xs L a23 Mq136 x4
  else
    some (0)

def fL_law_b1042 (xs : Nat → Int32) (L : Nat) (a23 : Mem → Int32 → Option Int32) (M : Mem) (x4 : Int32) : Option Int32 :=
  b2 (fX12_fair M) fun vq139 Mq140 =>
  b2 (fX13_fair Mq140) fun vq141 Mq142 =>
  if vq139 = vq141 then
    fL_law_b2164 xs L a23 Mq142 x4
  else
    some (0)

def fL_law_b1055 (xs : Nat → Int32) (L : Nat) (a23 : Mem → Int32 → Option Int32) (M : Mem) (x4 : Int32) : Option Int32 :=
  b2 (fX12_least M) fun vq143 Mq144 =>
  b2 (fX13_least Mq144) fun vq145 Mq146 =>
  if vq143 = vq145 then
    fL_law_b2164 xs L a23 Mq146 x4
  else
    some (0)

def fL_law_b1068 (xs : Nat → Int32) (L : Nat) (a23 : Mem → Int32 → Option Int32) (M : Mem) (x4 : Int32) : Option Int32 :=
  ldX xs L (x4 + 1) fun vq147 =>
  b2 (fL_cost M vq147) fun vq148 Mq149 =>
  ldX xs L (x4 + 1) fun vq150 =>
  b2 (fX13_cost Mq149 vq150) fun vq151 Mq152 =>
  b1 (fX13_thrown Mq152) fun vq153 =>
  if vq153 = vq148 then
    if vq148 = 0 then
      ldL Mq152 144 1 (0) fun vq154 =>
      if lg_cmp (vq154) (Int32.toInt64 vq151) = 0 then
        fL_law_b2164 xs L a23 Mq152 x4
      else
        some (0)
    else
      fL_law_b2164 xs L a23 Mq152 x4
  else
    some (0)

def fL_law_b1124 (xs : Nat → Int32) (L : Nat) (a23 : Mem → Int32 → Option Int32) (M : Mem) (x4 : Int32) : Option Int32 :=
  ldX xs L (x4 + 1) fun vq155 =>
  ldX xs L (x4 + 2) fun vq156 =>
  b2 (fL_plan M vq155 vq156) fun vq157 Mq158 =>
  ldX xs L (x4 + 1) fun vq159 =>
  ldX xs L (x4 + 2) fun vq160 =>
  b2 (fX13_plan Mq158 vq159 vq160) fun vq161 Mq162 =>
  b1 (fX13_thrown Mq162) fun vq163 =>
  if vq163 = vq157 then
    if vq157 = 0 then
      ldL Mq162 144 1 (0) fun vq164 =>
      if lg_cmp (vq164) (Int32.toInt64 vq161) = 0 then
        fL_law_b2164 xs L a23 Mq162 x4
      else
        some (0)
    else
      fL_law_b2164 xs L a23 Mq162 x4
  else
    some (0)

def fL_law_b1258 (xs : Nat → Int32) (L : Nat) (a23 : Mem → Int32 → Option Int32) (M : Mem) (x4 : Int32) (s0 : Int64) (s1 : Int64) : Option Int32 :=
  if lg_cmp (s1) (s0) = 0 then
    fL_law_b2164 xs L a23 M x4
  else
    some (0)

def fL_law_b1192 (xs : Nat → Int32) (L : Nat) (a23 : Mem → Int32 → Option Int32) (M : Mem) (x4 : Int32) : Option Int32 :=
  ldX xs L (x4 + 1) fun vq165 =>
  ldX xs L (x4 + 2) fun vq166 =>
  b2 (fL_wins M vq165 vq166) fun vq167 Mq168 =>
  ldX xs L (x4 + 1) fun vq169 =>
  ldX xs L (x4 + 2) fun vq170 =>
  b2 (fX13_wins Mq168 vq169 vq170) fun vq171 Mq172 =>
  b1 (fX13_thrown Mq172) fun vq173 =>
  if vq173 = vq167 then
    if vq167 = 0 then
      ldL Mq172 144 1 (0) fun vq174 =>
      if vq171 = 0 then
        fL_law_b1258 xs L a23 Mq172 x4 0 vq174
      else
        fL_law_b1258 xs L a23 Mq172 x4 1 vq174
    else
      fL_law_b2164 xs L a23 Mq172 x4
  else
    some (0)

def fL_law_b1267 (xs : Nat → Int32) (L : Nat) (a23 : Mem → Int32 → Option Int32) (M : Mem) (x4 : Int32) : Option Int32 :=
  ldX xs L (x4 + 1) fun vq175 =>
  b2 (fL_assault M vq175) fun vq176 Mq177 =>
  ldX xs L (x4 + 1) fun vq178 =>
  b2 (fX13_assault Mq177 vq178) fun vq179 Mq180 =>
  b1 (fX13_thrown Mq180) fun vq181 =>
  if vq181 = vq176 then
    if vq176 = 0 then
      ldL Mq180 144 1 (0) fun vq182 =>
      if lg_cmp (vq182) (Int32.toInt64 vq179) = 0 then
        fL_law_b2164 xs L a23 Mq180 x4
      else
        some (0)
    else
      fL_law_b2164 xs L a23 Mq180 x4
  else
    some (0)

def fL_law_b1323 (xs : Nat → Int32) (L : Nat) (a23 : Mem → Int32 → Option Int32) (M : Mem) (x4 : Int32) : Option Int32 :=
  ldX xs L (x4 + 1) fun vq183 =>
  b2 (fL_bought M vq183) fun vq184 Mq185 =>
  ldX xs L (x4 + 1) fun vq186 =>
  b2 (fX13_bought Mq185 vq186) fun vq187 Mq188 =>
  b1 (fX13_thrown Mq188) fun vq189 =>
  if vq189 = vq184 then
    if vq184 = 0 then
      ldL Mq188 144 1 (0) fun vq190 =>
      if lg_cmp (vq190) (Int32.toInt64 vq187) = 0 then
        fL_law_b2164 xs L a23 Mq188 x4
      else
        some (0)
    else
      fL_law_b2164 xs L a23 Mq188 x4
  else
    some (0)

def fL_law_b1379 (xs : Nat → Int32) (L : Nat) (a23 : Mem → Int32 → Option Int32) (M : Mem) (x4 : Int32) : Option Int32 :=
  ldX xs L (x4 + 1) fun vq191 =>
  ldX xs L (x4 + 2) fun vq192 =>
  ldX xs L (x4 + 3) fun vq193 =>
  b2 (fL_odds M vq191 vq192 vq193) fun vq194 Mq195 =>
  ldX xs L (x4 + 1) fun vq196 =>
  ldX xs L (x4 + 2) fun vq197 =>
  ldX xs L (x4 + 3) fun vq198 =>
  b2 (fX13_odds Mq195 vq196 vq197 vq198) fun vq199 Mq200 =>
  b1 (fX13_thrown Mq200) fun vq201 =>
  if vq201 = vq194 then
    if vq194 = 0 then
      ldL Mq200 144 1 (0) fun vq202 =>
      if lg_cmp (vq202) (Int32.toInt64 vq199) = 0 then
        fL_law_b2164 xs L a23 Mq200 x4
      else
        some (0)
    else
      fL_law_b2164 xs L a23 Mq200 x4
  else
    some (0)

def fL_law_b1459 (xs : Nat → Int32) (L : Nat) (a23 : Mem → Int32 → Option Int32) (M : Mem) (x4 : Int32) : Option Int32 :=
  ldX xs L (x4 + 1) fun vq203 =>
  ldX xs L (x4 + 2) fun vq204 =>
  b2 (fL_moved M vq203 vq204) fun vq205 Mq206 =>
  ldX xs L (x4 + 1) fun vq207 =>
  ldX xs L (x4 + 2) fun vq208 =>
  b2 (fX13_moved Mq206 vq207 vq208) fun vq209 Mq210 =>
  b1 (fX13_thrown Mq210) fun vq211 =>
  if vq211 = vq205 then
    if vq205 = 0 then
      ldL Mq210 144 1 (0) fun vq212 =>
      if lg_cmp (vq212) (Int32.toInt64 vq209) = 0 then
        fL_law_b2164 xs L a23 Mq210 x4
      else
        some (0)
    else
      fL_law_b2164 xs L a23 Mq210 x4
  else
    some (0)

def fL_law_b1527 (xs : Nat → Int32) (L : Nat) (a23 : Mem → Int32 → Option Int32) (M : Mem) (x4 : Int32) : Option Int32 :=
  ldX xs L (x4 + 1) fun vq213 =>
  b2 (fL_parties M vq213) fun vq214 Mq215 =>
  ldX xs L (x4 + 1) fun vq216 =>
  b2 (fX13_parties Mq215 vq216) fun vq217 Mq218 =>
  b1 (fX13_thrown Mq218) fun vq219 =>
  if vq219 = vq214 then
    if vq214 = 0 then
      ldL Mq218 144 1 (0) fun vq220 =>
      if lg_cmp (vq220) (Int32.toInt64 vq217) = 0 then
        fL_law_b2164 xs L a23 Mq218 x4
      else
        some (0)
    else
      fL_law_b2164 xs L a23 Mq218 x4
  else
    some (0)

def fL_law_b1583 (xs : Nat → Int32) (L : Nat) (a23 : Mem → Int32 → Option Int32) (M : Mem) (x4 : Int32) : Option Int32 :=
  ldX xs L (x4 + 1) fun vq221 =>
  ldX xs L (x4 + 2) fun vq222 =>
  b2 (fX12_see M vq221 vq222) fun vq223 Mq224 =>
  ldX xs L (x4 + 1) fun vq225 =>
  ldX xs L (x4 + 2) fun vq226 =>
  b2 (fX13_see Mq224 vq225 vq226) fun vq227 Mq228 =>
  if vq223 = vq227 then
    fL_law_b2164 xs L a23 Mq228 x4
  else
    some (0)

def fL_law_b1620 (xs : Nat → Int32) (L : Nat) (a23 : Mem → Int32 → Option Int32) (M : Mem) (x4 : Int32) : Option Int32 :=
  b1 (fX12_forget M) fun Mq229 =>
  b1 (fX13_forget Mq229) fun Mq230 =>
  fL_law_b2164 xs L a23 Mq230 x4

def fL_law_b1631 (xs : Nat → Int32) (L : Nat) (a23 : Mem → Int32 → Option Int32) (M : Mem) (x4 : Int32) : Option Int32 :=
  ldX xs L (x4 + 1) fun vq231 =>
  b2 (fL_another M vq231) fun vq232 Mq233 =>
  ldX xs L (x4 + 1) fun vq234 =>
  b2 (fX13_another Mq233 vq234) fun vq235 Mq236 =>
  b1 (fX13_thrown Mq236) fun vq237 =>
  if vq237 = vq232 then
    if vq232 = 0 then
      ldL Mq236 144 1 (0) fun vq238 =>
      if lg_cmp (vq238) (Int32.toInt64 vq235) = 0 then
        fL_law_b2164 xs L a23 Mq236 x4
      else
        some (0)
    else
      fL_law_b2164 xs L a23 Mq236 x4
  else
    some (0)

def fL_law_b1687 (xs : Nat → Int32) (L : Nat) (a23 : Mem → Int32 → Option Int32) (M : Mem) (x4 : Int32) : Option Int32 :=
  ldX xs L (x4 + 1) fun vq239 =>
  b2 (fL_next M vq239) fun vq240 Mq241 =>
  ldX xs L (x4 + 1) fun vq242 =>
  b2 (fX13_next Mq241 vq242) fun vq243 Mq244 =>
  b1 (fX13_thrown Mq244) fun vq245 =>
  if vq245 = vq240 then
    if vq240 = 0 then
      ldL Mq244 144 1 (0) fun vq246 =>
      if lg_cmp (vq246) (Int32.toInt64 vq243) = 0 then
        fL_law_b2164 xs L a23 Mq244 x4
      else
        some (0)
    else
      fL_law_b2164 xs L a23 Mq244 x4
  else
    some (0)

def fL_law_b1743 (xs : Nat → Int32) (L : Nat) (a23 : Mem → Int32 → Option Int32) (M : Mem) (x4 : Int32) : Option Int32 :=
  ldX xs L (x4 + 1) fun vq247 =>
  ldX xs L (x4 + 2) fun vq248 =>
  ldX xs L (x4 + 3) fun vq249 =>
  b2 (fL_game M vq247 vq248 vq249) fun vq250 Mq251 =>
  ldX xs L (x4 + 1) fun vq252 =>
  ldX xs L (x4 + 2) fun vq253 =>
  ldX xs L (x4 + 3) fun vq254 =>
  b2 (fX13_game Mq251 vq252 vq253 vq254) fun vq255 Mq256 =>
  b1 (fX13_thrown Mq256) fun vq257 =>
  if vq257 = vq250 then
    if vq250 = 0 then
      ldL Mq256 144 1 (0) fun vq258 =>
      if lg_cmp (vq258) (Int32.toInt64 vq255) = 0 then
        fL_law_b2164 xs L a23 Mq256 x4
      else
        some (0)
    else
      fL_law_b2164 xs L a23 Mq256 x4
  else
    some (0)

def fL_law_b1823 (xs : Nat → Int32) (L : Nat) (a23 : Mem → Int32 → Option Int32) (M : Mem) (x4 : Int32) : Option Int32 :=
  ldX xs L (x4 + 1) fun vq259 =>
  ldX xs L (x4 + 2) fun vq260 =>
  ldX xs L (x4 + 3) fun vq261 =>
  b2 (fL_cities M vq259 vq260 vq261) fun vq262 Mq263 =>
  ldX xs L (x4 + 1) fun vq264 =>
  ldX xs L (x4 + 2) fun vq265 =>
  ldX xs L (x4 + 3) fun vq266 =>
  b2 (fX13_cities Mq263 vq264 vq265 vq266) fun vq267 Mq268 =>
  b1 (fX13_thrown Mq268) fun vq269 =>
  if vq269 = vq262 then
    if vq262 = 0 then
      ldL Mq268 144 1 (0) fun vq270 =>
      if lg_cmp (vq270) (Int32.toInt64 vq267) = 0 then
        fL_law_b2164 xs L a23 Mq268 x4
      else
        some (0)
    else
      fL_law_b2164 xs L a23 Mq268 x4
  else
    some (0)

def fL_law_b1903 (xs : Nat → Int32) (L : Nat) (a23 : Mem → Int32 → Option Int32) (M : Mem) (x4 : Int32) : Option Int32 :=
  b2 (fX12_ruin M) fun vq271 Mq272 =>
  b2 (fX13_ruin Mq272) fun vq273 Mq274 =>
  if vq271 = vq273 then
    fL_law_b2164 xs L a23 Mq274 x4
  else
    some (0)

def fL_law_b1916 (xs : Nat → Int32) (L : Nat) (a23 : Mem → Int32 → Option Int32) (M : Mem) (x4 : Int32) : Option Int32 :=
  ldX xs L (x4 + 1) fun vq275 =>
  b2 (fL_highest M vq275) fun vq276 Mq277 =>
  ldX xs L (x4 + 1) fun vq278 =>
  b2 (fX13_highest Mq277 vq278) fun vq279 Mq280 =>
  b1 (fX13_thrown Mq280) fun vq281 =>
  if vq281 = vq276 then
    if vq276 = 0 then
      ldL Mq280 144 1 (0) fun vq282 =>
      if lg_cmp (vq282) (Int32.toInt64 vq279) = 0 then
        fL_law_b2164 xs L a23 Mq280 x4
      else
        some (0)
    else
      fL_law_b2164 xs L a23 Mq280 x4
  else
    some (0)

def fL_law_b1972 (xs : Nat → Int32) (L : Nat) (a23 : Mem → Int32 → Option Int32) (M : Mem) (x4 : Int32) : Option Int32 :=
  ldX xs L (x4 + 1) fun vq283 =>
  b2 (fL_better M vq283) fun vq284 Mq285 =>
  ldX xs L (x4 + 1) fun vq286 =>
  b2 (fX13_better Mq285 vq286) fun vq287 Mq288 =>
  b1 (fX13_thrown Mq288) fun vq289 =>
  if vq289 = vq284 then
    if vq284 = 0 then
      ldL Mq288 144 1 (0) fun vq290 =>
      if lg_cmp (vq290) (Int32.toInt64 vq287) = 0 then
        fL_law_b2164 xs L a23 Mq288 x4
      else
        some (0)
    else
      fL_law_b2164 xs L a23 Mq288 x4
  else
    some (0)

def fL_law_b2028 (xs : Nat → Int32) (L : Nat) (a23 : Mem → Int32 → Option Int32) (M : Mem) (x4 : Int32) : Option Int32 :=
  ldX xs L (x4 + 1) fun vq291 =>
  b2 (fL_guarded M vq291) fun vq292 Mq293 =>
  ldX xs L (x4 + 1) fun vq294 =>
  b2 (fX13_guarded Mq293 vq294) fun vq295 Mq296 =>
  b1 (fX13_thrown Mq296) fun vq297 =>
  if vq297 = vq292 then
    if vq292 = 0 then
      ldL Mq296 144 1 (0) fun vq298 =>
      if lg_cmp (vq298) (Int32.toInt64 vq295) = 0 then
        fL_law_b2164 xs L a23 Mq296 x4
      else
        some (0)
    else
      fL_law_b2164 xs L a23 Mq296 x4
  else
    some (0)

def fL_law_b2084 (xs : Nat → Int32) (L : Nat) (a23 : Mem → Int32 → Option Int32) (M : Mem) (x4 : Int32) : Option Int32 :=
  ldX xs L (x4 + 1) fun vq299 =>
  b2 (fL_swap M vq299) fun vq300 Mq301 =>
  ldX xs L (x4 + 1) fun vq302 =>
  b2 (fX13_swap Mq301 vq302) fun vq303 Mq304 =>
  b1 (fX13_thrown Mq304) fun vq305 =>
  if vq305 = vq300 then
    if vq300 = 0 then
      ldL Mq304 144 1 (0) fun vq306 =>
      if lg_cmp (vq306) (Int32.toInt64 vq303) = 0 then
        fL_law_b2164 xs L a23 Mq304 x4
      else
        some (0)
    else
      fL_law_b2164 xs L a23 Mq304 x4
  else
    some (0)

def fL_law_b2140 (xs : Nat → Int32) (L : Nat) (a23 : Mem → Int32 → Option Int32) (M : Mem) (x4 : Int32) : Option Int32 :=
  b1 (fX12_image M) fun Mq307 =>
  b1 (fX13_image Mq307) fun Mq308 =>
  fL_law_b2164 xs L a23 Mq308 x4

def fL_law_b2151 (xs : Nat → Int32) (L : Nat) (a23 : Mem → Int32 → Option Int32) (M : Mem) (x4 : Int32) : Option Int32 :=
  b2 (fX12_restore M) fun vq309 Mq310 =>
  b2 (fX13_restore Mq310) fun vq311 Mq312 =>
  if vq309 = vq311 then
    fL_law_b2164 xs L a23 Mq312 x4
  else
    some (0)

def fL_law_l23 (xs : Nat → Int32) (L : Nat) : Nat → Mem → Int32 → Option Int32
  | 0, _, _ => none
  | n + 1, M, x4 =>
    if (Int32.ofNat L) - 6 < x4 then
      some (1)
    else
      ldX xs L (x4) fun vq1 =>
      pu (vq1 &&& 63) fun vq2 =>
      if vq2 = 0 then
        fL_law_b212 xs L (fL_law_l23 xs L n) M x4
      else if vq2 = 1 then
        fL_law_b285 xs L (fL_law_l23 xs L n) M x4
      else if vq2 = 2 then
        fL_law_b341 xs L (fL_law_l23 xs L n) M x4
      else if vq2 = 3 then
        fL_law_b354 xs L (fL_law_l23 xs L n) M x4
      else if vq2 = 4 then
        fL_law_b410 xs L (fL_law_l23 xs L n) M x4
      else if vq2 = 5 then
        fL_law_b478 xs L (fL_law_l23 xs L n) M x4
      else if vq2 = 6 then
        fL_law_b546 xs L (fL_law_l23 xs L n) M x4
      else if vq2 = 7 then
        fL_law_b614 xs L (fL_law_l23 xs L n) M x4
      else if vq2 = 8 then
        fL_law_b682 xs L (fL_law_l23 xs L n) M x4
      else if vq2 = 9 then
        fL_law_b707 xs L (fL_law_l23 xs L n) M x4
      else if vq2 = 10 then
        fL_law_b787 xs L (fL_law_l23 xs L n) M x4
      else if vq2 = 11 then
        fL_law_b812 xs L (fL_law_l23 xs L n) M x4
      else if vq2 = 12 then
        fL_law_b837 xs L (fL_law_l23 xs L n) M x4
      else if vq2 = 13 then
        fL_law_b905 xs L (fL_law_l23 xs L n) M x4
      else if vq2 = 14 then
        fL_law_b918 xs L (fL_law_l23 xs L n) M x4
      else if vq2 = 15 then
        fL_law_b986 xs L (fL_law_l23 xs L n) M x4
      else if vq2 = 16 then
        fL_law_b1042 xs L (fL_law_l23 xs L n) M x4
      else if vq2 = 17 then
        fL_law_b1055 xs L (fL_law_l23 xs L n) M x4
      else if vq2 = 18 then
        fL_law_b1068 xs L (fL_law_l23 xs L n) M x4
      else if vq2 = 19 then
        fL_law_b1124 xs L (fL_law_l23 xs L n) M x4
      else if vq2 = 20 then
        fL_law_b1192 xs L (fL_law_l23 xs L n) M x4
      else if vq2 = 21 then
        fL_law_b1267 xs L (fL_law_l23 xs L n) M x4
      else if vq2 = 22 then
        fL_law_b1323 xs L (fL_law_l23 xs L n) M x4
      else if vq2 = 23 then
        fL_law_b1379 xs L (fL_law_l23 xs L n) M x4
      else if vq2 = 24 then
        fL_law_b1459 xs L (fL_law_l23 xs L n) M x4
      else if vq2 = 25 then
        fL_law_b1527 xs L (fL_law_l23 xs L n) M x4
      else if vq2 = 26 then
        fL_law_b1583 xs L (fL_law_l23 xs L n) M x4
      else if vq2 = 27 then
        fL_law_b1620 xs L (fL_law_l23 xs L n) M x4
      else if vq2 = 28 then
        fL_law_b1631 xs L (fL_law_l23 xs L n) M x4
      else if vq2 = 29 then
        fL_law_b1687 xs L (fL_law_l23 xs L n) M x4
      else if vq2 = 30 then
        fL_law_b1743 xs L (fL_law_l23 xs L n) M x4
      else if vq2 = 31 then
        fL_law_b1823 xs L (fL_law_l23 xs L n) M x4
      else if vq2 = 32 then
        fL_law_b1903 xs L (fL_law_l23 xs L n) M x4
      else if vq2 = 33 then
        fL_law_b1916 xs L (fL_law_l23 xs L n) M x4
      else if vq2 = 34 then
        fL_law_b1972 xs L (fL_law_l23 xs L n) M x4
      else if vq2 = 35 then
        fL_law_b2028 xs L (fL_law_l23 xs L n) M x4
      else if vq2 = 36 then
        fL_law_b2084 xs L (fL_law_l23 xs L n) M x4
      else if vq2 = 37 then
        fL_law_b2140 xs L (fL_law_l23 xs L n) M x4
      else if vq2 = 38 then
        fL_law_b2151 xs L (fL_law_l23 xs L n) M x4
      else 
        fL_law_b2164 xs L (fL_law_l23 xs L n) M x4

theorem kL_law_b2164 {G : GX} {QL : Int32 → State → Prop} {xs : Nat → Int32} {L zb : Nat} (zS : SCR G zb L xs) (zQ : RTL G QL) (h : OKm G cL_law RL 7 (some .boolean) { frames := 2048, cells := 601024, slots := 7293034, locals := 84000 }) (zl : G.2.2.1.stackTraces = false) {kc ks : Nat} (zc : kc ≤ 500000) (zd : ks ≤ 6000000) {a23 : Mem → Int32 → Option Int32} (zh23 : ∀ (M : Mem) (x4 : Int32) (res : Int32), a23 M x4 = some res → GG G (QL res) (kc + 4) (ks + 24) 23 [(0, Value.ref zb), (1, rv G.1 0), (2, rv G.1 103), (3, rv G.1 144), (4, .int x4)] [] M) {M : Mem} {x4 : Int32} {res : Int32} (zf : fL_law_b2164 xs L a23 M x4 = some res) : GG G (QL res) (kc + 4) (ks + 24) 2164 [(0, Value.ref zb), (1, rv G.1 0), (2, rv G.1 103), (3, rv G.1 144), (4, .int x4)] [] M := by
  unfold fL_law_b2164 at zf
  refine g_iinc h 4 4 rfl (v := x4 + 6) (congrArg (fun z => x4 + z) (by decide : Int32.ofInt (6) = (6 : Int32))) [(4, .int (x4 + 6)), (0, Value.ref zb), (1, rv G.1 0), (2, rv G.1 103), (3, rv G.1 144)] (by decide) rfl dL_law_2164 ?_
  refine g_nmV zf ?_
  clear zf; intro vq17 zf
  refine g_goto h 23 (by decide) dL_law_2167 ?_
  refine g_sub h [1, 2, 3, 4, 0] rfl ?_
  exact zh23 _ _ _ zf

theorem kL_law_b212 {G : GX} {QL : Int32 → State → Prop} {xs : Nat → Int32} {L zb : Nat} (zS : SCR G zb L xs) (zQ : RTL G QL) (h : OKm G cL_law RL 7 (some .boolean) { frames := 2048, cells := 601024, slots := 7293034, locals := 84000 }) (zl : G.2.2.1.stackTraces = false) {kc ks : Nat} (zc : kc ≤ 500000) (zd : ks ≤ 6000000) {a23 : Mem → Int32 → Option Int32} (zh23 : ∀ (M : Mem) (x4 : Int32) (res : Int32), a23 M x4 = some res → GG G (QL res) (kc + 4) (ks + 24) 23 [(0, Value.ref zb), (1, rv G.1 0), (2, rv G.1 103), (3, rv G.1 144), (4, .int x4)] [] M) {M : Mem} {x4 : Int32} {res : Int32} (zf : fL_law_b212 xs L a23 M x4 = some res) : GG G (QL res) kc ks 212 [(0, Value.ref zb), (1, rv G.1 0), (2, rv G.1 103), (3, rv G.1 144), (4, .int x4)] [] M := by
  unfold fL_law_b212 at zf
  refine g_aload_n h 1 rfl dL_law_212 ?_
  refine g_aload_nX h 0 rfl dL_law_213 ?_
  refine g_iload h 4 rfl dL_law_214 ?_
  refine g_iconst h 1 (v := 1) (by decide) dL_law_216 ?_
  refine g_iadd h dL_law_217 ?_
  refine g_sld h zS zf dL_law_218 ?_
  clear zf; intro vq3 zf
  refine g_aload_nX h 0 rfl dL_law_219 ?_
  refine g_iload h 4 rfl dL_law_220 ?_
  refine g_iconst h 2 (v := 2) (by decide) dL_law_222 ?_
  refine g_iadd h dL_law_223 ?_
  refine g_sld h zS zf dL_law_224 ?_
  clear zf; intro vq4 zf
  refine g_aload_nX h 0 rfl dL_law_225 ?_
  refine g_iload h 4 rfl dL_law_226 ?_
  refine g_iconst h 3 (v := 3) (by decide) dL_law_228 ?_
  refine g_iadd h dL_law_229 ?_
  refine g_sld h zS zf dL_law_230 ?_
  clear zf; intro vq5 zf
  refine g_aload_nX h 0 rfl dL_law_231 ?_
  refine g_iload h 4 rfl dL_law_232 ?_
  refine g_iconst h 4 (v := 4) (by decide) dL_law_234 ?_
  refine g_iadd h dL_law_235 ?_
  refine g_sld h zS zf dL_law_236 ?_
  clear zf; intro vq6 zf
  refine g_aload_nX h 0 rfl dL_law_237 ?_
  refine g_iload h 4 rfl dL_law_238 ?_
  refine g_iconst h 5 (v := 5) (by decide) dL_law_240 ?_
  refine g_iadd h dL_law_241 ?_
  refine g_sld h zS zf dL_law_242 ?_
  clear zf; intro vq7 zf
  have zf1 := b2_some zf
  clear zf; obtain ⟨vq8, Mq9, zq, zf⟩ := zf1
  refine g_callVwi (As := [.int vq3, .int vq4, .int vq5, .int vq6, .int vq7]) (rest := []) h ceX12_feed mlL_99 imX12_feed seX12_feed (by rfl) (kd_lt (by rw [(by decide : kd 0 = 10)]; decide)) (ent_10 (by decide : kd 0 = 10)) rfl rfl ⟨Nat.le_of_ble_eq_true rfl, Nat.le_of_ble_eq_true rfl⟩ ⟨(by dsimp only; omega), (by dsimp only; omega)⟩ rfl dL_law_243 rfl (Nat.le_of_ble_eq_true rfl) (cmX12_feed zq) ?_
  refine g_aload_n h 2 rfl dL_law_246 ?_
  refine g_aload_nX h 0 rfl dL_law_247 ?_
  refine g_iload h 4 rfl dL_law_248 ?_
  refine g_iconst h 1 (v := 1) (by decide) dL_law_250 ?_
  refine g_iadd h dL_law_251 ?_
  refine g_sld h zS zf dL_law_252 ?_
  clear zf; intro vq10 zf
  refine g_aload_nX h 0 rfl dL_law_253 ?_
  refine g_iload h 4 rfl dL_law_254 ?_
  refine g_iconst h 2 (v := 2) (by decide) dL_law_256 ?_
  refine g_iadd h dL_law_257 ?_
  refine g_sld h zS zf dL_law_258 ?_
  clear zf; intro vq11 zf
  refine g_aload_nX h 0 rfl dL_law_259 ?_
  refine g_iload h 4 rfl dL_law_260 ?_
  refine g_iconst h 3 (v := 3) (by decide) dL_law_262 ?_
  refine g_iadd h dL_law_263 ?_
  refine g_sld h zS zf dL_law_264 ?_
  clear zf; intro vq12 zf
  refine g_aload_nX h 0 rfl dL_law_265 ?_
  refine g_iload h 4 rfl dL_law_266 ?_
  refine g_iconst h 4 (v := 4) (by decide) dL_law_268 ?_
  refine g_iadd h dL_law_269 ?_
  refine g_sld h zS zf dL_law_270 ?_
  clear zf; intro vq13 zf
  refine g_aload_nX h 0 rfl dL_law_271 ?_
  refine g_iload h 4 rfl dL_law_272 ?_
  refine g_iconst h 5 (v := 5) (by decide) dL_law_274 ?_
  refine g_iadd h dL_law_275 ?_
  refine g_sld h zS zf dL_law_276 ?_
  clear zf; intro vq14 zf
  have zf1 := b2_some zf
  clear zf; obtain ⟨vq15, Mq16, zq, zf⟩ := zf1
  refine g_callVwi (As := [.int vq10, .int vq11, .int vq12, .int vq13, .int vq14]) (rest := [.int vq8]) h ceX13_feed mlL_103 imX13_feed seX13_feed (by rfl) (kd_lt (by rw [(by decide : kd 103 = 11)]; decide)) (ent_11 (by decide : kd 103 = 11)) rfl rfl ⟨Nat.le_of_ble_eq_true rfl, Nat.le_of_ble_eq_true rfl⟩ ⟨(by dsimp only; omega), (by dsimp only; omega)⟩ rfl dL_law_277 rfl (Nat.le_of_ble_eq_true rfl) (cmX13_feed zq) ?_
  refine g_ic_eq h 2164 (by decide) zf dL_law_280 ?_ ?_ <;> clear zf <;> intro zf
  · refine g_cs h (kc' := kc + 4) (ks' := ks + 24) (by omega) (by omega) ?_
    refine g_sub h [0, 1, 2, 3, 4] rfl ?_
    exact kL_law_b2164 zS zQ h zl (kc := kc) (ks := ks) (by omega) (by omega) zh23 zf
  · refine g_iconst h 0 (v := 0) (by decide) dL_law_283 ?_
    obtain rfl := Option.some.inj zf
    exact zQ _ _ _ _ _ _ (by omega) (by omega) dL_law_284

theorem kL_law_b285 {G : GX} {QL : Int32 → State → Prop} {xs : Nat → Int32} {L zb : Nat} (zS : SCR G zb L xs) (zQ : RTL G QL) (h : OKm G cL_law RL 7 (some .boolean) { frames := 2048, cells := 601024, slots := 7293034, locals := 84000 }) (zl : G.2.2.1.stackTraces = false) {kc ks : Nat} (zc : kc ≤ 500000) (zd : ks ≤ 6000000) {a23 : Mem → Int32 → Option Int32} (zh23 : ∀ (M : Mem) (x4 : Int32) (res : Int32), a23 M x4 = some res → GG G (QL res) (kc + 4) (ks + 24) 23 [(0, Value.ref zb), (1, rv G.1 0), (2, rv G.1 103), (3, rv G.1 144), (4, .int x4)] [] M) {M : Mem} {x4 : Int32} {res : Int32} (zf : fL_law_b285 xs L a23 M x4 = some res) : GG G (QL res) kc ks 285 [(0, Value.ref zb), (1, rv G.1 0), (2, rv G.1 103), (3, rv G.1 144), (4, .int x4)] [] M := by
  unfold fL_law_b285 at zf
  refine g_aload_n h 1 rfl dL_law_285 ?_
  refine g_aload_nX h 0 rfl dL_law_286 ?_
  refine g_iload h 4 rfl dL_law_287 ?_
  refine g_iconst h 1 (v := 1) (by decide) dL_law_289 ?_
  refine g_iadd h dL_law_290 ?_
  refine g_sld h zS zf dL_law_291 ?_
  clear zf; intro vq18 zf
  refine g_aload_n h 3 rfl dL_law_292 ?_
  have zf1 := b2_some zf
  clear zf; obtain ⟨vq19, Mq20, zq, zf⟩ := zf1
  refine g_callSW (n := 3) (mc := 4) (ms := 24) (As := [rv G.1 0, .int vq18, rv G.1 144]) (rest := []) h cdL_land iniL ⟨by decide +kernel, by decide +kernel, by decide +kernel⟩ mlL_104 smL_land rfl rfl ⟨Nat.le_of_ble_eq_true rfl, Nat.le_of_ble_eq_true rfl⟩ ⟨(by dsimp only; omega), (by dsimp only; omega)⟩ rfl dL_law_293 rfl (Nat.le_of_ble_eq_true rfl) (cwL_land zl zq) ?_
  refine g_istore h [(5, .int vq19), (0, Value.ref zb), (1, rv G.1 0), (2, rv G.1 103), (3, rv G.1 144), (4, .int x4)] (by decide) rfl dL_law_296 ?_
  refine g_aload_n h 3 rfl dL_law_298 ?_
  refine g_aload_nX h 1 rfl dL_law_299 ?_
  refine g_iload h 5 rfl dL_law_300 ?_
  refine g_iconst h 1 (v := 1) (by decide) dL_law_302 ?_
  refine g_iadd h dL_law_303 ?_
  refine g_sld h zS zf dL_law_304 ?_
  clear zf; intro vq21 zf
  have zf1 := b2_some zf
  clear zf; obtain ⟨vq22, Mq23, zq, zf⟩ := zf1
  refine g_callVwi (As := [.int vq21]) (rest := []) h ceX13_land mlL_109 imX13_land seX13_land (by rfl) (kd_lt (by rw [(by decide : kd 103 = 11)]; decide)) (ent_11 (by decide : kd 103 = 11)) rfl rfl ⟨Nat.le_of_ble_eq_true rfl, Nat.le_of_ble_eq_true rfl⟩ ⟨(by dsimp only; omega), (by dsimp only; omega)⟩ rfl dL_law_305 rfl (Nat.le_of_ble_eq_true rfl) (cmX13_land zq) ?_
  refine g_istore h [(6, .int vq22), (5, .int vq19), (0, Value.ref zb), (1, rv G.1 0), (2, rv G.1 103), (3, rv G.1 144), (4, .int x4)] (by decide) rfl dL_law_308 ?_
  refine g_aload_n h 4 rfl dL_law_310 ?_
  have zf1 := bd_some zf
  clear zf; obtain ⟨vq24, zq, zf⟩ := zf1
  refine g_callVri (As := []) (rest := []) h ceX13_thrown mlL_110 imX13_thrown seX13_thrown (by rfl) (kd_lt (by rw [(by decide : kd 103 = 11)]; decide)) (ent_11 (by decide : kd 103 = 11)) rfl rfl ⟨Nat.le_of_ble_eq_true rfl, Nat.le_of_ble_eq_true rfl⟩ ⟨(by dsimp only; omega), (by dsimp only; omega)⟩ rfl dL_law_311 rfl (Nat.le_of_ble_eq_true rfl) (cmX13_thrown zq) ?_
  refine g_iload h 1 rfl dL_law_314 ?_
  refine g_ic_eq h 321 (by decide) zf dL_law_316 ?_ ?_ <;> clear zf <;> intro zf
  · refine g_iload h 1 rfl dL_law_321 ?_
    refine g_if_ne h 338 (by decide) zf dL_law_323 ?_ ?_ <;> clear zf <;> intro zf
    · refine g_goto h 2164 (by decide) dL_law_338 ?_
      refine g_sub h [2, 3, 4, 5, 6] rfl ?_
      exact kL_law_b2164 zS zQ h zl (kc := kc) (ks := ks) (by omega) (by omega) zh23 zf
    · refine g_aload_n h 5 rfl dL_law_326 ?_
      refine g_iconst h 0 (v := 0) (by decide) dL_law_327 ?_
      refine g_lald h 1 (by decide : kd 144 = 22) (by decide) zf dL_law_328 ?_
      clear zf; intro vq25 zf
      refine g_iload h 0 rfl dL_law_329 ?_
      refine g_i2l h dL_law_331 ?_
      refine g_lcmp h dL_law_332 ?_
      refine g_if_eq h 338 (by decide) zf dL_law_333 ?_ ?_ <;> clear zf <;> intro zf
      · refine g_goto h 2164 (by decide) dL_law_338 ?_
        refine g_sub h [2, 3, 4, 5, 6] rfl ?_
        exact kL_law_b2164 zS zQ h zl (kc := kc) (ks := ks) (by omega) (by omega) zh23 zf
      · refine g_iconst h 0 (v := 0) (by decide) dL_law_336 ?_
        obtain rfl := Option.some.inj zf
        exact zQ _ _ _ _ _ _ (by omega) (by omega) dL_law_337
  · refine g_iconst h 0 (v := 0) (by decide) dL_law_319 ?_
    obtain rfl := Option.some.inj zf
    exact zQ _ _ _ _ _ _ (by omega) (by omega) dL_law_320

theorem kL_law_b341 {G : GX} {QL : Int32 → State → Prop} {xs : Nat → Int32} {L zb : Nat} (zS : SCR G zb L xs) (zQ : RTL G QL) (h : OKm G cL_law RL 7 (some .boolean) { frames := 2048, cells := 601024, slots := 7293034, locals := 84000 }) (zl : G.2.2.1.stackTraces = false) {kc ks : Nat} (zc : kc ≤ 500000) (zd : ks ≤ 6000000) {a23 : Mem → Int32 → Option Int32} (zh23 : ∀ (M : Mem) (x4 : Int32) (res : Int32), a23 M x4 = some res → GG G (QL res) (kc + 4) (ks + 24) 23 [(0, Value.ref zb), (1, rv G.1 0), (2, rv G.1 103), (3, rv G.1 144), (4, .int x4)] [] M) {M : Mem} {x4 : Int32} {res : Int32} (zf : fL_law_b341 xs L a23 M x4 = some res) : GG G (QL res) kc ks 341 [(0, Value.ref zb), (1, rv G.1 0), (2, rv G.1 103), (3, rv G.1 144), (4, .int x4)] [] M := by
  unfold fL_law_b341 at zf
  refine g_aload_n h 1 rfl dL_law_341 ?_
  have zf1 := bd_some zf
  clear zf; obtain ⟨vq26, zq, zf⟩ := zf1
  refine g_callVri (As := []) (rest := []) h ceX12_fault mlL_114 imX12_fault seX12_fault (by rfl) (kd_lt (by rw [(by decide : kd 0 = 10)]; decide)) (ent_10 (by decide : kd 0 = 10)) rfl rfl ⟨Nat.le_of_ble_eq_true rfl, Nat.le_of_ble_eq_true rfl⟩ ⟨(by dsimp only; omega), (by dsimp only; omega)⟩ rfl dL_law_342 rfl (Nat.le_of_ble_eq_true rfl) (cmX12_fault zq) ?_
  refine g_aload_n h 2 rfl dL_law_345 ?_
  have zf1 := b2_some zf
  clear zf; obtain ⟨vq27, Mq28, zq, zf⟩ := zf1
  refine g_callVwi (As := []) (rest := [.int vq26]) h ceX13_fault mlL_117 imX13_fault seX13_fault (by rfl) (kd_lt (by rw [(by decide : kd 103 = 11)]; decide)) (ent_11 (by decide : kd 103 = 11)) rfl rfl ⟨Nat.le_of_ble_eq_true rfl, Nat.le_of_ble_eq_true rfl⟩ ⟨(by dsimp only; omega), (by dsimp only; omega)⟩ rfl dL_law_346 rfl (Nat.le_of_ble_eq_true rfl) (cmX13_fault zq) ?_
  refine g_ic_eq h 2164 (by decide) zf dL_law_349 ?_ ?_ <;> clear zf <;> intro zf
  · refine g_cs h (kc' := kc + 4) (ks' := ks + 24) (by omega) (by omega) ?_
    refine g_sub h [0, 1, 2, 3, 4] rfl ?_
    exact kL_law_b2164 zS zQ h zl (kc := kc) (ks := ks) (by omega) (by omega) zh23 zf
  · refine g_iconst h 0 (v := 0) (by decide) dL_law_352 ?_
    obtain rfl := Option.some.inj zf
    exact zQ _ _ _ _ _ _ (by omega) (by omega) dL_law_353

theorem kL_law_b354 {G : GX} {QL : Int32 → State → Prop} {xs : Nat → Int32} {L zb : Nat} (zS : SCR G zb L xs) (zQ : RTL G QL) (h : OKm G cL_law RL 7 (some .boolean) { frames := 2048, cells := 601024, slots := 7293034, locals := 84000 }) (zl : G.2.2.1.stackTraces = false) {kc ks : Nat} (zc : kc ≤ 500000) (zd : ks ≤ 6000000) {a23 : Mem → Int32 → Option Int32} (zh23 : ∀ (M : Mem) (x4 : Int32) (res : Int32), a23 M x4 = some res → GG G (QL res) (kc + 4) (ks + 24) 23 [(0, Value.ref zb), (1, rv G.1 0), (2, rv G.1 103), (3, rv G.1 144), (4, .int x4)] [] M) {M : Mem} {x4 : Int32} {res : Int32} (zf : fL_law_b354 xs L a23 M x4 = some res) : GG G (QL res) kc ks 354 [(0, Value.ref zb), (1, rv G.1 0), (2, rv G.1 103), (3, rv G.1 144), (4, .int x4)] [] M := by
  unfold fL_law_b354 at zf
  refine g_aload_n h 1 rfl dL_law_354 ?_
  refine g_aload_nX h 0 rfl dL_law_355 ?_
  refine g_iload h 4 rfl dL_law_356 ?_
  refine g_iconst h 1 (v := 1) (by decide) dL_law_358 ?_
  refine g_iadd h dL_law_359 ?_
  refine g_sld h zS zf dL_law_360 ?_
  clear zf; intro vq29 zf
  refine g_aload_n h 3 rfl dL_law_361 ?_
  have zf1 := b2_some zf
  clear zf; obtain ⟨vq30, Mq31, zq, zf⟩ := zf1
  refine g_callSW (n := 3) (mc := 4) (ms := 24) (As := [rv G.1 0, .int vq29, rv G.1 144]) (rest := []) h cdL_count iniL ⟨by decide +kernel, by decide +kernel, by decide +kernel⟩ mlL_118 smL_count rfl rfl ⟨Nat.le_of_ble_eq_true rfl, Nat.le_of_ble_eq_true rfl⟩ ⟨(by dsimp only; omega), (by dsimp only; omega)⟩ rfl dL_law_362 rfl (Nat.le_of_ble_eq_true rfl) (cwL_count zl zq) ?_
  refine g_istore h [(5, .int vq30), (0, Value.ref zb), (1, rv G.1 0), (2, rv G.1 103), (3, rv G.1 144), (4, .int x4)] (by decide) rfl dL_law_365 ?_
  refine g_aload_n h 3 rfl dL_law_367 ?_
  refine g_aload_nX h 1 rfl dL_law_368 ?_
  refine g_iload h 5 rfl dL_law_369 ?_
  refine g_iconst h 1 (v := 1) (by decide) dL_law_371 ?_
  refine g_iadd h dL_law_372 ?_
  refine g_sld h zS zf dL_law_373 ?_
  clear zf; intro vq32 zf
  have zf1 := b2_some zf
  clear zf; obtain ⟨vq33, Mq34, zq, zf⟩ := zf1
  refine g_callVwi (As := [.int vq32]) (rest := []) h ceX13_count mlL_120 imX13_count seX13_count (by rfl) (kd_lt (by rw [(by decide : kd 103 = 11)]; decide)) (ent_11 (by decide : kd 103 = 11)) rfl rfl ⟨Nat.le_of_ble_eq_true rfl, Nat.le_of_ble_eq_true rfl⟩ ⟨(by dsimp only; omega), (by dsimp only; omega)⟩ rfl dL_law_374 rfl (Nat.le_of_ble_eq_true rfl) (cmX13_count zq) ?_
  refine g_istore h [(6, .int vq33), (5, .int vq30), (0, Value.ref zb), (1, rv G.1 0), (2, rv G.1 103), (3, rv G.1 144), (4, .int x4)] (by decide) rfl dL_law_377 ?_
  refine g_aload_n h 4 rfl dL_law_379 ?_
  have zf1 := bd_some zf
  clear zf; obtain ⟨vq35, zq, zf⟩ := zf1
  refine g_callVri (As := []) (rest := []) h ceX13_thrown mlL_110 imX13_thrown seX13_thrown (by rfl) (kd_lt (by rw [(by decide : kd 103 = 11)]; decide)) (ent_11 (by decide : kd 103 = 11)) rfl rfl ⟨Nat.le_of_ble_eq_true rfl, Nat.le_of_ble_eq_true rfl⟩ ⟨(by dsimp only; omega), (by dsimp only; omega)⟩ rfl dL_law_380 rfl (Nat.le_of_ble_eq_true rfl) (cmX13_thrown zq) ?_
  refine g_iload h 1 rfl dL_law_383 ?_
  refine g_ic_eq h 390 (by decide) zf dL_law_385 ?_ ?_ <;> clear zf <;> intro zf
  · refine g_iload h 1 rfl dL_law_390 ?_
    refine g_if_ne h 407 (by decide) zf dL_law_392 ?_ ?_ <;> clear zf <;> intro zf
    · refine g_goto h 2164 (by decide) dL_law_407 ?_
      refine g_sub h [2, 3, 4, 5, 6] rfl ?_
      exact kL_law_b2164 zS zQ h zl (kc := kc) (ks := ks) (by omega) (by omega) zh23 zf
    · refine g_aload_n h 5 rfl dL_law_395 ?_
      refine g_iconst h 0 (v := 0) (by decide) dL_law_396 ?_
      refine g_lald h 1 (by decide : kd 144 = 22) (by decide) zf dL_law_397 ?_
      clear zf; intro vq36 zf
      refine g_iload h 0 rfl dL_law_398 ?_
      refine g_i2l h dL_law_400 ?_
      refine g_lcmp h dL_law_401 ?_
      refine g_if_eq h 407 (by decide) zf dL_law_402 ?_ ?_ <;> clear zf <;> intro zf
      · refine g_goto h 2164 (by decide) dL_law_407 ?_
        refine g_sub h [2, 3, 4, 5, 6] rfl ?_
        exact kL_law_b2164 zS zQ h zl (kc := kc) (ks := ks) (by omega) (by omega) zh23 zf
      · refine g_iconst h 0 (v := 0) (by decide) dL_law_405 ?_
        obtain rfl := Option.some.inj zf
        exact zQ _ _ _ _ _ _ (by omega) (by omega) dL_law_406
  · refine g_iconst h 0 (v := 0) (by decide) dL_law_388 ?_
    obtain rfl := Option.some.inj zf
    exact zQ _ _ _ _ _ _ (by omega) (by omega) dL_law_389

theorem kL_law_b410 {G : GX} {QL : Int32 → State → Prop} {xs : Nat → Int32} {L zb : Nat} (zS : SCR G zb L xs) (zQ : RTL G QL) (h : OKm G cL_law RL 7 (some .boolean) { frames := 2048, cells := 601024, slots := 7293034, locals := 84000 }) (zl : G.2.2.1.stackTraces = false) {kc ks : Nat} (zc : kc ≤ 500000) (zd : ks ≤ 6000000) {a23 : Mem → Int32 → Option Int32} (zh23 : ∀ (M : Mem) (x4 : Int32) (res : Int32), a23 M x4 = some res → GG G (QL res) (kc + 4) (ks + 24) 23 [(0, Value.ref zb), (1, rv G.1 0), (2, rv G.1 103), (3, rv G.1 144), (4, .int x4)] [] M) {M : Mem} {x4 : Int32} {res : Int32} (zf : fL_law_b410 xs L a23 M x4 = some res) : GG G (QL res) kc ks 410 [(0, Value.ref zb), (1, rv G.1 0), (2, rv G.1 103), (3, rv G.1 144), (4, .int x4)] [] M := by
  unfold fL_law_b410 at zf
  refine g_aload_n h 1 rfl dL_law_410 ?_
  refine g_aload_nX h 0 rfl dL_law_411 ?_
  refine g_iload h 4 rfl dL_law_412 ?_
  refine g_iconst h 1 (v := 1) (by decide) dL_law_414 ?_
  refine g_iadd h dL_law_415 ?_
  refine g_sld h zS zf dL_law_416 ?_
  clear zf; intro vq37 zf
  refine g_aload_nX h 0 rfl dL_law_417 ?_
  refine g_iload h 4 rfl dL_law_418 ?_
  refine g_iconst h 2 (v := 2) (by decide) dL_law_420 ?_
  refine g_iadd h dL_law_421 ?_
  refine g_sld h zS zf dL_law_422 ?_
  clear zf; intro vq38 zf
  refine g_aload_n h 3 rfl dL_law_423 ?_
  have zf1 := b2_some zf
  clear zf; obtain ⟨vq39, Mq40, zq, zf⟩ := zf1
  refine g_callSW (n := 4) (mc := 4) (ms := 24) (As := [rv G.1 0, .int vq37, .int vq38, rv G.1 144]) (rest := []) h cdL_deed iniL ⟨by decide +kernel, by decide +kernel, by decide +kernel⟩ mlL_121 smL_deed rfl rfl ⟨Nat.le_of_ble_eq_true rfl, Nat.le_of_ble_eq_true rfl⟩ ⟨(by dsimp only; omega), (by dsimp only; omega)⟩ rfl dL_law_424 rfl (Nat.le_of_ble_eq_true rfl) (cwL_deed zl zq) ?_
  refine g_istore h [(5, .int vq39), (0, Value.ref zb), (1, rv G.1 0), (2, rv G.1 103), (3, rv G.1 144), (4, .int x4)] (by decide) rfl dL_law_427 ?_
  refine g_aload_n h 3 rfl dL_law_429 ?_
  refine g_aload_nX h 1 rfl dL_law_430 ?_
  refine g_iload h 5 rfl dL_law_431 ?_
  refine g_iconst h 1 (v := 1) (by decide) dL_law_433 ?_
  refine g_iadd h dL_law_434 ?_
  refine g_sld h zS zf dL_law_435 ?_
  clear zf; intro vq41 zf
  refine g_aload_nX h 1 rfl dL_law_436 ?_
  refine g_iload h 5 rfl dL_law_437 ?_
  refine g_iconst h 2 (v := 2) (by decide) dL_law_439 ?_
  refine g_iadd h dL_law_440 ?_
  refine g_sld h zS zf dL_law_441 ?_
  clear zf; intro vq42 zf
  have zf1 := b2_some zf
  clear zf; obtain ⟨vq43, Mq44, zq, zf⟩ := zf1
  refine g_callVwi (As := [.int vq41, .int vq42]) (rest := []) h ceX13_deed mlL_124 imX13_deed seX13_deed (by rfl) (kd_lt (by rw [(by decide : kd 103 = 11)]; decide)) (ent_11 (by decide : kd 103 = 11)) rfl rfl ⟨Nat.le_of_ble_eq_true rfl, Nat.le_of_ble_eq_true rfl⟩ ⟨(by dsimp only; omega), (by dsimp only; omega)⟩ rfl dL_law_442 rfl (Nat.le_of_ble_eq_true rfl) (cmX13_deed zq) ?_
  refine g_istore h [(6, .int vq43), (5, .int vq39), (0, Value.ref zb), (1, rv G.1 0), (2, rv G.1 103), (3, rv G.1 144), (4, .int x4)] (by decide) rfl dL_law_445 ?_
  refine g_aload_n h 4 rfl dL_law_447 ?_
  have zf1 := bd_some zf
  clear zf; obtain ⟨vq45, zq, zf⟩ := zf1
  refine g_callVri (As := []) (rest := []) h ceX13_thrown mlL_110 imX13_thrown seX13_thrown (by rfl) (kd_lt (by rw [(by decide : kd 103 = 11)]; decide)) (ent_11 (by decide : kd 103 = 11)) rfl rfl ⟨Nat.le_of_ble_eq_true rfl, Nat.le_of_ble_eq_true rfl⟩ ⟨(by dsimp only; omega), (by dsimp only; omega)⟩ rfl dL_law_448 rfl (Nat.le_of_ble_eq_true rfl) (cmX13_thrown zq) ?_
  refine g_iload h 1 rfl dL_law_451 ?_
  refine g_ic_eq h 458 (by decide) zf dL_law_453 ?_ ?_ <;> clear zf <;> intro zf
  · refine g_iload h 1 rfl dL_law_458 ?_
    refine g_if_ne h 475 (by decide) zf dL_law_460 ?_ ?_ <;> clear zf <;> intro zf
    · refine g_goto h 2164 (by decide) dL_law_475 ?_
      refine g_sub h [2, 3, 4, 5, 6] rfl ?_
      exact kL_law_b2164 zS zQ h zl (kc := kc) (ks := ks) (by omega) (by omega) zh23 zf
    · refine g_aload_n h 5 rfl dL_law_463 ?_
      refine g_iconst h 0 (v := 0) (by decide) dL_law_464 ?_
      refine g_lald h 1 (by decide : kd 144 = 22) (by decide) zf dL_law_465 ?_
      clear zf; intro vq46 zf
      refine g_iload h 0 rfl dL_law_466 ?_
      refine g_i2l h dL_law_468 ?_
      refine g_lcmp h dL_law_469 ?_
      refine g_if_eq h 475 (by decide) zf dL_law_470 ?_ ?_ <;> clear zf <;> intro zf
      · refine g_goto h 2164 (by decide) dL_law_475 ?_
        refine g_sub h [2, 3, 4, 5, 6] rfl ?_
        exact kL_law_b2164 zS zQ h zl (kc := kc) (ks := ks) (by omega) (by omega) zh23 zf
      · refine g_iconst h 0 (v := 0) (by decide) dL_law_473 ?_
        obtain rfl := Option.some.inj zf
        exact zQ _ _ _ _ _ _ (by omega) (by omega) dL_law_474
  · refine g_iconst h 0 (v := 0) (by decide) dL_law_456 ?_
    obtain rfl := Option.some.inj zf
    exact zQ _ _ _ _ _ _ (by omega) (by omega) dL_law_457

theorem kL_law_b478 {G : GX} {QL : Int32 → State → Prop} {xs : Nat → Int32} {L zb : Nat} (zS : SCR G zb L xs) (zQ : RTL G QL) (h : OKm G cL_law RL 7 (some .boolean) { frames := 2048, cells := 601024, slots := 7293034, locals := 84000 }) (zl : G.2.2.1.stackTraces = false) {kc ks : Nat} (zc : kc ≤ 500000) (zd : ks ≤ 6000000) {a23 : Mem → Int32 → Option Int32} (zh23 : ∀ (M : Mem) (x4 : Int32) (res : Int32), a23 M x4 = some res → GG G (QL res) (kc + 4) (ks + 24) 23 [(0, Value.ref zb), (1, rv G.1 0), (2, rv G.1 103), (3, rv G.1 144), (4, .int x4)] [] M) {M : Mem} {x4 : Int32} {res : Int32} (zf : fL_law_b478 xs L a23 M x4 = some res) : GG G (QL res) kc ks 478 [(0, Value.ref zb), (1, rv G.1 0), (2, rv G.1 103), (3, rv G.1 144), (4, .int x4)] [] M := by
  unfold fL_law_b478 at zf
  refine g_aload_n h 1 rfl dL_law_478 ?_
  refine g_aload_nX h 0 rfl dL_law_479 ?_
  refine g_iload h 4 rfl dL_law_480 ?_
  refine g_iconst h 1 (v := 1) (by decide) dL_law_482 ?_
  refine g_iadd h dL_law_483 ?_
  refine g_sld h zS zf dL_law_484 ?_
  clear zf; intro vq47 zf
  refine g_aload_nX h 0 rfl dL_law_485 ?_
  refine g_iload h 4 rfl dL_law_486 ?_
  refine g_iconst h 2 (v := 2) (by decide) dL_law_488 ?_
  refine g_iadd h dL_law_489 ?_
  refine g_sld h zS zf dL_law_490 ?_
  clear zf; intro vq48 zf
  refine g_aload_n h 3 rfl dL_law_491 ?_
  have zf1 := b2_some zf
  clear zf; obtain ⟨vq49, Mq50, zq, zf⟩ := zf1
  refine g_callSW (n := 4) (mc := 4) (ms := 24) (As := [rv G.1 0, .int vq47, .int vq48, rv G.1 144]) (rest := []) h cdL_brother iniL ⟨by decide +kernel, by decide +kernel, by decide +kernel⟩ mlL_125 smL_brother rfl rfl ⟨Nat.le_of_ble_eq_true rfl, Nat.le_of_ble_eq_true rfl⟩ ⟨(by dsimp only; omega), (by dsimp only; omega)⟩ rfl dL_law_492 rfl (Nat.le_of_ble_eq_true rfl) (cwL_brother zl zq) ?_
  refine g_istore h [(5, .int vq49), (0, Value.ref zb), (1, rv G.1 0), (2, rv G.1 103), (3, rv G.1 144), (4, .int x4)] (by decide) rfl dL_law_495 ?_
  refine g_aload_n h 3 rfl dL_law_497 ?_
  refine g_aload_nX h 1 rfl dL_law_498 ?_
  refine g_iload h 5 rfl dL_law_499 ?_
  refine g_iconst h 1 (v := 1) (by decide) dL_law_501 ?_
  refine g_iadd h dL_law_502 ?_
  refine g_sld h zS zf dL_law_503 ?_
  clear zf; intro vq51 zf
  refine g_aload_nX h 1 rfl dL_law_504 ?_
  refine g_iload h 5 rfl dL_law_505 ?_
  refine g_iconst h 2 (v := 2) (by decide) dL_law_507 ?_
  refine g_iadd h dL_law_508 ?_
  refine g_sld h zS zf dL_law_509 ?_
  clear zf; intro vq52 zf
  have zf1 := b2_some zf
  clear zf; obtain ⟨vq53, Mq54, zq, zf⟩ := zf1
  refine g_callVwi (As := [.int vq51, .int vq52]) (rest := []) h ceX13_brother mlL_127 imX13_brother seX13_brother (by rfl) (kd_lt (by rw [(by decide : kd 103 = 11)]; decide)) (ent_11 (by decide : kd 103 = 11)) rfl rfl ⟨Nat.le_of_ble_eq_true rfl, Nat.le_of_ble_eq_true rfl⟩ ⟨(by dsimp only; omega), (by dsimp only; omega)⟩ rfl dL_law_510 rfl (Nat.le_of_ble_eq_true rfl) (cmX13_brother zq) ?_
  refine g_istore h [(6, .int vq53), (5, .int vq49), (0, Value.ref zb), (1, rv G.1 0), (2, rv G.1 103), (3, rv G.1 144), (4, .int x4)] (by decide) rfl dL_law_513 ?_
  refine g_aload_n h 4 rfl dL_law_515 ?_
  have zf1 := bd_some zf
  clear zf; obtain ⟨vq55, zq, zf⟩ := zf1
  refine g_callVri (As := []) (rest := []) h ceX13_thrown mlL_110 imX13_thrown seX13_thrown (by rfl) (kd_lt (by rw [(by decide : kd 103 = 11)]; decide)) (ent_11 (by decide : kd 103 = 11)) rfl rfl ⟨Nat.le_of_ble_eq_true rfl, Nat.le_of_ble_eq_true rfl⟩ ⟨(by dsimp only; omega), (by dsimp only; omega)⟩ rfl dL_law_516 rfl (Nat.le_of_ble_eq_true rfl) (cmX13_thrown zq) ?_
  refine g_iload h 1 rfl dL_law_519 ?_
  refine g_ic_eq h 526 (by decide) zf dL_law_521 ?_ ?_ <;> clear zf <;> intro zf
  · refine g_iload h 1 rfl dL_law_526 ?_
    refine g_if_ne h 543 (by decide) zf dL_law_528 ?_ ?_ <;> clear zf <;> intro zf
    · refine g_goto h 2164 (by decide) dL_law_543 ?_
      refine g_sub h [2, 3, 4, 5, 6] rfl ?_
      exact kL_law_b2164 zS zQ h zl (kc := kc) (ks := ks) (by omega) (by omega) zh23 zf
    · refine g_aload_n h 5 rfl dL_law_531 ?_
      refine g_iconst h 0 (v := 0) (by decide) dL_law_532 ?_
      refine g_lald h 1 (by decide : kd 144 = 22) (by decide) zf dL_law_533 ?_
      clear zf; intro vq56 zf
      refine g_iload h 0 rfl dL_law_534 ?_
      refine g_i2l h dL_law_536 ?_
      refine g_lcmp h dL_law_537 ?_
      refine g_if_eq h 543 (by decide) zf dL_law_538 ?_ ?_ <;> clear zf <;> intro zf
      · refine g_goto h 2164 (by decide) dL_law_543 ?_
        refine g_sub h [2, 3, 4, 5, 6] rfl ?_
        exact kL_law_b2164 zS zQ h zl (kc := kc) (ks := ks) (by omega) (by omega) zh23 zf
      · refine g_iconst h 0 (v := 0) (by decide) dL_law_541 ?_
        obtain rfl := Option.some.inj zf
        exact zQ _ _ _ _ _ _ (by omega) (by omega) dL_law_542
  · refine g_iconst h 0 (v := 0) (by decide) dL_law_524 ?_
    obtain rfl := Option.some.inj zf
    exact zQ _ _ _ _ _ _ (by omega) (by omega) dL_law_525

theorem kL_law_b546 {G : GX} {QL : Int32 → State → Prop} {xs : Nat → Int32} {L zb : Nat} (zS : SCR G zb L xs) (zQ : RTL G QL) (h : OKm G cL_law RL 7 (some .boolean) { frames := 2048, cells := 601024, slots := 7293034, locals := 84000 }) (zl : G.2.2.1.stackTraces = false) {kc ks : Nat} (zc : kc ≤ 500000) (zd : ks ≤ 6000000) {a23 : Mem → Int32 → Option Int32} (zh23 : ∀ (M : Mem) (x4 : Int32) (res : Int32), a23 M x4 = some res → GG G (QL res) (kc + 4) (ks + 24) 23 [(0, Value.ref zb), (1, rv G.1 0), (2, rv G.1 103), (3, rv G.1 144), (4, .int x4)] [] M) {M : Mem} {x4 : Int32} {res : Int32} (zf : fL_law_b546 xs L a23 M x4 = some res) : GG G (QL res) kc ks 546 [(0, Value.ref zb), (1, rv G.1 0), (2, rv G.1 103), (3, rv G.1 144), (4, .int x4)] [] M := by
  unfold fL_law_b546 at zf
  refine g_aload_n h 1 rfl dL_law_546 ?_
  refine g_aload_nX h 0 rfl dL_law_547 ?_
  refine g_iload h 4 rfl dL_law_548 ?_
  refine g_iconst h 1 (v := 1) (by decide) dL_law_550 ?_
  refine g_iadd h dL_law_551 ?_
  refine g_sld h zS zf dL_law_552 ?_
  clear zf; intro vq57 zf
  refine g_aload_nX h 0 rfl dL_law_553 ?_
  refine g_iload h 4 rfl dL_law_554 ?_
  refine g_iconst h 2 (v := 2) (by decide) dL_law_556 ?_
  refine g_iadd h dL_law_557 ?_
  refine g_sld h zS zf dL_law_558 ?_
  clear zf; intro vq58 zf
  refine g_aload_n h 3 rfl dL_law_559 ?_
  have zf1 := b2_some zf
  clear zf; obtain ⟨vq59, Mq60, zq, zf⟩ := zf1
  refine g_callSW (n := 4) (mc := 4) (ms := 24) (As := [rv G.1 0, .int vq57, .int vq58, rv G.1 144]) (rest := []) h cdL_way iniL ⟨by decide +kernel, by decide +kernel, by decide +kernel⟩ mlL_128 smL_way rfl rfl ⟨Nat.le_of_ble_eq_true rfl, Nat.le_of_ble_eq_true rfl⟩ ⟨(by dsimp only; omega), (by dsimp only; omega)⟩ rfl dL_law_560 rfl (Nat.le_of_ble_eq_true rfl) (cwL_way zl zq) ?_
  refine g_istore h [(5, .int vq59), (0, Value.ref zb), (1, rv G.1 0), (2, rv G.1 103), (3, rv G.1 144), (4, .int x4)] (by decide) rfl dL_law_563 ?_
  refine g_aload_n h 3 rfl dL_law_565 ?_
  refine g_aload_nX h 1 rfl dL_law_566 ?_
  refine g_iload h 5 rfl dL_law_567 ?_
  refine g_iconst h 1 (v := 1) (by decide) dL_law_569 ?_
  refine g_iadd h dL_law_570 ?_
  refine g_sld h zS zf dL_law_571 ?_
  clear zf; intro vq61 zf
  refine g_aload_nX h 1 rfl dL_law_572 ?_
  refine g_iload h 5 rfl dL_law_573 ?_
  refine g_iconst h 2 (v := 2) (by decide) dL_law_575 ?_
  refine g_iadd h dL_law_576 ?_
  refine g_sld h zS zf dL_law_577 ?_
  clear zf; intro vq62 zf
  have zf1 := b2_some zf
  clear zf; obtain ⟨vq63, Mq64, zq, zf⟩ := zf1
  refine g_callVwi (As := [.int vq61, .int vq62]) (rest := []) h ceX13_way mlL_130 imX13_way seX13_way (by rfl) (kd_lt (by rw [(by decide : kd 103 = 11)]; decide)) (ent_11 (by decide : kd 103 = 11)) rfl rfl ⟨Nat.le_of_ble_eq_true rfl, Nat.le_of_ble_eq_true rfl⟩ ⟨(by dsimp only; omega), (by dsimp only; omega)⟩ rfl dL_law_578 rfl (Nat.le_of_ble_eq_true rfl) (cmX13_way zq) ?_
  refine g_istore h [(6, .int vq63), (5, .int vq59), (0, Value.ref zb), (1, rv G.1 0), (2, rv G.1 103), (3, rv G.1 144), (4, .int x4)] (by decide) rfl dL_law_581 ?_
  refine g_aload_n h 4 rfl dL_law_583 ?_
  have zf1 := bd_some zf
  clear zf; obtain ⟨vq65, zq, zf⟩ := zf1
  refine g_callVri (As := []) (rest := []) h ceX13_thrown mlL_110 imX13_thrown seX13_thrown (by rfl) (kd_lt (by rw [(by decide : kd 103 = 11)]; decide)) (ent_11 (by decide : kd 103 = 11)) rfl rfl ⟨Nat.le_of_ble_eq_true rfl, Nat.le_of_ble_eq_true rfl⟩ ⟨(by dsimp only; omega), (by dsimp only; omega)⟩ rfl dL_law_584 rfl (Nat.le_of_ble_eq_true rfl) (cmX13_thrown zq) ?_
  refine g_iload h 1 rfl dL_law_587 ?_
  refine g_ic_eq h 594 (by decide) zf dL_law_589 ?_ ?_ <;> clear zf <;> intro zf
  · refine g_iload h 1 rfl dL_law_594 ?_
    refine g_if_ne h 611 (by decide) zf dL_law_596 ?_ ?_ <;> clear zf <;> intro zf
    · refine g_goto h 2164 (by decide) dL_law_611 ?_
      refine g_sub h [2, 3, 4, 5, 6] rfl ?_
      exact kL_law_b2164 zS zQ h zl (kc := kc) (ks := ks) (by omega) (by omega) zh23 zf
    · refine g_aload_n h 5 rfl dL_law_599 ?_
      refine g_iconst h 0 (v := 0) (by decide) dL_law_600 ?_
      refine g_lald h 1 (by decide : kd 144 = 22) (by decide) zf dL_law_601 ?_
      clear zf; intro vq66 zf
      refine g_iload h 0 rfl dL_law_602 ?_
      refine g_i2l h dL_law_604 ?_
      refine g_lcmp h dL_law_605 ?_
      refine g_if_eq h 611 (by decide) zf dL_law_606 ?_ ?_ <;> clear zf <;> intro zf
      · refine g_goto h 2164 (by decide) dL_law_611 ?_
        refine g_sub h [2, 3, 4, 5, 6] rfl ?_
        exact kL_law_b2164 zS zQ h zl (kc := kc) (ks := ks) (by omega) (by omega) zh23 zf
      · refine g_iconst h 0 (v := 0) (by decide) dL_law_609 ?_
        obtain rfl := Option.some.inj zf
        exact zQ _ _ _ _ _ _ (by omega) (by omega) dL_law_610
  · refine g_iconst h 0 (v := 0) (by decide) dL_law_592 ?_
    obtain rfl := Option.some.inj zf
    exact zQ _ _ _ _ _ _ (by omega) (by omega) dL_law_593

theorem kL_law_b614 {G : GX} {QL : Int32 → State → Prop} {xs : Nat → Int32} {L zb : Nat} (zS : SCR G zb L xs) (zQ : RTL G QL) (h : OKm G cL_law RL 7 (some .boolean) { frames := 2048, cells := 601024, slots := 7293034, locals := 84000 }) (zl : G.2.2.1.stackTraces = false) {kc ks : Nat} (zc : kc ≤ 500000) (zd : ks ≤ 6000000) {a23 : Mem → Int32 → Option Int32} (zh23 : ∀ (M : Mem) (x4 : Int32) (res : Int32), a23 M x4 = some res → GG G (QL res) (kc + 4) (ks + 24) 23 [(0, Value.ref zb), (1, rv G.1 0), (2, rv G.1 103), (3, rv G.1 144), (4, .int x4)] [] M) {M : Mem} {x4 : Int32} {res : Int32} (zf : fL_law_b614 xs L a23 M x4 = some res) : GG G (QL res) kc ks 614 [(0, Value.ref zb), (1, rv G.1 0), (2, rv G.1 103), (3, rv G.1 144), (4, .int x4)] [] M := by
  unfold fL_law_b614 at zf
  refine g_aload_n h 1 rfl dL_law_614 ?_
  refine g_aload_nX h 0 rfl dL_law_615 ?_
  refine g_iload h 4 rfl dL_law_616 ?_
  refine g_iconst h 1 (v := 1) (by decide) dL_law_618 ?_
  refine g_iadd h dL_law_619 ?_
  refine g_sld h zS zf dL_law_620 ?_
  clear zf; intro vq67 zf
  refine g_aload_nX h 0 rfl dL_law_621 ?_
  refine g_iload h 4 rfl dL_law_622 ?_
  refine g_iconst h 2 (v := 2) (by decide) dL_law_624 ?_
  refine g_iadd h dL_law_625 ?_
  refine g_sld h zS zf dL_law_626 ?_
  clear zf; intro vq68 zf
  refine g_aload_n h 3 rfl dL_law_627 ?_
  have zf1 := b2_some zf
  clear zf; obtain ⟨vq69, Mq70, zq, zf⟩ := zf1
  refine g_callSW (n := 4) (mc := 4) (ms := 24) (As := [rv G.1 0, .int vq67, .int vq68, rv G.1 144]) (rest := []) h cdL_friend iniL ⟨by decide +kernel, by decide +kernel, by decide +kernel⟩ mlL_131 smL_friend rfl rfl ⟨Nat.le_of_ble_eq_true rfl, Nat.le_of_ble_eq_true rfl⟩ ⟨(by dsimp only; omega), (by dsimp only; omega)⟩ rfl dL_law_628 rfl (Nat.le_of_ble_eq_true rfl) (cwL_friend zl zq) ?_
  refine g_istore h [(5, .int vq69), (0, Value.ref zb), (1, rv G.1 0), (2, rv G.1 103), (3, rv G.1 144), (4, .int x4)] (by decide) rfl dL_law_631 ?_
  refine g_aload_n h 3 rfl dL_law_633 ?_
  refine g_aload_nX h 1 rfl dL_law_634 ?_
  refine g_iload h 5 rfl dL_law_635 ?_
  refine g_iconst h 1 (v := 1) (by decide) dL_law_637 ?_
  refine g_iadd h dL_law_638 ?_
  refine g_sld h zS zf dL_law_639 ?_
  clear zf; intro vq71 zf
  refine g_aload_nX h 1 rfl dL_law_640 ?_
  refine g_iload h 5 rfl dL_law_641 ?_
  refine g_iconst h 2 (v := 2) (by decide) dL_law_643 ?_
  refine g_iadd h dL_law_644 ?_
  refine g_sld h zS zf dL_law_645 ?_
  clear zf; intro vq72 zf
  have zf1 := b2_some zf
  clear zf; obtain ⟨vq73, Mq74, zq, zf⟩ := zf1
  refine g_callVwi (As := [.int vq71, .int vq72]) (rest := []) h ceX13_friend mlL_133 imX13_friend seX13_friend (by rfl) (kd_lt (by rw [(by decide : kd 103 = 11)]; decide)) (ent_11 (by decide : kd 103 = 11)) rfl rfl ⟨Nat.le_of_ble_eq_true rfl, Nat.le_of_ble_eq_true rfl⟩ ⟨(by dsimp only; omega), (by dsimp only; omega)⟩ rfl dL_law_646 rfl (Nat.le_of_ble_eq_true rfl) (cmX13_friend zq) ?_
  refine g_istore h [(6, .int vq73), (5, .int vq69), (0, Value.ref zb), (1, rv G.1 0), (2, rv G.1 103), (3, rv G.1 144), (4, .int x4)] (by decide) rfl dL_law_649 ?_
  refine g_aload_n h 4 rfl dL_law_651 ?_
  have zf1 := bd_some zf
  clear zf; obtain ⟨vq75, zq, zf⟩ := zf1
  refine g_callVri (As := []) (rest := []) h ceX13_thrown mlL_110 imX13_thrown seX13_thrown (by rfl) (kd_lt (by rw [(by decide : kd 103 = 11)]; decide)) (ent_11 (by decide : kd 103 = 11)) rfl rfl ⟨Nat.le_of_ble_eq_true rfl, Nat.le_of_ble_eq_true rfl⟩ ⟨(by dsimp only; omega), (by dsimp only; omega)⟩ rfl dL_law_652 rfl (Nat.le_of_ble_eq_true rfl) (cmX13_thrown zq) ?_
  refine g_iload h 1 rfl dL_law_655 ?_
  refine g_ic_eq h 662 (by decide) zf dL_law_657 ?_ ?_ <;> clear zf <;> intro zf
  · refine g_iload h 1 rfl dL_law_662 ?_
    refine g_if_ne h 679 (by decide) zf dL_law_664 ?_ ?_ <;> clear zf <;> intro zf
    · refine g_goto h 2164 (by decide) dL_law_679 ?_
      refine g_sub h [2, 3, 4, 5, 6] rfl ?_
      exact kL_law_b2164 zS zQ h zl (kc := kc) (ks := ks) (by omega) (by omega) zh23 zf
    · refine g_aload_n h 5 rfl dL_law_667 ?_
      refine g_iconst h 0 (v := 0) (by decide) dL_law_668 ?_
      refine g_lald h 1 (by decide : kd 144 = 22) (by decide) zf dL_law_669 ?_
      clear zf; intro vq76 zf
      refine g_iload h 0 rfl dL_law_670 ?_
      refine g_i2l h dL_law_672 ?_
      refine g_lcmp h dL_law_673 ?_
      refine g_if_eq h 679 (by decide) zf dL_law_674 ?_ ?_ <;> clear zf <;> intro zf
      · refine g_goto h 2164 (by decide) dL_law_679 ?_
        refine g_sub h [2, 3, 4, 5, 6] rfl ?_
        exact kL_law_b2164 zS zQ h zl (kc := kc) (ks := ks) (by omega) (by omega) zh23 zf
      · refine g_iconst h 0 (v := 0) (by decide) dL_law_677 ?_
        obtain rfl := Option.some.inj zf
        exact zQ _ _ _ _ _ _ (by omega) (by omega) dL_law_678
  · refine g_iconst h 0 (v := 0) (by decide) dL_law_660 ?_
    obtain rfl := Option.some.inj zf
    exact zQ _ _ _ _ _ _ (by omega) (by omega) dL_law_661

theorem kL_law_b682 {G : GX} {QL : Int32 → State → Prop} {xs : Nat → Int32} {L zb : Nat} (zS : SCR G zb L xs) (zQ : RTL G QL) (h : OKm G cL_law RL 7 (some .boolean) { frames := 2048, cells := 601024, slots := 7293034, locals := 84000 }) (zl : G.2.2.1.stackTraces = false) {kc ks : Nat} (zc : kc ≤ 500000) (zd : ks ≤ 6000000) {a23 : Mem → Int32 → Option Int32} (zh23 : ∀ (M : Mem) (x4 : Int32) (res : Int32), a23 M x4 = some res → GG G (QL res) (kc + 4) (ks + 24) 23 [(0, Value.ref zb), (1, rv G.1 0), (2, rv G.1 103), (3, rv G.1 144), (4, .int x4)] [] M) {M : Mem} {x4 : Int32} {res : Int32} (zf : fL_law_b682 xs L a23 M x4 = some res) : GG G (QL res) kc ks 682 [(0, Value.ref zb), (1, rv G.1 0), (2, rv G.1 103), (3, rv G.1 144), (4, .int x4)] [] M := by
  unfold fL_law_b682 at zf
  refine g_aload_n h 1 rfl dL_law_682 ?_
  refine g_aload_nX h 0 rfl dL_law_683 ?_
  refine g_iload h 4 rfl dL_law_684 ?_
  refine g_iconst h 1 (v := 1) (by decide) dL_law_686 ?_
  refine g_iadd h dL_law_687 ?_
  refine g_sld h zS zf dL_law_688 ?_
  clear zf; intro vq77 zf
  have zf1 := b2_some zf
  clear zf; obtain ⟨vq78, Mq79, zq, zf⟩ := zf1
  refine g_callVwi (As := [.int vq77]) (rest := []) h ceX12_years mlL_134 imX12_years seX12_years (by rfl) (kd_lt (by rw [(by decide : kd 0 = 10)]; decide)) (ent_10 (by decide : kd 0 = 10)) rfl rfl ⟨Nat.le_of_ble_eq_true rfl, Nat.le_of_ble_eq_true rfl⟩ ⟨(by dsimp only; omega), (by dsimp only; omega)⟩ rfl dL_law_689 rfl (Nat.le_of_ble_eq_true rfl) (cmX12_years zq) ?_
  refine g_aload_n h 2 rfl dL_law_692 ?_
  refine g_aload_nX h 0 rfl dL_law_693 ?_
  refine g_iload h 4 rfl dL_law_694 ?_
  refine g_iconst h 1 (v := 1) (by decide) dL_law_696 ?_
  refine g_iadd h dL_law_697 ?_
  refine g_sld h zS zf dL_law_698 ?_
  clear zf; intro vq80 zf
  have zf1 := b2_some zf
  clear zf; obtain ⟨vq81, Mq82, zq, zf⟩ := zf1
  refine g_callVwi (As := [.int vq80]) (rest := [.int vq78]) h ceX13_years mlL_137 imX13_years seX13_years (by rfl) (kd_lt (by rw [(by decide : kd 103 = 11)]; decide)) (ent_11 (by decide : kd 103 = 11)) rfl rfl ⟨Nat.le_of_ble_eq_true rfl, Nat.le_of_ble_eq_true rfl⟩ ⟨(by dsimp only; omega), (by dsimp only; omega)⟩ rfl dL_law_699 rfl (Nat.le_of_ble_eq_true rfl) (cmX13_years zq) ?_
  refine g_ic_eq h 2164 (by decide) zf dL_law_702 ?_ ?_ <;> clear zf <;> intro zf
  · refine g_cs h (kc' := kc + 4) (ks' := ks + 24) (by omega) (by omega) ?_
    refine g_sub h [0, 1, 2, 3, 4] rfl ?_
    exact kL_law_b2164 zS zQ h zl (kc := kc) (ks := ks) (by omega) (by omega) zh23 zf
  · refine g_iconst h 0 (v := 0) (by decide) dL_law_705 ?_
    obtain rfl := Option.some.inj zf
    exact zQ _ _ _ _ _ _ (by omega) (by omega) dL_law_706

theorem kL_law_b707 {G : GX} {QL : Int32 → State → Prop} {xs : Nat → Int32} {L zb : Nat} (zS : SCR G zb L xs) (zQ : RTL G QL) (h : OKm G cL_law RL 7 (some .boolean) { frames := 2048, cells := 601024, slots := 7293034, locals := 84000 }) (zl : G.2.2.1.stackTraces = false) {kc ks : Nat} (zc : kc ≤ 500000) (zd : ks ≤ 6000000) {a23 : Mem → Int32 → Option Int32} (zh23 : ∀ (M : Mem) (x4 : Int32) (res : Int32), a23 M x4 = some res → GG G (QL res) (kc + 4) (ks + 24) 23 [(0, Value.ref zb), (1, rv G.1 0), (2, rv G.1 103), (3, rv G.1 144), (4, .int x4)] [] M) {M : Mem} {x4 : Int32} {res : Int32} (zf : fL_law_b707 xs L a23 M x4 = some res) : GG G (QL res) kc ks 707 [(0, Value.ref zb), (1, rv G.1 0), (2, rv G.1 103), (3, rv G.1 144), (4, .int x4)] [] M := by
  unfold fL_law_b707 at zf
  refine g_aload_n h 1 rfl dL_law_707 ?_
  refine g_aload_nX h 0 rfl dL_law_708 ?_
  refine g_iload h 4 rfl dL_law_709 ?_
  refine g_iconst h 1 (v := 1) (by decide) dL_law_711 ?_
  refine g_iadd h dL_law_712 ?_
  refine g_sld h zS zf dL_law_713 ?_
  clear zf; intro vq83 zf
  refine g_aload_nX h 0 rfl dL_law_714 ?_
  refine g_iload h 4 rfl dL_law_715 ?_
  refine g_iconst h 2 (v := 2) (by decide) dL_law_717 ?_
  refine g_iadd h dL_law_718 ?_
  refine g_sld h zS zf dL_law_719 ?_
  clear zf; intro vq84 zf
  refine g_aload_nX h 0 rfl dL_law_720 ?_
  refine g_iload h 4 rfl dL_law_721 ?_
  refine g_iconst h 3 (v := 3) (by decide) dL_law_723 ?_
  refine g_iadd h dL_law_724 ?_
  refine g_sld h zS zf dL_law_725 ?_
  clear zf; intro vq85 zf
  refine g_aload_n h 3 rfl dL_law_726 ?_
  have zf1 := b2_some zf
  clear zf; obtain ⟨vq86, Mq87, zq, zf⟩ := zf1
  refine g_callSW (n := 5) (mc := 4) (ms := 24) (As := [rv G.1 0, .int vq83, .int vq84, .int vq85, rv G.1 144]) (rest := []) h cdL_change iniL ⟨by decide +kernel, by decide +kernel, by decide +kernel⟩ mlL_138 smL_change rfl rfl ⟨Nat.le_of_ble_eq_true rfl, Nat.le_of_ble_eq_true rfl⟩ ⟨(by dsimp only; omega), (by dsimp only; omega)⟩ rfl dL_law_727 rfl (Nat.le_of_ble_eq_true rfl) (cwL_change zl zq) ?_
  refine g_istore h [(5, .int vq86), (0, Value.ref zb), (1, rv G.1 0), (2, rv G.1 103), (3, rv G.1 144), (4, .int x4)] (by decide) rfl dL_law_730 ?_
  refine g_aload_n h 3 rfl dL_law_732 ?_
  refine g_aload_nX h 1 rfl dL_law_733 ?_
  refine g_iload h 5 rfl dL_law_734 ?_
  refine g_iconst h 1 (v := 1) (by decide) dL_law_736 ?_
  refine g_iadd h dL_law_737 ?_
  refine g_sld h zS zf dL_law_738 ?_
  clear zf; intro vq88 zf
  refine g_aload_nX h 1 rfl dL_law_739 ?_
  refine g_iload h 5 rfl dL_law_740 ?_
  refine g_iconst h 2 (v := 2) (by decide) dL_law_742 ?_
  refine g_iadd h dL_law_743 ?_
  refine g_sld h zS zf dL_law_744 ?_
  clear zf; intro vq89 zf
  refine g_aload_nX h 1 rfl dL_law_745 ?_
  refine g_iload h 5 rfl dL_law_746 ?_
  refine g_iconst h 3 (v := 3) (by decide) dL_law_748 ?_
  refine g_iadd h dL_law_749 ?_
  refine g_sld h zS zf dL_law_750 ?_
  clear zf; intro vq90 zf
  have zf1 := b2_some zf
  clear zf; obtain ⟨vq91, Mq92, zq, zf⟩ := zf1
  refine g_callVwi (As := [.int vq88, .int vq89, .int vq90]) (rest := []) h ceX13_change mlL_141 imX13_change seX13_change (by rfl) (kd_lt (by rw [(by decide : kd 103 = 11)]; decide)) (ent_11 (by decide : kd 103 = 11)) rfl rfl ⟨Nat.le_of_ble_eq_true rfl, Nat.le_of_ble_eq_true rfl⟩ ⟨(by dsimp only; omega), (by dsimp only; omega)⟩ rfl dL_law_751 rfl (Nat.le_of_ble_eq_true rfl) (cmX13_change zq) ?_
  refine g_istore h [(6, .int vq91), (5, .int vq86), (0, Value.ref zb), (1, rv G.1 0), (2, rv G.1 103), (3, rv G.1 144), (4, .int x4)] (by decide) rfl dL_law_754 ?_
  refine g_aload_n h 4 rfl dL_law_756 ?_
  have zf1 := bd_some zf
  clear zf; obtain ⟨vq93, zq, zf⟩ := zf1
  refine g_callVri (As := []) (rest := []) h ceX13_thrown mlL_110 imX13_thrown seX13_thrown (by rfl) (kd_lt (by rw [(by decide : kd 103 = 11)]; decide)) (ent_11 (by decide : kd 103 = 11)) rfl rfl ⟨Nat.le_of_ble_eq_true rfl, Nat.le_of_ble_eq_true rfl⟩ ⟨(by dsimp only; omega), (by dsimp only; omega)⟩ rfl dL_law_757 rfl (Nat.le_of_ble_eq_true rfl) (cmX13_thrown zq) ?_
  refine g_iload h 1 rfl dL_law_760 ?_
  refine g_ic_eq h 767 (by decide) zf dL_law_762 ?_ ?_ <;> clear zf <;> intro zf
  · refine g_iload h 1 rfl dL_law_767 ?_
    refine g_if_ne h 784 (by decide) zf dL_law_769 ?_ ?_ <;> clear zf <;> intro zf
    · refine g_goto h 2164 (by decide) dL_law_784 ?_
      refine g_sub h [2, 3, 4, 5, 6] rfl ?_
      exact kL_law_b2164 zS zQ h zl (kc := kc) (ks := ks) (by omega) (by omega) zh23 zf
    · refine g_aload_n h 5 rfl dL_law_772 ?_
      refine g_iconst h 0 (v := 0) (by decide) dL_law_773 ?_
      refine g_lald h 1 (by decide : kd 144 = 22) (by decide) zf dL_law_774 ?_
      clear zf; intro vq94 zf
      refine g_iload h 0 rfl dL_law_775 ?_
      refine g_i2l h dL_law_777 ?_
      refine g_lcmp h dL_law_778 ?_
      refine g_if_eq h 784 (by decide) zf dL_law_779 ?_ ?_ <;> clear zf <;> intro zf
      · refine g_goto h 2164 (by decide) dL_law_784 ?_
        refine g_sub h [2, 3, 4, 5, 6] rfl ?_
        exact kL_law_b2164 zS zQ h zl (kc := kc) (ks := ks) (by omega) (by omega) zh23 zf
      · refine g_iconst h 0 (v := 0) (by decide) dL_law_782 ?_
        obtain rfl := Option.some.inj zf
        exact zQ _ _ _ _ _ _ (by omega) (by omega) dL_law_783
  · refine g_iconst h 0 (v := 0) (by decide) dL_law_765 ?_
    obtain rfl := Option.some.inj zf
    exact zQ _ _ _ _ _ _ (by omega) (by omega) dL_law_766

theorem kL_law_b787 {G : GX} {QL : Int32 → State → Prop} {xs : Nat → Int32} {L zb : Nat} (zS : SCR G zb L xs) (zQ : RTL G QL) (h : OKm G cL_law RL 7 (some .boolean) { frames := 2048, cells := 601024, slots := 7293034, locals := 84000 }) (zl : G.2.2.1.stackTraces = false) {kc ks : Nat} (zc : kc ≤ 500000) (zd : ks ≤ 6000000) {a23 : Mem → Int32 → Option Int32} (zh23 : ∀ (M : Mem) (x4 : Int32) (res : Int32), a23 M x4 = some res → GG G (QL res) (kc + 4) (ks + 24) 23 [(0, Value.ref zb), (1, rv G.1 0), (2, rv G.1 103), (3, rv G.1 144), (4, .int x4)] [] M) {M : Mem} {x4 : Int32} {res : Int32} (zf : fL_law_b787 xs L a23 M x4 = some res) : GG G (QL res) kc ks 787 [(0, Value.ref zb), (1, rv G.1 0), (2, rv G.1 103), (3, rv G.1 144), (4, .int x4)] [] M := by
  unfold fL_law_b787 at zf
  refine g_aload_n h 1 rfl dL_law_787 ?_
  refine g_aload_nX h 0 rfl dL_law_788 ?_
  refine g_iload h 4 rfl dL_law_789 ?_
  refine g_iconst h 1 (v := 1) (by decide) dL_law_791 ?_
  refine g_iadd h dL_law_792 ?_
  refine g_sld h zS zf dL_law_793 ?_
  clear zf; intro vq95 zf
  have zf1 := b2_some zf
  clear zf; obtain ⟨vq96, Mq97, zq, zf⟩ := zf1
  refine g_callVwi (As := [.int vq95]) (rest := []) h ceX12_term mlL_142 imX12_term seX12_term (by rfl) (kd_lt (by rw [(by decide : kd 0 = 10)]; decide)) (ent_10 (by decide : kd 0 = 10)) rfl rfl ⟨Nat.le_of_ble_eq_true rfl, Nat.le_of_ble_eq_true rfl⟩ ⟨(by dsimp only; omega), (by dsimp only; omega)⟩ rfl dL_law_794 rfl (Nat.le_of_ble_eq_true rfl) (cmX12_term zq) ?_
  refine g_aload_n h 2 rfl dL_law_797 ?_
  refine g_aload_nX h 0 rfl dL_law_798 ?_
  refine g_iload h 4 rfl dL_law_799 ?_
  refine g_iconst h 1 (v := 1) (by decide) dL_law_801 ?_
  refine g_iadd h dL_law_802 ?_
  refine g_sld h zS zf dL_law_803 ?_
  clear zf; intro vq98 zf
  have zf1 := b2_some zf
  clear zf; obtain ⟨vq99, Mq100, zq, zf⟩ := zf1
  refine g_callVwi (As := [.int vq98]) (rest := [.int vq96]) h ceX13_term mlL_145 imX13_term seX13_term (by rfl) (kd_lt (by rw [(by decide : kd 103 = 11)]; decide)) (ent_11 (by decide : kd 103 = 11)) rfl rfl ⟨Nat.le_of_ble_eq_true rfl, Nat.le_of_ble_eq_true rfl⟩ ⟨(by dsimp only; omega), (by dsimp only; omega)⟩ rfl dL_law_804 rfl (Nat.le_of_ble_eq_true rfl) (cmX13_term zq) ?_
  refine g_ic_eq h 2164 (by decide) zf dL_law_807 ?_ ?_ <;> clear zf <;> intro zf
  · refine g_cs h (kc' := kc + 4) (ks' := ks + 24) (by omega) (by omega) ?_
    refine g_sub h [0, 1, 2, 3, 4] rfl ?_
    exact kL_law_b2164 zS zQ h zl (kc := kc) (ks := ks) (by omega) (by omega) zh23 zf
  · refine g_iconst h 0 (v := 0) (by decide) dL_law_810 ?_
    obtain rfl := Option.some.inj zf
    exact zQ _ _ _ _ _ _ (by omega) (by omega) dL_law_811

theorem kL_law_b812 {G : GX} {QL : Int32 → State → Prop} {xs : Nat → Int32} {L zb : Nat} (zS : SCR G zb L xs) (zQ : RTL G QL) (h : OKm G cL_law RL 7 (some .boolean) { frames := 2048, cells := 601024, slots := 7293034, locals := 84000 }) (zl : G.2.2.1.stackTraces = false) {kc ks : Nat} (zc : kc ≤ 500000) (zd : ks ≤ 6000000) {a23 : Mem → Int32 → Option Int32} (zh23 : ∀ (M : Mem) (x4 : Int32) (res : Int32), a23 M x4 = some res → GG G (QL res) (kc + 4) (ks + 24) 23 [(0, Value.ref zb), (1, rv G.1 0), (2, rv G.1 103), (3, rv G.1 144), (4, .int x4)] [] M) {M : Mem} {x4 : Int32} {res : Int32} (zf : fL_law_b812 xs L a23 M x4 = some res) : GG G (QL res) kc ks 812 [(0, Value.ref zb), (1, rv G.1 0), (2, rv G.1 103), (3, rv G.1 144), (4, .int x4)] [] M := by
  unfold fL_law_b812 at zf
  refine g_aload_n h 1 rfl dL_law_812 ?_
  refine g_aload_nX h 0 rfl dL_law_813 ?_
  refine g_iload h 4 rfl dL_law_814 ?_
  refine g_iconst h 1 (v := 1) (by decide) dL_law_816 ?_
  refine g_iadd h dL_law_817 ?_
  refine g_sld h zS zf dL_law_818 ?_
  clear zf; intro vq101 zf
  have zf1 := b2_some zf
  clear zf; obtain ⟨vq102, Mq103, zq, zf⟩ := zf1
  refine g_callVwi (As := [.int vq101]) (rest := []) h ceX12_loan mlL_146 imX12_loan seX12_loan (by rfl) (kd_lt (by rw [(by decide : kd 0 = 10)]; decide)) (ent_10 (by decide : kd 0 = 10)) rfl rfl ⟨Nat.le_of_ble_eq_true rfl, Nat.le_of_ble_eq_true rfl⟩ ⟨(by dsimp only; omega), (by dsimp only; omega)⟩ rfl dL_law_819 rfl (Nat.le_of_ble_eq_true rfl) (cmX12_loan zq) ?_
  refine g_aload_n h 2 rfl dL_law_822 ?_
  refine g_aload_nX h 0 rfl dL_law_823 ?_
  refine g_iload h 4 rfl dL_law_824 ?_
  refine g_iconst h 1 (v := 1) (by decide) dL_law_826 ?_
  refine g_iadd h dL_law_827 ?_
  refine g_sld h zS zf dL_law_828 ?_
  clear zf; intro vq104 zf
  have zf1 := b2_some zf
  clear zf; obtain ⟨vq105, Mq106, zq, zf⟩ := zf1
  refine g_callVwi (As := [.int vq104]) (rest := [.int vq102]) h ceX13_loan mlL_149 imX13_loan seX13_loan (by rfl) (kd_lt (by rw [(by decide : kd 103 = 11)]; decide)) (ent_11 (by decide : kd 103 = 11)) rfl rfl ⟨Nat.le_of_ble_eq_true rfl, Nat.le_of_ble_eq_true rfl⟩ ⟨(by dsimp only; omega), (by dsimp only; omega)⟩ rfl dL_law_829 rfl (Nat.le_of_ble_eq_true rfl) (cmX13_loan zq) ?_
  refine g_ic_eq h 2164 (by decide) zf dL_law_832 ?_ ?_ <;> clear zf <;> intro zf
  · refine g_cs h (kc' := kc + 4) (ks' := ks + 24) (by omega) (by omega) ?_
    refine g_sub h [0, 1, 2, 3, 4] rfl ?_
    exact kL_law_b2164 zS zQ h zl (kc := kc) (ks := ks) (by omega) (by omega) zh23 zf
  · refine g_iconst h 0 (v := 0) (by decide) dL_law_835 ?_
    obtain rfl := Option.some.inj zf
    exact zQ _ _ _ _ _ _ (by omega) (by omega) dL_law_836

theorem kL_law_b837 {G : GX} {QL : Int32 → State → Prop} {xs : Nat → Int32} {L zb : Nat} (zS : SCR G zb L xs) (zQ : RTL G QL) (h : OKm G cL_law RL 7 (some .boolean) { frames := 2048, cells := 601024, slots := 7293034, locals := 84000 }) (zl : G.2.2.1.stackTraces = false) {kc ks : Nat} (zc : kc ≤ 500000) (zd : ks ≤ 6000000) {a23 : Mem → Int32 → Option Int32} (zh23 : ∀ (M : Mem) (x4 : Int32) (res : Int32), a23 M x4 = some res → GG G (QL res) (kc + 4) (ks + 24) 23 [(0, Value.ref zb), (1, rv G.1 0), (2, rv G.1 103), (3, rv G.1 144), (4, .int x4)] [] M) {M : Mem} {x4 : Int32} {res : Int32} (zf : fL_law_b837 xs L a23 M x4 = some res) : GG G (QL res) kc ks 837 [(0, Value.ref zb), (1, rv G.1 0), (2, rv G.1 103), (3, rv G.1 144), (4, .int x4)] [] M := by
  unfold fL_law_b837 at zf
  refine g_aload_n h 1 rfl dL_law_837 ?_
  refine g_aload_nX h 0 rfl dL_law_838 ?_
  refine g_iload h 4 rfl dL_law_839 ?_
  refine g_iconst h 1 (v := 1) (by decide) dL_law_841 ?_
  refine g_iadd h dL_law_842 ?_
  refine g_sld h zS zf dL_law_843 ?_
  clear zf; intro vq107 zf
  refine g_aload_nX h 0 rfl dL_law_844 ?_
  refine g_iload h 4 rfl dL_law_845 ?_
  refine g_iconst h 2 (v := 2) (by decide) dL_law_847 ?_
  refine g_iadd h dL_law_848 ?_
  refine g_sld h zS zf dL_law_849 ?_
  clear zf; intro vq108 zf
  refine g_aload_n h 3 rfl dL_law_850 ?_
  have zf1 := b2_some zf
  clear zf; obtain ⟨vq109, Mq110, zq, zf⟩ := zf1
  refine g_callSW (n := 4) (mc := 4) (ms := 24) (As := [rv G.1 0, .int vq107, .int vq108, rv G.1 144]) (rest := []) h cdL_gift iniL ⟨by decide +kernel, by decide +kernel, by decide +kernel⟩ mlL_150 smL_gift rfl rfl ⟨Nat.le_of_ble_eq_true rfl, Nat.le_of_ble_eq_true rfl⟩ ⟨(by dsimp only; omega), (by dsimp only; omega)⟩ rfl dL_law_851 rfl (Nat.le_of_ble_eq_true rfl) (cwL_gift zl zq) ?_
  refine g_istore h [(5, .int vq109), (0, Value.ref zb), (1, rv G.1 0), (2, rv G.1 103), (3, rv G.1 144), (4, .int x4)] (by decide) rfl dL_law_854 ?_
  refine g_aload_n h 3 rfl dL_law_856 ?_
  refine g_aload_nX h 1 rfl dL_law_857 ?_
  refine g_iload h 5 rfl dL_law_858 ?_
  refine g_iconst h 1 (v := 1) (by decide) dL_law_860 ?_
  refine g_iadd h dL_law_861 ?_
  refine g_sld h zS zf dL_law_862 ?_
  clear zf; intro vq111 zf
  refine g_aload_nX h 1 rfl dL_law_863 ?_
  refine g_iload h 5 rfl dL_law_864 ?_
  refine g_iconst h 2 (v := 2) (by decide) dL_law_866 ?_
  refine g_iadd h dL_law_867 ?_
  refine g_sld h zS zf dL_law_868 ?_
  clear zf; intro vq112 zf
  have zf1 := b2_some zf
  clear zf; obtain ⟨vq113, Mq114, zq, zf⟩ := zf1
  refine g_callVwi (As := [.int vq111, .int vq112]) (rest := []) h ceX13_gift mlL_152 imX13_gift seX13_gift (by rfl) (kd_lt (by rw [(by decide : kd 103 = 11)]; decide)) (ent_11 (by decide : kd 103 = 11)) rfl rfl ⟨Nat.le_of_ble_eq_true rfl, Nat.le_of_ble_eq_true rfl⟩ ⟨(by dsimp only; omega), (by dsimp only; omega)⟩ rfl dL_law_869 rfl (Nat.le_of_ble_eq_true rfl) (cmX13_gift zq) ?_
  refine g_istore h [(6, .int vq113), (5, .int vq109), (0, Value.ref zb), (1, rv G.1 0), (2, rv G.1 103), (3, rv G.1 144), (4, .int x4)] (by decide) rfl dL_law_872 ?_
  refine g_aload_n h 4 rfl dL_law_874 ?_
  have zf1 := bd_some zf
  clear zf; obtain ⟨vq115, zq, zf⟩ := zf1
  refine g_callVri (As := []) (rest := []) h ceX13_thrown mlL_110 imX13_thrown seX13_thrown (by rfl) (kd_lt (by rw [(by decide : kd 103 = 11)]; decide)) (ent_11 (by decide : kd 103 = 11)) rfl rfl ⟨Nat.le_of_ble_eq_true rfl, Nat.le_of_ble_eq_true rfl⟩ ⟨(by dsimp only; omega), (by dsimp only; omega)⟩ rfl dL_law_875 rfl (Nat.le_of_ble_eq_true rfl) (cmX13_thrown zq) ?_
  refine g_iload h 1 rfl dL_law_878 ?_
  refine g_ic_eq h 885 (by decide) zf dL_law_880 ?_ ?_ <;> clear zf <;> intro zf
  · refine g_iload h 1 rfl dL_law_885 ?_
    refine g_if_ne h 902 (by decide) zf dL_law_887 ?_ ?_ <;> clear zf <;> intro zf
    · refine g_goto h 2164 (by decide) dL_law_902 ?_
      refine g_sub h [2, 3, 4, 5, 6] rfl ?_
      exact kL_law_b2164 zS zQ h zl (kc := kc) (ks := ks) (by omega) (by omega) zh23 zf
    · refine g_aload_n h 5 rfl dL_law_890 ?_
      refine g_iconst h 0 (v := 0) (by decide) dL_law_891 ?_
      refine g_lald h 1 (by decide : kd 144 = 22) (by decide) zf dL_law_892 ?_
      clear zf; intro vq116 zf
      refine g_iload h 0 rfl dL_law_893 ?_
      refine g_i2l h dL_law_895 ?_
      refine g_lcmp h dL_law_896 ?_
      refine g_if_eq h 902 (by decide) zf dL_law_897 ?_ ?_ <;> clear zf <;> intro zf
      · refine g_goto h 2164 (by decide) dL_law_902 ?_
        refine g_sub h [2, 3, 4, 5, 6] rfl ?_
        exact kL_law_b2164 zS zQ h zl (kc := kc) (ks := ks) (by omega) (by omega) zh23 zf
      · refine g_iconst h 0 (v := 0) (by decide) dL_law_900 ?_
        obtain rfl := Option.some.inj zf
        exact zQ _ _ _ _ _ _ (by omega) (by omega) dL_law_901
  · refine g_iconst h 0 (v := 0) (by decide) dL_law_883 ?_
    obtain rfl := Option.some.inj zf
    exact zQ _ _ _ _ _ _ (by omega) (by omega) dL_law_884

theorem kL_law_b905 {G : GX} {QL : Int32 → State → Prop} {xs : Nat → Int32} {L zb : Nat} (zS : SCR G zb L xs) (zQ : RTL G QL) (h : OKm G cL_law RL 7 (some .boolean) { frames := 2048, cells := 601024, slots := 7293034, locals := 84000 }) (zl : G.2.2.1.stackTraces = false) {kc ks : Nat} (zc : kc ≤ 500000) (zd : ks ≤ 6000000) {a23 : Mem → Int32 → Option Int32} (zh23 : ∀ (M : Mem) (x4 : Int32) (res : Int32), a23 M x4 = some res → GG G (QL res) (kc + 4) (ks + 24) 23 [(0, Value.ref zb), (1, rv G.1 0), (2, rv G.1 103), (3, rv G.1 144), (4, .int x4)] [] M) {M : Mem} {x4 : Int32} {res : Int32} (zf : fL_law_b905 xs L a23 M x4 = some res) : GG G (QL res) kc ks 905 [(0, Value.ref zb), (1, rv G.1 0), (2, rv G.1 103), (3, rv G.1 144), (4, .int x4)] [] M := by
  unfold fL_law_b905 at zf
  refine g_aload_n h 1 rfl dL_law_905 ?_
  have zf1 := b2_some zf
  clear zf; obtain ⟨vq117, Mq118, zq, zf⟩ := zf1
  refine g_callVwi (As := []) (rest := []) h ceX12_undo mlL_153 imX12_undo seX12_undo (by rfl) (kd_lt (by rw [(by decide : kd 0 = 10)]; decide)) (ent_10 (by decide : kd 0 = 10)) rfl rfl ⟨Nat.le_of_ble_eq_true rfl, Nat.le_of_ble_eq_true rfl⟩ ⟨(by dsimp only; omega), (by dsimp only; omega)⟩ rfl dL_law_906 rfl (Nat.le_of_ble_eq_true rfl) (cmX12_undo zq) ?_
  refine g_aload_n h 2 rfl dL_law_909 ?_
  have zf1 := b2_some zf
  clear zf; obtain ⟨vq119, Mq120, zq, zf⟩ := zf1
  refine g_callVwi (As := []) (rest := [.int vq117]) h ceX13_undo mlL_156 imX13_undo seX13_undo (by rfl) (kd_lt (by rw [(by decide : kd 103 = 11)]; decide)) (ent_11 (by decide : kd 103 = 11)) rfl rfl ⟨Nat.le_of_ble_eq_true rfl, Nat.le_of_ble_eq_true rfl⟩ ⟨(by dsimp only; omega), (by dsimp only; omega)⟩ rfl dL_law_910 rfl (Nat.le_of_ble_eq_true rfl) (cmX13_undo zq) ?_
  refine g_ic_eq h 2164 (by decide) zf dL_law_913 ?_ ?_ <;> clear zf <;> intro zf
  · refine g_cs h (kc' := kc + 4) (ks' := ks + 24) (by omega) (by omega) ?_
    refine g_sub h [0, 1, 2, 3, 4] rfl ?_
    exact kL_law_b2164 zS zQ h zl (kc := kc) (ks := ks) (by omega) (by omega) zh23 zf
  · refine g_iconst h 0 (v := 0) (by decide) dL_law_916 ?_
    obtain rfl := Option.some.inj zf
    exact zQ _ _ _ _ _ _ (by omega) (by omega) dL_law_917

theorem kL_law_b918 {G : GX} {QL : Int32 → State → Prop} {xs : Nat → Int32} {L zb : Nat} (zS : SCR G zb L xs) (zQ : RTL G QL) (h : OKm G cL_law RL 7 (some .boolean) { frames := 2048, cells := 601024, slots := 7293034, locals := 84000 }) (zl : G.2.2.1.stackTraces = false) {kc ks : Nat} (zc : kc ≤ 500000) (zd : ks ≤ 6000000) {a23 : Mem → Int32 → Option Int32} (zh23 : ∀ (M : Mem) (x4 : Int32) (res : Int32), a23 M x4 = some res → GG G (QL res) (kc + 4) (ks + 24) 23 [(0, Value.ref zb), (1, rv G.1 0), (2, rv G.1 103), (3, rv G.1 144), (4, .int x4)] [] M) {M : Mem} {x4 : Int32} {res : Int32} (zf : fL_law_b918 xs L a23 M x4 = some res) : GG G (QL res) kc ks 918 [(0, Value.ref zb), (1, rv G.1 0), (2, rv G.1 103), (3, rv G.1 144), (4, .int x4)] [] M := by
  unfold fL_law_b918 at zf
  refine g_aload_n h 1 rfl dL_law_918 ?_
  refine g_aload_nX h 0 rfl dL_law_919 ?_
  refine g_iload h 4 rfl dL_law_920 ?_
  refine g_iconst h 1 (v := 1) (by decide) dL_law_922 ?_
  refine g_iadd h dL_law_923 ?_
  refine g_sld h zS zf dL_law_924 ?_
  clear zf; intro vq121 zf
  refine g_aload_nX h 0 rfl dL_law_925 ?_
  refine g_iload h 4 rfl dL_law_926 ?_
  refine g_iconst h 2 (v := 2) (by decide) dL_law_928 ?_
  refine g_iadd h dL_law_929 ?_
  refine g_sld h zS zf dL_law_930 ?_
  clear zf; intro vq122 zf
  refine g_aload_n h 3 rfl dL_law_931 ?_
  have zf1 := b2_some zf
  clear zf; obtain ⟨vq123, Mq124, zq, zf⟩ := zf1
  refine g_callSW (n := 4) (mc := 4) (ms := 24) (As := [rv G.1 0, .int vq121, .int vq122, rv G.1 144]) (rest := []) h cdL_then iniL ⟨by decide +kernel, by decide +kernel, by decide +kernel⟩ mlL_157 smL_then rfl rfl ⟨Nat.le_of_ble_eq_true rfl, Nat.le_of_ble_eq_true rfl⟩ ⟨(by dsimp only; omega), (by dsimp only; omega)⟩ rfl dL_law_932 rfl (Nat.le_of_ble_eq_true rfl) (cwL_then zl zq) ?_
  refine g_istore h [(5, .int vq123), (0, Value.ref zb), (1, rv G.1 0), (2, rv G.1 103), (3, rv G.1 144), (4, .int x4)] (by decide) rfl dL_law_935 ?_
  refine g_aload_n h 3 rfl dL_law_937 ?_
  refine g_aload_nX h 1 rfl dL_law_938 ?_
  refine g_iload h 5 rfl dL_law_939 ?_
  refine g_iconst h 1 (v := 1) (by decide) dL_law_941 ?_
  refine g_iadd h dL_law_942 ?_
  refine g_sld h zS zf dL_law_943 ?_
  clear zf; intro vq125 zf
  refine g_aload_nX h 1 rfl dL_law_944 ?_
  refine g_iload h 5 rfl dL_law_945 ?_
  refine g_iconst h 2 (v := 2) (by decide) dL_law_947 ?_
  refine g_iadd h dL_law_948 ?_
  refine g_sld h zS zf dL_law_949 ?_
  clear zf; intro vq126 zf
  have zf1 := b2_some zf
  clear zf; obtain ⟨vq127, Mq128, zq, zf⟩ := zf1
  refine g_callVwi (As := [.int vq125, .int vq126]) (rest := []) h ceX13_then mlL_159 imX13_then seX13_then (by rfl) (kd_lt (by rw [(by decide : kd 103 = 11)]; decide)) (ent_11 (by decide : kd 103 = 11)) rfl rfl ⟨Nat.le_of_ble_eq_true rfl, Nat.le_of_ble_eq_true rfl⟩ ⟨(by dsimp only; omega), (by dsimp only; omega)⟩ rfl dL_law_950 rfl (Nat.le_of_ble_eq_true rfl) (cmX13_then zq) ?_
  refine g_istore h [(6, .int vq127), (5, .int vq123), (0, Value.ref zb), (1, rv G.1 0), (2, rv G.1 103), (3, rv G.1 144), (4, .int x4)] (by decide) rfl dL_law_953 ?_
  refine g_aload_n h 4 rfl dL_law_955 ?_
  have zf1 := bd_some zf
  clear zf; obtain ⟨vq129, zq, zf⟩ := zf1
  refine g_callVri (As := []) (rest := []) h ceX13_thrown mlL_110 imX13_thrown seX13_thrown (by rfl) (kd_lt (by rw [(by decide : kd 103 = 11)]; decide)) (ent_11 (by decide : kd 103 = 11)) rfl rfl ⟨Nat.le_of_ble_eq_true rfl, Nat.le_of_ble_eq_true rfl⟩ ⟨(by dsimp only; omega), (by dsimp only; omega)⟩ rfl dL_law_956 rfl (Nat.le_of_ble_eq_true rfl) (cmX13_thrown zq) ?_
  refine g_iload h 1 rfl dL_law_959 ?_
  refine g_ic_eq h 966 (by decide) zf dL_law_961 ?_ ?_ <;> clear zf <;> intro zf
  · refine g_iload h 1 rfl dL_law_966 ?_
    refine g_if_ne h 983 (by decide) zf dL_law_968 ?_ ?_ <;> clear zf <;> intro zf
    · refine g_goto h 2164 (by decide) dL_law_983 ?_
      refine g_sub h [2, 3, 4, 5, 6] rfl ?_
      exact kL_law_b2164 zS zQ h zl (kc := kc) (ks := ks) (by omega) (by omega) zh23 zf
    · refine g_aload_n h 5 rfl dL_law_971 ?_
      refine g_iconst h 0 (v := 0) (by decide) dL_law_972 ?_
      refine g_lald h 1 (by decide : kd 144 = 22) (by decide) zf dL_law_973 ?_
      clear zf; intro vq130 zf
      refine g_iload h 0 rfl dL_law_974 ?_
      refine g_i2l h dL_law_976 ?_
      refine g_lcmp h dL_law_977 ?_
      refine g_if_eq h 983 (by decide) zf dL_law_978 ?_ ?_ <;> clear zf <;> intro zf
      · refine g_goto h 2164 (by decide) dL_law_983 ?_
        refine g_sub h [2, 3, 4, 5, 6] rfl ?_
        exact kL_law_b2164 zS zQ h zl (kc := kc) (ks := ks) (by omega) (by omega) zh23 zf
      · refine g_iconst h 0 (v := 0) (by decide) dL_law_981 ?_
        obtain rfl := Option.some.inj zf
        exact zQ _ _ _ _ _ _ (by omega) (by omega) dL_law_982
  · refine g_iconst h 0 (v := 0) (by decide) dL_law_964 ?_
    obtain rfl := Option.some.inj zf
    exact zQ _ _ _ _ _ _ (by omega) (by omega) dL_law_965

theorem kL_law_b986 {G : GX} {QL : Int32 → State → Prop} {xs : Nat → Int32} {L zb : Nat} (zS : SCR G zb L xs) (zQ : RTL G QL) (h : OKm G cL_law RL 7 (some .boolean) { frames := 2048, cells := 601024, slots := 7293034, locals := 84000 }) (zl : G.2.2.1.stackTraces = false) {kc ks : Nat} (zc : kc ≤ 500000) (zd : ks ≤ 6000000) {a23 : Mem → Int32 → Option Int32} (zh23 : ∀ (M : Mem) (x4 : Int32) (res : Int32), a23 M x4 = some res → GG G (QL res) (kc + 4) (ks + 24) 23 [(0, Value.ref zb), (1, rv G.1 0), (2, rv G.1 103), (3, rv G.1 144), (4, .int x4)] [] M) {M : Mem} {x4 : Int32} {res : Int32} (zf : fL_law_b986 xs L a23 M x4 = some res) : GG G (QL res) kc ks 986 [(0, Value.ref zb), (1, rv G.1 0), (2, rv G.1 103), (3, rv G.1 144), (4, .int x4)] [] M := by
  unfold fL_law_b986 at zf
  refine g_aload_n h 1 rfl dL_law_986 ?_
  refine g_aload_nX h 0 rfl dL_law_987 ?_
  refine g_iload h 4 rfl dL_law_988 ?_
  refine g_iconst h 1 (v := 1) (by decide) dL_law_990 ?_
  refine g_iadd h dL_law_991 ?_
  refine g_sld h zS zf dL_law_992 ?_
  clear zf; intro vq131 zf
  refine g_aload_n h 3 rfl dL_law_993 ?_
  have zf1 := b2_some zf
  clear zf; obtain ⟨vq132, Mq133, zq, zf⟩ := zf1
  refine g_callSW (n := 3) (mc := 4) (ms := 24) (As := [rv G.1 0, .int vq131, rv G.1 144]) (rest := []) h cdL_stays iniL ⟨by decide +kernel, by decide +kernel, by decide +kernel⟩ mlL_160 smL_stays rfl rfl ⟨Nat.le_of_ble_eq_true rfl, Nat.le_of_ble_eq_true rfl⟩ ⟨(by dsimp only; omega), (by dsimp only; omega)⟩ rfl dL_law_994 rfl (Nat.le_of_ble_eq_true rfl) (cwL_stays zl zq) ?_
  refine g_istore h [(5, .int vq132), (0, Value.ref zb), (1, rv G.1 0), (2, rv G.1 103), (3, rv G.1 144), (4, .int x4)] (by decide) rfl dL_law_997 ?_
  refine g_aload_n h 3 rfl dL_law_999 ?_
  refine g_aload_nX h 1 rfl dL_law_1000 ?_
  refine g_iload h 5 rfl dL_law_1001 ?_
  refine g_iconst h 1 (v := 1) (by decide) dL_law_1003 ?_
  refine g_iadd h dL_law_1004 ?_
  refine g_sld h zS zf dL_law_1005 ?_
  clear zf; intro vq134 zf
  have zf1 := b2_some zf
  clear zf; obtain ⟨vq135, Mq136, zq, zf⟩ := zf1
  refine g_callVwi (As := [.int vq134]) (rest := []) h ceX13_stays mlL_162 imX13_stays seX13_stays (by rfl) (kd_lt (by rw [(by decide : kd 103 = 11)]; decide)) (ent_11 (by decide : kd 103 = 11)) rfl rfl ⟨Nat.le_of_ble_eq_true rfl, Nat.le_of_ble_eq_true rfl⟩ ⟨(by dsimp only; omega), (by dsimp only; omega)⟩ rfl dL_law_1006 rfl (Nat.le_of_ble_eq_true rfl) (cmX13_stays zq) ?_
  refine g_istore h [(6, .int vq135), (5, .int vq132), (0, Value.ref zb), (1, rv G.1 0), (2, rv G.1 103), (3, rv G.1 144), (4, .int x4)] (by decide) rfl dL_law_1009 ?_
  refine g_aload_n h 4 rfl dL_law_1011 ?_
  have zf1 := bd_some zf
  clear zf; obtain ⟨vq137, zq, zf⟩ := zf1
  refine g_callVri (As := []) (rest := []) h ceX13_thrown mlL_110 imX13_thrown seX13_thrown (by rfl) (kd_lt (by rw [(by decide : kd 103 = 11)]; decide)) (ent_11 (by decide : kd 103 = 11)) rfl rfl ⟨Nat.le_of_ble_eq_true rfl, Nat.le_of_ble_eq_true rfl⟩ ⟨(by dsimp only; omega), (by dsimp only; omega)⟩ rfl dL_law_1012 rfl (Nat.le_of_ble_eq_true rfl) (cmX13_thrown zq) ?_
  refine g_iload h 1 rfl dL_law_1015 ?_
  refine g_ic_eq h 1022 (by decide) zf dL_law_1017 ?_ ?_ <;> clear zf <;> intro zf
  · refine g_iload h 1 rfl dL_law_1022 ?_
    refine g_if_ne h 1039 (by decide) zf dL_law_1024 ?_ ?_ <;> clear zf <;> intro zf
    · refine g_goto h 2164 (by decide) dL_law_1039 ?_
      refine g_sub h [2, 3, 4, 5, 6] rfl ?_
      exact kL_law_b2164 zS zQ h zl (kc := kc) (ks := ks) (by omega) (by omega) zh23 zf
    · refine g_aload_n h 5 rfl dL_law_1027 ?_
      refine g_iconst h 0 (v := 0) (by decide) dL_law_1028 ?_
      refine g_lald h 1 (by decide : kd 144 = 22) (by decide) zf dL_law_1029 ?_
      clear zf; intro vq138 zf
      refine g_iload h 0 rfl dL_law_1030 ?_
      refine g_i2l h dL_law_1032 ?_
      refine g_lcmp h dL_law_1033 ?_
      refine g_if_eq h 1039 (by decide) zf dL_law_1034 ?_ ?_ <;> clear zf <;> intro zf
      · refine g_goto h 2164 (by decide) dL_law_1039 ?_
        refine g_sub h [2, 3, 4, 5, 6] rfl ?_
        exact kL_law_b2164 zS zQ h zl (kc := kc) (ks := ks) (by omega) (by omega) zh23 zf
      · refine g_iconst h 0 (v := 0) (by decide) dL_law_1037 ?_
        obtain rfl := Option.some.inj zf
        exact zQ _ _ _ _ _ _ (by omega) (by omega) dL_law_1038
  · refine g_iconst h 0 (v := 0) (by decide) dL_law_1020 ?_
    obtain rfl := Option.some.inj zf
    exact zQ _ _ _ _ _ _ (by omega) (by omega) dL_law_1021

theorem kL_law_b1042 {G : GX} {QL : Int32 → State → Prop} {xs : Nat → Int32} {L zb : Nat} (zS : SCR G zb L xs) (zQ : RTL G QL) (h : OKm G cL_law RL 7 (some .boolean) { frames := 2048, cells := 601024, slots := 7293034, locals := 84000 }) (zl : G.2.2.1.stackTraces = false) {kc ks : Nat} (zc : kc ≤ 500000) (zd : ks ≤ 6000000) {a23 : Mem → Int32 → Option Int32} (zh23 : ∀ (M : Mem) (x4 : Int32) (res : Int32), a23 M x4 = some res → GG G (QL res) (kc + 4) (ks + 24) 23 [(0, Value.ref zb), (1, rv G.1 0), (2, rv G.1 103), (3, rv G.1 144), (4, .int x4)] [] M) {M : Mem} {x4 : Int32} {res : Int32} (zf : fL_law_b1042 xs L a23 M x4 = some res) : GG G (QL res) kc ks 1042 [(0, Value.ref zb), (1, rv G.1 0), (2, rv G.1 103), (3, rv G.1 144), (4, .int x4)] [] M := by
  unfold fL_law_b1042 at zf
  refine g_aload_n h 1 rfl dL_law_1042 ?_
  have zf1 := b2_some zf
  clear zf; obtain ⟨vq139, Mq140, zq, zf⟩ := zf1
  refine g_callVwi (As := []) (rest := []) h ceX12_fair mlL_163 imX12_fair seX12_fair (by rfl) (kd_lt (by rw [(by decide : kd 0 = 10)]; decide)) (ent_10 (by decide : kd 0 = 10)) rfl rfl ⟨Nat.le_of_ble_eq_true rfl, Nat.le_of_ble_eq_true rfl⟩ ⟨(by dsimp only; omega), (by dsimp only; omega)⟩ rfl dL_law_1043 rfl (Nat.le_of_ble_eq_true rfl) (cmX12_fair zq) ?_
  refine g_aload_n h 2 rfl dL_law_1046 ?_
  have zf1 := b2_some zf
  clear zf; obtain ⟨vq141, Mq142, zq, zf⟩ := zf1
  refine g_callVwi (As := []) (rest := [.int vq139]) h ceX13_fair mlL_166 imX13_fair seX13_fair (by rfl) (kd_lt (by rw [(by decide : kd 103 = 11)]; decide)) (ent_11 (by decide : kd 103 = 11)) rfl rfl ⟨Nat.le_of_ble_eq_true rfl, Nat.le_of_ble_eq_true rfl⟩ ⟨(by dsimp only; omega), (by dsimp only; omega)⟩ rfl dL_law_1047 rfl (Nat.le_of_ble_eq_true rfl) (cmX13_fair zq) ?_
  refine g_ic_eq h 2164 (by decide) zf dL_law_1050 ?_ ?_ <;> clear zf <;> intro zf
  · refine g_cs h (kc' := kc + 4) (ks' := ks + 24) (by omega) (by omega) ?_
    refine g_sub h [0, 1, 2, 3, 4] rfl ?_
    exact kL_law_b2164 zS zQ h zl (kc := kc) (ks := ks) (by omega) (by omega) zh23 zf
  · refine g_iconst h 0 (v := 0) (by decide) dL_law_1053 ?_
    obtain rfl := Option.some.inj zf
    exact zQ _ _ _ _ _ _ (by omega) (by omega) dL_law_1054

theorem kL_law_b1055 {G : GX} {QL : Int32 → State → Prop} {xs : Nat → Int32} {L zb : Nat} (zS : SCR G zb L xs) (zQ : RTL G QL) (h : OKm G cL_law RL 7 (some .boolean) { frames := 2048, cells := 601024, slots := 7293034, locals := 84000 }) (zl : G.2.2.1.stackTraces = false) {kc ks : Nat} (zc : kc ≤ 500000) (zd : ks ≤ 6000000) {a23 : Mem → Int32 → Option Int32} (zh23 : ∀ (M : Mem) (x4 : Int32) (res : Int32), a23 M x4 = some res → GG G (QL res) (kc + 4) (ks + 24) 23 [(0, Value.ref zb), (1, rv G.1 0), (2, rv G.1 103), (3, rv G.1 144), (4, .int x4)] [] M) {M : Mem} {x4 : Int32} {res : Int32} (zf : fL_law_b1055 xs L a23 M x4 = some res) : GG G (QL res) kc ks 1055 [(0, Value.ref zb), (1, rv G.1 0), (2, rv G.1 103), (3, rv G.1 144), (4, .int x4)] [] M := by
  unfold fL_law_b1055 at zf
  refine g_aload_n h 1 rfl dL_law_1055 ?_
  have zf1 := b2_some zf
  clear zf; obtain ⟨vq143, Mq144, zq, zf⟩ := zf1
  refine g_callVwi (As := []) (rest := []) h ceX12_least mlL_167 imX12_least seX12_least (by rfl) (kd_lt (by rw [(by decide : kd 0 = 10)]; decide)) (ent_10 (by decide : kd 0 = 10)) rfl rfl ⟨Nat.le_of_ble_eq_true rfl, Nat.le_of_ble_eq_true rfl⟩ ⟨(by dsimp only; omega), (by dsimp only; omega)⟩ rfl dL_law_1056 rfl (Nat.le_of_ble_eq_true rfl) (cmX12_least zq) ?_
  refine g_aload_n h 2 rfl dL_law_1059 ?_
  have zf1 := b2_some zf
  clear zf; obtain ⟨vq145, Mq146, zq, zf⟩ := zf1
  refine g_callVwi (As := []) (rest := [.int vq143]) h ceX13_least mlL_170 imX13_least seX13_least (by rfl) (kd_lt (by rw [(by decide : kd 103 = 11)]; decide)) (ent_11 (by decide : kd 103 = 11)) rfl rfl ⟨Nat.le_of_ble_eq_true rfl, Nat.le_of_ble_eq_true rfl⟩ ⟨(by dsimp only; omega), (by dsimp only; omega)⟩ rfl dL_law_1060 rfl (Nat.le_of_ble_eq_true rfl) (cmX13_least zq) ?_
  refine g_ic_eq h 2164 (by decide) zf dL_law_1063 ?_ ?_ <;> clear zf <;> intro zf
  · refine g_cs h (kc' := kc + 4) (ks' := ks + 24) (by omega) (by omega) ?_
    refine g_sub h [0, 1, 2, 3, 4] rfl ?_
    exact kL_law_b2164 zS zQ h zl (kc := kc) (ks := ks) (by omega) (by omega) zh23 zf
  · refine g_iconst h 0 (v := 0) (by decide) dL_law_1066 ?_
    obtain rfl := Option.some.inj zf
    exact zQ _ _ _ _ _ _ (by omega) (by omega) dL_law_1067

theorem kL_law_b1068 {G : GX} {QL : Int32 → State → Prop} {xs : Nat → Int32} {L zb : Nat} (zS : SCR G zb L xs) (zQ : RTL G QL) (h : OKm G cL_law RL 7 (some .boolean) { frames := 2048, cells := 601024, slots := 7293034, locals := 84000 }) (zl : G.2.2.1.stackTraces = false) {kc ks : Nat} (zc : kc ≤ 500000) (zd : ks ≤ 6000000) {a23 : Mem → Int32 → Option Int32} (zh23 : ∀ (M : Mem) (x4 : Int32) (res : Int32), a23 M x4 = some res → GG G (QL res) (kc + 4) (ks + 24) 23 [(0, Value.ref zb), (1, rv G.1 0), (2, rv G.1 103), (3, rv G.1 144), (4, .int x4)] [] M) {M : Mem} {x4 : Int32} {res : Int32} (zf : fL_law_b1068 xs L a23 M x4 = some res) : GG G (QL res) kc ks 1068 [(0, Value.ref zb), (1, rv G.1 0), (2, rv G.1 103), (3, rv G.1 144), (4, .int x4)] [] M := by
  unfold fL_law_b1068 at zf
  refine g_aload_n h 1 rfl dL_law_1068 ?_
  refine g_aload_nX h 0 rfl dL_law_1069 ?_
  refine g_iload h 4 rfl dL_law_1070 ?_
  refine g_iconst h 1 (v := 1) (by decide) dL_law_1072 ?_
  refine g_iadd h dL_law_1073 ?_
  refine g_sld h zS zf dL_law_1074 ?_
  clear zf; intro vq147 zf
  refine g_aload_n h 3 rfl dL_law_1075 ?_
  have zf1 := b2_some zf
  clear zf; obtain ⟨vq148, Mq149, zq, zf⟩ := zf1
  refine g_callSW (n := 3) (mc := 4) (ms := 24) (As := [rv G.1 0, .int vq147, rv G.1 144]) (rest := []) h cdL_cost iniL ⟨by decide +kernel, by decide +kernel, by decide +kernel⟩ mlL_171 smL_cost rfl rfl ⟨Nat.le_of_ble_eq_true rfl, Nat.le_of_ble_eq_true rfl⟩ ⟨(by dsimp only; omega), (by dsimp only; omega)⟩ rfl dL_law_1076 rfl (Nat.le_of_ble_eq_true rfl) (cwL_cost zl zq) ?_
  refine g_istore h [(5, .int vq148), (0, Value.ref zb), (1, rv G.1 0), (2, rv G.1 103), (3, rv G.1 144), (4, .int x4)] (by decide) rfl dL_law_1079 ?_
  refine g_aload_n h 3 rfl dL_law_1081 ?_
  refine g_aload_nX h 1 rfl dL_law_1082 ?_
  refine g_iload h 5 rfl dL_law_1083 ?_
  refine g_iconst h 1 (v := 1) (by decide) dL_law_1085 ?_
  refine g_iadd h dL_law_1086 ?_
  refine g_sld h zS zf dL_law_1087 ?_
  clear zf; intro vq150 zf
  have zf1 := b2_some zf
  clear zf; obtain ⟨vq151, Mq152, zq, zf⟩ := zf1
  refine g_callVwi (As := [.int vq150]) (rest := []) h ceX13_cost mlL_173 imX13_cost seX13_cost (by rfl) (kd_lt (by rw [(by decide : kd 103 = 11)]; decide)) (ent_11 (by decide : kd 103 = 11)) rfl rfl ⟨Nat.le_of_ble_eq_true rfl, Nat.le_of_ble_eq_true rfl⟩ ⟨(by dsimp only; omega), (by dsimp only; omega)⟩ rfl dL_law_1088 rfl (Nat.le_of_ble_eq_true rfl) (cmX13_cost zq) ?_
  refine g_istore h [(6, .int vq151), (5, .int vq148), (0, Value.ref zb), (1, rv G.1 0), (2, rv G.1 103), (3, rv G.1 144), (4, .int x4)] (by decide) rfl dL_law_1091 ?_
  refine g_aload_n h 4 rfl dL_law_1093 ?_
  have zf1 := bd_some zf
  clear zf; obtain ⟨vq153, zq, zf⟩ := zf1
  refine g_callVri (As := []) (rest := []) h ceX13_thrown mlL_110 imX13_thrown seX13_thrown (by rfl) (kd_lt (by rw [(by decide : kd 103 = 11)]; decide)) (ent_11 (by decide : kd 103 = 11)) rfl rfl ⟨Nat.le_of_ble_eq_true rfl, Nat.le_of_ble_eq_true rfl⟩ ⟨(by dsimp only; omega), (by dsimp only; omega)⟩ rfl dL_law_1094 rfl (Nat.le_of_ble_eq_true rfl) (cmX13_thrown zq) ?_
  refine g_iload h 1 rfl dL_law_1097 ?_
  refine g_ic_eq h 1104 (by decide) zf dL_law_1099 ?_ ?_ <;> clear zf <;> intro zf
  · refine g_iload h 1 rfl dL_law_1104 ?_
    refine g_if_ne h 1121 (by decide) zf dL_law_1106 ?_ ?_ <;> clear zf <;> intro zf
    · refine g_goto h 2164 (by decide) dL_law_1121 ?_
      refine g_sub h [2, 3, 4, 5, 6] rfl ?_
      exact kL_law_b2164 zS zQ h zl (kc := kc) (ks := ks) (by omega) (by omega) zh23 zf
    · refine g_aload_n h 5 rfl dL_law_1109 ?_
      refine g_iconst h 0 (v := 0) (by decide) dL_law_1110 ?_
      refine g_lald h 1 (by decide : kd 144 = 22) (by decide) zf dL_law_1111 ?_
      clear zf; intro vq154 zf
      refine g_iload h 0 rfl dL_law_1112 ?_
      refine g_i2l h dL_law_1114 ?_
      refine g_lcmp h dL_law_1115 ?_
      refine g_if_eq h 1121 (by decide) zf dL_law_1116 ?_ ?_ <;> clear zf <;> intro zf
      · refine g_goto h 2164 (by decide) dL_law_1121 ?_
        refine g_sub h [2, 3, 4, 5, 6] rfl ?_
        exact kL_law_b2164 zS zQ h zl (kc := kc) (ks := ks) (by omega) (by omega) zh23 zf
      · refine g_iconst h 0 (v := 0) (by decide) dL_law_1119 ?_
        obtain rfl := Option.some.inj zf
        exact zQ _ _ _ _ _ _ (by omega) (by omega) dL_law_1120
  · refine g_iconst h 0 (v := 0) (by decide) dL_law_1102 ?_
    obtain rfl := Option.some.inj zf
    exact zQ _ _ _ _ _ _ (by omega) (by omega) dL_law_1103

theorem kL_law_b1124 {G : GX} {QL : Int32 → State → Prop} {xs : Nat → Int32} {L zb : Nat} (zS : SCR G zb L xs) (zQ : RTL G QL) (h : OKm G cL_law RL 7 (some .boolean) { frames := 2048, cells := 601024, slots := 7293034, locals := 84000 }) (zl : G.2.2.1.stackTraces = false) {kc ks : Nat} (zc : kc ≤ 500000) (zd : ks ≤ 6000000) {a23 : Mem → Int32 → Option Int32} (zh23 : ∀ (M : Mem) (x4 : Int32) (res : Int32), a23 M x4 = some res → GG G (QL res) (kc + 4) (ks + 24) 23 [(0, Value.ref zb), (1, rv G.1 0), (2, rv G.1 103), (3, rv G.1 144), (4, .int x4)] [] M) {M : Mem} {x4 : Int32} {res : Int32} (zf : fL_law_b1124 xs L a23 M x4 = some res) : GG G (QL res) kc ks 1124 [(0, Value.ref zb), (1, rv G.1 0), (2, rv G.1 103), (3, rv G.1 144), (4, .int x4)] [] M := by
  unfold fL_law_b1124 at zf
  refine g_aload_n h 1 rfl dL_law_1124 ?_
  refine g_aload_nX h 0 rfl dL_law_1125 ?_
  refine g_iload h 4 rfl dL_law_1126 ?_
  refine g_iconst h 1 (v := 1) (by decide) dL_law_1128 ?_
  refine g_iadd h dL_law_1129 ?_
  refine g_sld h zS zf dL_law_1130 ?_
  clear zf; intro vq155 zf
  refine g_aload_nX h 0 rfl dL_law_1131 ?_
  refine g_iload h 4 rfl dL_law_1132 ?_
  refine g_iconst h 2 (v := 2) (by decide) dL_law_1134 ?_
  refine g_iadd h dL_law_1135 ?_
  refine g_sld h zS zf dL_law_1136 ?_
  clear zf; intro vq156 zf
  refine g_aload_n h 3 rfl dL_law_1137 ?_
  have zf1 := b2_some zf
  clear zf; obtain ⟨vq157, Mq158, zq, zf⟩ := zf1
  refine g_callSW (n := 4) (mc := 4) (ms := 24) (As := [rv G.1 0, .int vq155, .int vq156, rv G.1 144]) (rest := []) h cdL_plan iniL ⟨by decide +kernel, by decide +kernel, by decide +kernel⟩ mlL_174 smL_plan rfl rfl ⟨Nat.le_of_ble_eq_true rfl, Nat.le_of_ble_eq_true rfl⟩ ⟨(by dsimp only; omega), (by dsimp only; omega)⟩ rfl dL_law_1138 rfl (Nat.le_of_ble_eq_true rfl) (cwL_plan zl zq) ?_
  refine g_istore h [(5, .int vq157), (0, Value.ref zb), (1, rv G.1 0), (2, rv G.1 103), (3, rv G.1 144), (4, .int x4)] (by decide) rfl dL_law_1141 ?_
  refine g_aload_n h 3 rfl dL_law_1143 ?_
  refine g_aload_nX h 1 rfl dL_law_1144 ?_
  refine g_iload h 5 rfl dL_law_1145 ?_
  refine g_iconst h 1 (v := 1) (by decide) dL_law_1147 ?_
  refine g_iadd h dL_law_1148 ?_
  refine g_sld h zS zf dL_law_1149 ?_
  clear zf; intro vq159 zf
  refine g_aload_nX h 1 rfl dL_law_1150 ?_
  refine g_iload h 5 rfl dL_law_1151 ?_
  refine g_iconst h 2 (v := 2) (by decide) dL_law_1153 ?_
  refine g_iadd h dL_law_1154 ?_
  refine g_sld h zS zf dL_law_1155 ?_
  clear zf; intro vq160 zf
  have zf1 := b2_some zf
  clear zf; obtain ⟨vq161, Mq162, zq, zf⟩ := zf1
  refine g_callVwi (As := [.int vq159, .int vq160]) (rest := []) h ceX13_plan mlL_176 imX13_plan seX13_plan (by rfl) (kd_lt (by rw [(by decide : kd 103 = 11)]; decide)) (ent_11 (by decide : kd 103 = 11)) rfl rfl ⟨Nat.le_of_ble_eq_true rfl, Nat.le_of_ble_eq_true rfl⟩ ⟨(by dsimp only; omega), (by dsimp only; omega)⟩ rfl dL_law_1156 rfl (Nat.le_of_ble_eq_true rfl) (cmX13_plan zq) ?_
  refine g_istore h [(6, .int vq161), (5, .int vq157), (0, Value.ref zb), (1, rv G.1 0), (2, rv G.1 103), (3, rv G.1 144), (4, .int x4)] (by decide) rfl dL_law_1159 ?_
  refine g_aload_n h 4 rfl dL_law_1161 ?_
  have zf1 := bd_some zf
  clear zf; obtain ⟨vq163, zq, zf⟩ := zf1
  refine g_callVri (As := []) (rest := []) h ceX13_thrown mlL_110 imX13_thrown seX13_thrown (by rfl) (kd_lt (by rw [(by decide : kd 103 = 11)]; decide)) (ent_11 (by decide : kd 103 = 11)) rfl rfl ⟨Nat.le_of_ble_eq_true rfl, Nat.le_of_ble_eq_true rfl⟩ ⟨(by dsimp only; omega), (by dsimp only; omega)⟩ rfl dL_law_1162 rfl (Nat.le_of_ble_eq_true rfl) (cmX13_thrown zq) ?_
  refine g_iload h 1 rfl dL_law_1165 ?_
  refine g_ic_eq h 1172 (by decide) zf dL_law_1167 ?_ ?_ <;> clear zf <;> intro zf
  · refine g_iload h 1 rfl dL_law_1172 ?_
    refine g_if_ne h 1189 (by decide) zf dL_law_1174 ?_ ?_ <;> clear zf <;> intro zf
    · refine g_goto h 2164 (by decide) dL_law_1189 ?_
      refine g_sub h [2, 3, 4, 5, 6] rfl ?_
      exact kL_law_b2164 zS zQ h zl (kc := kc) (ks := ks) (by omega) (by omega) zh23 zf
    · refine g_aload_n h 5 rfl dL_law_1177 ?_
      refine g_iconst h 0 (v := 0) (by decide) dL_law_1178 ?_
      refine g_lald h 1 (by decide : kd 144 = 22) (by decide) zf dL_law_1179 ?_
      clear zf; intro vq164 zf
      refine g_iload h 0 rfl dL_law_1180 ?_
      refine g_i2l h dL_law_1182 ?_
      refine g_lcmp h dL_law_1183 ?_
      refine g_if_eq h 1189 (by decide) zf dL_law_1184 ?_ ?_ <;> clear zf <;> intro zf
      · refine g_goto h 2164 (by decide) dL_law_1189 ?_
        refine g_sub h [2, 3, 4, 5, 6] rfl ?_
        exact kL_law_b2164 zS zQ h zl (kc := kc) (ks := ks) (by omega) (by omega) zh23 zf
      · refine g_iconst h 0 (v := 0) (by decide) dL_law_1187 ?_
        obtain rfl := Option.some.inj zf
        exact zQ _ _ _ _ _ _ (by omega) (by omega) dL_law_1188
  · refine g_iconst h 0 (v := 0) (by decide) dL_law_1170 ?_
    obtain rfl := Option.some.inj zf
    exact zQ _ _ _ _ _ _ (by omega) (by omega) dL_law_1171

theorem kL_law_b1258 {G : GX} {QL : Int32 → State → Prop} {xs : Nat → Int32} {L zb : Nat} (zS : SCR G zb L xs) (zQ : RTL G QL) (h : OKm G cL_law RL 7 (some .boolean) { frames := 2048, cells := 601024, slots := 7293034, locals := 84000 }) (zl : G.2.2.1.stackTraces = false) {kc ks : Nat} (zc : kc ≤ 500000) (zd : ks ≤ 6000000) {a23 : Mem → Int32 → Option Int32} (zh23 : ∀ (M : Mem) (x4 : Int32) (res : Int32), a23 M x4 = some res → GG G (QL res) (kc + 4) (ks + 24) 23 [(0, Value.ref zb), (1, rv G.1 0), (2, rv G.1 103), (3, rv G.1 144), (4, .int x4)] [] M) {M : Mem} {x4 : Int32} {s0 : Int64} {s1 : Int64} {res : Int32} (zf : fL_law_b1258 xs L a23 M x4 s0 s1 = some res) : GG G (QL res) (kc + 4) (ks + 24) 1258 [(0, Value.ref zb), (1, rv G.1 0), (2, rv G.1 103), (3, rv G.1 144), (4, .int x4)] [.long s0, .long s1] M := by
  unfold fL_law_b1258 at zf
  refine g_lcmp h dL_law_1258 ?_
  refine g_if_eq h 1264 (by decide) zf dL_law_1259 ?_ ?_ <;> clear zf <;> intro zf
  · refine g_goto h 2164 (by decide) dL_law_1264 ?_
    refine g_sub h [0, 1, 2, 3, 4] rfl ?_
    exact kL_law_b2164 zS zQ h zl (kc := kc) (ks := ks) (by omega) (by omega) zh23 zf
  · refine g_iconst h 0 (v := 0) (by decide) dL_law_1262 ?_
    obtain rfl := Option.some.inj zf
    exact zQ _ _ _ _ _ _ (by omega) (by omega) dL_law_1263

theorem kL_law_b1192 {G : GX} {QL : Int32 → State → Prop} {xs : Nat → Int32} {L zb : Nat} (zS : SCR G zb L xs) (zQ : RTL G QL) (h : OKm G cL_law RL 7 (some .boolean) { frames := 2048, cells := 601024, slots := 7293034, locals := 84000 }) (zl : G.2.2.1.stackTraces = false) {kc ks : Nat} (zc : kc ≤ 500000) (zd : ks ≤ 6000000) {a23 : Mem → Int32 → Option Int32} (zh23 : ∀ (M : Mem) (x4 : Int32) (res : Int32), a23 M x4 = some res → GG G (QL res) (kc + 4) (ks + 24) 23 [(0, Value.ref zb), (1, rv G.1 0), (2, rv G.1 103), (3, rv G.1 144), (4, .int x4)] [] M) {M : Mem} {x4 : Int32} {res : Int32} (zf : fL_law_b1192 xs L a23 M x4 = some res) : GG G (QL res) kc ks 1192 [(0, Value.ref zb), (1, rv G.1 0), (2, rv G.1 103), (3, rv G.1 144), (4, .int x4)] [] M := by
  unfold fL_law_b1192 at zf
  refine g_aload_n h 1 rfl dL_law_1192 ?_
  refine g_aload_nX h 0 rfl dL_law_1193 ?_
  refine g_iload h 4 rfl dL_law_1194 ?_
  refine g_iconst h 1 (v := 1) (by decide) dL_law_1196 ?_
  refine g_iadd h dL_law_1197 ?_
  refine g_sld h zS zf dL_law_1198 ?_
  clear zf; intro vq165 zf
  refine g_aload_nX h 0 rfl dL_law_1199 ?_
  refine g_iload h 4 rfl dL_law_1200 ?_
  refine g_iconst h 2 (v := 2) (by decide) dL_law_1202 ?_
  refine g_iadd h dL_law_1203 ?_
  refine g_sld h zS zf dL_law_1204 ?_
  clear zf; intro vq166 zf
  refine g_aload_n h 3 rfl dL_law_1205 ?_
  have zf1 := b2_some zf
  clear zf; obtain ⟨vq167, Mq168, zq, zf⟩ := zf1
  refine g_callSW (n := 4) (mc := 4) (ms := 24) (As := [rv G.1 0, .int vq165, .int vq166, rv G.1 144]) (rest := []) h cdL_wins iniL ⟨by decide +kernel, by decide +kernel, by decide +kernel⟩ mlL_177 smL_wins rfl rfl ⟨Nat.le_of_ble_eq_true rfl, Nat.le_of_ble_eq_true rfl⟩ ⟨(by dsimp only; omega), (by dsimp only; omega)⟩ rfl dL_law_1206 rfl (Nat.le_of_ble_eq_true rfl) (cwL_wins zl zq) ?_
  refine g_istore h [(5, .int vq167), (0, Value.ref zb), (1, rv G.1 0), (2, rv G.1 103), (3, rv G.1 144), (4, .int x4)] (by decide) rfl dL_law_1209 ?_
  refine g_aload_n h 3 rfl dL_law_1211 ?_
  refine g_aload_nX h 1 rfl dL_law_1212 ?_
  refine g_iload h 5 rfl dL_law_1213 ?_
  refine g_iconst h 1 (v := 1) (by decide) dL_law_1215 ?_
  refine g_iadd h dL_law_1216 ?_
  refine g_sld h zS zf dL_law_1217 ?_
  clear zf; intro vq169 zf
  refine g_aload_nX h 1 rfl dL_law_1218 ?_
  refine g_iload h 5 rfl dL_law_1219 ?_
  refine g_iconst h 2 (v := 2) (by decide) dL_law_1221 ?_
  refine g_iadd h dL_law_1222 ?_
  refine g_sld h zS zf dL_law_1223 ?_
  clear zf; intro vq170 zf
  have zf1 := b2_some zf
  clear zf; obtain ⟨vq171, Mq172, zq, zf⟩ := zf1
  refine g_callVwi (As := [.int vq169, .int vq170]) (rest := []) h ceX13_wins mlL_179 imX13_wins seX13_wins (by rfl) (kd_lt (by rw [(by decide : kd 103 = 11)]; decide)) (ent_11 (by decide : kd 103 = 11)) rfl rfl ⟨Nat.le_of_ble_eq_true rfl, Nat.le_of_ble_eq_true rfl⟩ ⟨(by dsimp only; omega), (by dsimp only; omega)⟩ rfl dL_law_1224 rfl (Nat.le_of_ble_eq_true rfl) (cmX13_wins zq) ?_
  refine g_istore h [(6, .int vq171), (5, .int vq167), (0, Value.ref zb), (1, rv G.1 0), (2, rv G.1 103), (3, rv G.1 144), (4, .int x4)] (by decide) rfl dL_law_1227 ?_
  refine g_aload_n h 4 rfl dL_law_1229 ?_
  have zf1 := bd_some zf
  clear zf; obtain ⟨vq173, zq, zf⟩ := zf1
  refine g_callVri (As := []) (rest := []) h ceX13_thrown mlL_110 imX13_thrown seX13_thrown (by rfl) (kd_lt (by rw [(by decide : kd 103 = 11)]; decide)) (ent_11 (by decide : kd 103 = 11)) rfl rfl ⟨Nat.le_of_ble_eq_true rfl, Nat.le_of_ble_eq_true rfl⟩ ⟨(by dsimp only; omega), (by dsimp only; omega)⟩ rfl dL_law_1230 rfl (Nat.le_of_ble_eq_true rfl) (cmX13_thrown zq) ?_
  refine g_iload h 1 rfl dL_law_1233 ?_
  refine g_ic_eq h 1240 (by decide) zf dL_law_1235 ?_ ?_ <;> clear zf <;> intro zf
  · refine g_iload h 1 rfl dL_law_1240 ?_
    refine g_if_ne h 1264 (by decide) zf dL_law_1242 ?_ ?_ <;> clear zf <;> intro zf
    · refine g_goto h 2164 (by decide) dL_law_1264 ?_
      refine g_sub h [2, 3, 4, 5, 6] rfl ?_
      exact kL_law_b2164 zS zQ h zl (kc := kc) (ks := ks) (by omega) (by omega) zh23 zf
    · refine g_aload_n h 5 rfl dL_law_1245 ?_
      refine g_iconst h 0 (v := 0) (by decide) dL_law_1246 ?_
      refine g_lald h 1 (by decide : kd 144 = 22) (by decide) zf dL_law_1247 ?_
      clear zf; intro vq174 zf
      refine g_iload h 0 rfl dL_law_1248 ?_
      refine g_if_eq h 1257 (by decide) zf dL_law_1250 ?_ ?_ <;> clear zf <;> intro zf
      · refine g_lconst h 0 (v := 0) (by decide) dL_law_1257 ?_
        refine g_sub h [2, 3, 4, 5, 6] rfl ?_
        exact kL_law_b1258 zS zQ h zl (kc := kc) (ks := ks) (by omega) (by omega) zh23 zf
      · refine g_lconst h 1 (v := 1) (by decide) dL_law_1253 ?_
        refine g_goto h 1258 (by decide) dL_law_1254 ?_
        refine g_sub h [2, 3, 4, 5, 6] rfl ?_
        exact kL_law_b1258 zS zQ h zl (kc := kc) (ks := ks) (by omega) (by omega) zh23 zf
  · refine g_iconst h 0 (v := 0) (by decide) dL_law_1238 ?_
    obtain rfl := Option.some.inj zf
    exact zQ _ _ _ _ _ _ (by omega) (by omega) dL_law_1239

theorem kL_law_b1267 {G : GX} {QL : Int32 → State → Prop} {xs : Nat → Int32} {L zb : Nat} (zS : SCR G zb L xs) (zQ : RTL G QL) (h : OKm G cL_law RL 7 (some .boolean) { frames := 2048, cells := 601024, slots := 7293034, locals := 84000 }) (zl : G.2.2.1.stackTraces = false) {kc ks : Nat} (zc : kc ≤ 500000) (zd : ks ≤ 6000000) {a23 : Mem → Int32 → Option Int32} (zh23 : ∀ (M : Mem) (x4 : Int32) (res : Int32), a23 M x4 = some res → GG G (QL res) (kc + 4) (ks + 24) 23 [(0, Value.ref zb), (1, rv G.1 0), (2, rv G.1 103), (3, rv G.1 144), (4, .int x4)] [] M) {M : Mem} {x4 : Int32} {res : Int32} (zf : fL_law_b1267 xs L a23 M x4 = some res) : GG G (QL res) kc ks 1267 [(0, Value.ref zb), (1, rv G.1 0), (2, rv G.1 103), (3, rv G.1 144), (4, .int x4)] [] M := by
  unfold fL_law_b1267 at zf
  refine g_aload_n h 1 rfl dL_law_1267 ?_
  refine g_aload_nX h 0 rfl dL_law_1268 ?_
  refine g_iload h 4 rfl dL_law_1269 ?_
  refine g_iconst h 1 (v := 1) (by decide) dL_law_1271 ?_
  refine g_iadd h dL_law_1272 ?_
  refine g_sld h zS zf dL_law_1273 ?_
  clear zf; intro vq175 zf
  refine g_aload_n h 3 rfl dL_law_1274 ?_
  have zf1 := b2_some zf
  clear zf; obtain ⟨vq176, Mq177, zq, zf⟩ := zf1
  refine g_callSW (n := 3) (mc := 4) (ms := 24) (As := [rv G.1 0, .int vq175, rv G.1 144]) (rest := []) h cdL_assault iniL ⟨by decide +kernel, by decide +kernel, by decide +kernel⟩ mlL_180 smL_assault rfl rfl ⟨Nat.le_of_ble_eq_true rfl, Nat.le_of_ble_eq_true rfl⟩ ⟨(by dsimp only; omega), (by dsimp only; omega)⟩ rfl dL_law_1275 rfl (Nat.le_of_ble_eq_true rfl) (cwL_assault zl zq) ?_
  refine g_istore h [(5, .int vq176), (0, Value.ref zb), (1, rv G.1 0), (2, rv G.1 103), (3, rv G.1 144), (4, .int x4)] (by decide) rfl dL_law_1278 ?_
  refine g_aload_n h 3 rfl dL_law_1280 ?_
  refine g_aload_nX h 1 rfl dL_law_1281 ?_
  refine g_iload h 5 rfl dL_law_1282 ?_
  refine g_iconst h 1 (v := 1) (by decide) dL_law_1284 ?_
  refine g_iadd h dL_law_1285 ?_
  refine g_sld h zS zf dL_law_1286 ?_
  clear zf; intro vq178 zf
  have zf1 := b2_some zf
  clear zf; obtain ⟨vq179, Mq180, zq, zf⟩ := zf1
  refine g_callVwi (As := [.int vq178]) (rest := []) h ceX13_assault mlL_182 imX13_assault seX13_assault (by rfl) (kd_lt (by rw [(by decide : kd 103 = 11)]; decide)) (ent_11 (by decide : kd 103 = 11)) rfl rfl ⟨Nat.le_of_ble_eq_true rfl, Nat.le_of_ble_eq_true rfl⟩ ⟨(by dsimp only; omega), (by dsimp only; omega)⟩ rfl dL_law_1287 rfl (Nat.le_of_ble_eq_true rfl) (cmX13_assault zq) ?_
  refine g_istore h [(6, .int vq179), (5, .int vq176), (0, Value.ref zb), (1, rv G.1 0), (2, rv G.1 103), (3, rv G.1 144), (4, .int x4)] (by decide) rfl dL_law_1290 ?_
  refine g_aload_n h 4 rfl dL_law_1292 ?_
  have zf1 := bd_some zf
  clear zf; obtain ⟨vq181, zq, zf⟩ := zf1
  refine g_callVri (As := []) (rest := []) h ceX13_thrown mlL_110 imX13_thrown seX13_thrown (by rfl) (kd_lt (by rw [(by decide : kd 103 = 11)]; decide)) (ent_11 (by decide : kd 103 = 11)) rfl rfl ⟨Nat.le_of_ble_eq_true rfl, Nat.le_of_ble_eq_true rfl⟩ ⟨(by dsimp only; omega), (by dsimp only; omega)⟩ rfl dL_law_1293 rfl (Nat.le_of_ble_eq_true rfl) (cmX13_thrown zq) ?_
  refine g_iload h 1 rfl dL_law_1296 ?_
  refine g_ic_eq h 1303 (by decide) zf dL_law_1298 ?_ ?_ <;> clear zf <;> intro zf
  · refine g_iload h 1 rfl dL_law_1303 ?_
    refine g_if_ne h 1320 (by decide) zf dL_law_1305 ?_ ?_ <;> clear zf <;> intro zf
    · refine g_goto h 2164 (by decide) dL_law_1320 ?_
      refine g_sub h [2, 3, 4, 5, 6] rfl ?_
      exact kL_law_b2164 zS zQ h zl (kc := kc) (ks := ks) (by omega) (by omega) zh23 zf
    · refine g_aload_n h 5 rfl dL_law_1308 ?_
      refine g_iconst h 0 (v := 0) (by decide) dL_law_1309 ?_
      refine g_lald h 1 (by decide : kd 144 = 22) (by decide) zf dL_law_1310 ?_
      clear zf; intro vq182 zf
      refine g_iload h 0 rfl dL_law_1311 ?_
      refine g_i2l h dL_law_1313 ?_
      refine g_lcmp h dL_law_1314 ?_
      refine g_if_eq h 1320 (by decide) zf dL_law_1315 ?_ ?_ <;> clear zf <;> intro zf
      · refine g_goto h 2164 (by decide) dL_law_1320 ?_
        refine g_sub h [2, 3, 4, 5, 6] rfl ?_
        exact kL_law_b2164 zS zQ h zl (kc := kc) (ks := ks) (by omega) (by omega) zh23 zf
      · refine g_iconst h 0 (v := 0) (by decide) dL_law_1318 ?_
        obtain rfl := Option.some.inj zf
        exact zQ _ _ _ _ _ _ (by omega) (by omega) dL_law_1319
  · refine g_iconst h 0 (v := 0) (by decide) dL_law_1301 ?_
    obtain rfl := Option.some.inj zf
    exact zQ _ _ _ _ _ _ (by omega) (by omega) dL_law_1302

theorem kL_law_b1323 {G : GX} {QL : Int32 → State → Prop} {xs : Nat → Int32} {L zb : Nat} (zS : SCR G zb L xs) (zQ : RTL G QL) (h : OKm G cL_law RL 7 (some .boolean) { frames := 2048, cells := 601024, slots := 7293034, locals := 84000 }) (zl : G.2.2.1.stackTraces = false) {kc ks : Nat} (zc : kc ≤ 500000) (zd : ks ≤ 6000000) {a23 : Mem → Int32 → Option Int32} (zh23 : ∀ (M : Mem) (x4 : Int32) (res : Int32), a23 M x4 = some res → GG G (QL res) (kc + 4) (ks + 24) 23 [(0, Value.ref zb), (1, rv G.1 0), (2, rv G.1 103), (3, rv G.1 144), (4, .int x4)] [] M) {M : Mem} {x4 : Int32} {res : Int32} (zf : fL_law_b1323 xs L a23 M x4 = some res) : GG G (QL res) kc ks 1323 [(0, Value.ref zb), (1, rv G.1 0), (2, rv G.1 103), (3, rv G.1 144), (4, .int x4)] [] M := by
  unfold fL_law_b1323 at zf
  refine g_aload_n h 1 rfl dL_law_1323 ?_
  refine g_aload_nX h 0 rfl dL_law_1324 ?_
  refine g_iload h 4 rfl dL_law_1325 ?_
  refine g_iconst h 1 (v := 1) (by decide) dL_law_1327 ?_
  refine g_iadd h dL_law_1328 ?_
  refine g_sld h zS zf dL_law_1329 ?_
  clear zf; intro vq183 zf
  refine g_aload_n h 3 rfl dL_law_1330 ?_
  have zf1 := b2_some zf
  clear zf; obtain ⟨vq184, Mq185, zq, zf⟩ := zf1
  refine g_callSW (n := 3) (mc := 4) (ms := 24) (As := [rv G.1 0, .int vq183, rv G.1 144]) (rest := []) h cdL_bought iniL ⟨by decide +kernel, by decide +kernel, by decide +kernel⟩ mlL_183 smL_bought rfl rfl ⟨Nat.le_of_ble_eq_true rfl, Nat.le_of_ble_eq_true rfl⟩ ⟨(by dsimp only; omega), (by dsimp only; omega)⟩ rfl dL_law_1331 rfl (Nat.le_of_ble_eq_true rfl) (cwL_bought zl zq) ?_
  refine g_istore h [(5, .int vq184), (0, Value.ref zb), (1, rv G.1 0), (2, rv G.1 103), (3, rv G.1 144), (4, .int x4)] (by decide) rfl dL_law_1334 ?_
  refine g_aload_n h 3 rfl dL_law_1336 ?_
  refine g_aload_nX h 1 rfl dL_law_1337 ?_
  refine g_iload h 5 rfl dL_law_1338 ?_
  refine g_iconst h 1 (v := 1) (by decide) dL_law_1340 ?_
  refine g_iadd h dL_law_1341 ?_
  refine g_sld h zS zf dL_law_1342 ?_
  clear zf; intro vq186 zf
  have zf1 := b2_some zf
  clear zf; obtain ⟨vq187, Mq188, zq, zf⟩ := zf1
  refine g_callVwi (As := [.int vq186]) (rest := []) h ceX13_bought mlL_185 imX13_bought seX13_bought (by rfl) (kd_lt (by rw [(by decide : kd 103 = 11)]; decide)) (ent_11 (by decide : kd 103 = 11)) rfl rfl ⟨Nat.le_of_ble_eq_true rfl, Nat.le_of_ble_eq_true rfl⟩ ⟨(by dsimp only; omega), (by dsimp only; omega)⟩ rfl dL_law_1343 rfl (Nat.le_of_ble_eq_true rfl) (cmX13_bought zq) ?_
  refine g_istore h [(6, .int vq187), (5, .int vq184), (0, Value.ref zb), (1, rv G.1 0), (2, rv G.1 103), (3, rv G.1 144), (4, .int x4)] (by decide) rfl dL_law_1346 ?_
  refine g_aload_n h 4 rfl dL_law_1348 ?_
  have zf1 := bd_some zf
  clear zf; obtain ⟨vq189, zq, zf⟩ := zf1
  refine g_callVri (As := []) (rest := []) h ceX13_thrown mlL_110 imX13_thrown seX13_thrown (by rfl) (kd_lt (by rw [(by decide : kd 103 = 11)]; decide)) (ent_11 (by decide : kd 103 = 11)) rfl rfl ⟨Nat.le_of_ble_eq_true rfl, Nat.le_of_ble_eq_true rfl⟩ ⟨(by dsimp only; omega), (by dsimp only; omega)⟩ rfl dL_law_1349 rfl (Nat.le_of_ble_eq_true rfl) (cmX13_thrown zq) ?_
  refine g_iload h 1 rfl dL_law_1352 ?_
  refine g_ic_eq h 1359 (by decide) zf dL_law_1354 ?_ ?_ <;> clear zf <;> intro zf
  · refine g_iload h 1 rfl dL_law_1359 ?_
    refine g_if_ne h 1376 (by decide) zf dL_law_1361 ?_ ?_ <;> clear zf <;> intro zf
    · refine g_goto h 2164 (by decide) dL_law_1376 ?_
      refine g_sub h [2, 3, 4, 5, 6] rfl ?_
      exact kL_law_b2164 zS zQ h zl (kc := kc) (ks := ks) (by omega) (by omega) zh23 zf
    · refine g_aload_n h 5 rfl dL_law_1364 ?_
      refine g_iconst h 0 (v := 0) (by decide) dL_law_1365 ?_
      refine g_lald h 1 (by decide : kd 144 = 22) (by decide) zf dL_law_1366 ?_
      clear zf; intro vq190 zf
      refine g_iload h 0 rfl dL_law_1367 ?_
      refine g_i2l h dL_law_1369 ?_
      refine g_lcmp h dL_law_1370 ?_
      refine g_if_eq h 1376 (by decide) zf dL_law_1371 ?_ ?_ <;> clear zf <;> intro zf
      · refine g_goto h 2164 (by decide) dL_law_1376 ?_
        refine g_sub h [2, 3, 4, 5, 6] rfl ?_
        exact kL_law_b2164 zS zQ h zl (kc := kc) (ks := ks) (by omega) (by omega) zh23 zf
      · refine g_iconst h 0 (v := 0) (by decide) dL_law_1374 ?_
        obtain rfl := Option.some.inj zf
        exact zQ _ _ _ _ _ _ (by omega) (by omega) dL_law_1375
  · refine g_iconst h 0 (v := 0) (by decide) dL_law_1357 ?_
    obtain rfl := Option.some.inj zf
    exact zQ _ _ _ _ _ _ (by omega) (by omega) dL_law_1358

theorem kL_law_b1379 {G : GX} {QL : Int32 → State → Prop} {xs : Nat → Int32} {L zb : Nat} (zS : SCR G zb L xs) (zQ : RTL G QL) (h : OKm G cL_law RL 7 (some .boolean) { frames := 2048, cells := 601024, slots := 7293034, locals := 84000 }) (zl : G.2.2.1.stackTraces = false) {kc ks : Nat} (zc : kc ≤ 500000) (zd : ks ≤ 6000000) {a23 : Mem → Int32 → Option Int32} (zh23 : ∀ (M : Mem) (x4 : Int32) (res : Int32), a23 M x4 = some res → GG G (QL res) (kc + 4) (ks + 24) 23 [(0, Value.ref zb), (1, rv G.1 0), (2, rv G.1 103), (3, rv G.1 144), (4, .int x4)] [] M) {M : Mem} {x4 : Int32} {res : Int32} (zf : fL_law_b1379 xs L a23 M x4 = some res) : GG G (QL res) kc ks 1379 [(0, Value.ref zb), (1, rv G.1 0), (2, rv G.1 103), (3, rv G.1 144), (4, .int x4)] [] M := by
  unfold fL_law_b1379 at zf
  refine g_aload_n h 1 rfl dL_law_1379 ?_
  refine g_aload_nX h 0 rfl dL_law_1380 ?_
  refine g_iload h 4 rfl dL_law_1381 ?_
  refine g_iconst h 1 (v := 1) (by decide) dL_law_1383 ?_
  refine g_iadd h dL_law_1384 ?_
  refine g_sld h zS zf dL_law_1385 ?_
  clear zf; intro vq191 zf
  refine g_aload_nX h 0 rfl dL_law_1386 ?_
  refine g_iload h 4 rfl dL_law_1387 ?_
  refine g_iconst h 2 (v := 2) (by decide) dL_law_1389 ?_
  refine g_iadd h dL_law_1390 ?_
  refine g_sld h zS zf dL_law_1391 ?_
  clear zf; intro vq192 zf
  refine g_aload_nX h 0 rfl dL_law_1392 ?_
  refine g_iload h 4 rfl dL_law_1393 ?_
  refine g_iconst h 3 (v := 3) (by decide) dL_law_1395 ?_
  refine g_iadd h dL_law_1396 ?_
  refine g_sld h zS zf dL_law_1397 ?_
  clear zf; intro vq193 zf
  refine g_aload_n h 3 rfl dL_law_1398 ?_
  have zf1 := b2_some zf
  clear zf; obtain ⟨vq194, Mq195, zq, zf⟩ := zf1
  refine g_callSW (n := 5) (mc := 4) (ms := 24) (As := [rv G.1 0, .int vq191, .int vq192, .int vq193, rv G.1 144]) (rest := []) h cdL_odds iniL ⟨by decide +kernel, by decide +kernel, by decide +kernel⟩ mlL_186 smL_odds rfl rfl ⟨Nat.le_of_ble_eq_true rfl, Nat.le_of_ble_eq_true rfl⟩ ⟨(by dsimp only; omega), (by dsimp only; omega)⟩ rfl dL_law_1399 rfl (Nat.le_of_ble_eq_true rfl) (cwL_odds zl zq) ?_
  refine g_istore h [(5, .int vq194), (0, Value.ref zb), (1, rv G.1 0), (2, rv G.1 103), (3, rv G.1 144), (4, .int x4)] (by decide) rfl dL_law_1402 ?_
  refine g_aload_n h 3 rfl dL_law_1404 ?_
  refine g_aload_nX h 1 rfl dL_law_1405 ?_
  refine g_iload h 5 rfl dL_law_1406 ?_
  refine g_iconst h 1 (v := 1) (by decide) dL_law_1408 ?_
  refine g_iadd h dL_law_1409 ?_
  refine g_sld h zS zf dL_law_1410 ?_
  clear zf; intro vq196 zf
  refine g_aload_nX h 1 rfl dL_law_1411 ?_
  refine g_iload h 5 rfl dL_law_1412 ?_
  refine g_iconst h 2 (v := 2) (by decide) dL_law_1414 ?_
  refine g_iadd h dL_law_1415 ?_
  refine g_sld h zS zf dL_law_1416 ?_
  clear zf; intro vq197 zf
  refine g_aload_nX h 1 rfl dL_law_1417 ?_
  refine g_iload h 5 rfl dL_law_1418 ?_
  refine g_iconst h 3 (v := 3) (by decide) dL_law_1420 ?_
  refine g_iadd h dL_law_1421 ?_
  refine g_sld h zS zf dL_law_1422 ?_
  clear zf; intro vq198 zf
  have zf1 := b2_some zf
  clear zf; obtain ⟨vq199, Mq200, zq, zf⟩ := zf1
  refine g_callVwi (As := [.int vq196, .int vq197, .int vq198]) (rest := []) h ceX13_odds mlL_188 imX13_odds seX13_odds (by rfl) (kd_lt (by rw [(by decide : kd 103 = 11)]; decide)) (ent_11 (by decide : kd 103 = 11)) rfl rfl ⟨Nat.le_of_ble_eq_true rfl, Nat.le_of_ble_eq_true rfl⟩ ⟨(by dsimp only; omega), (by dsimp only; omega)⟩ rfl dL_law_1423 rfl (Nat.le_of_ble_eq_true rfl) (cmX13_odds zq) ?_
  refine g_istore h [(6, .int vq199), (5, .int vq194), (0, Value.ref zb), (1, rv G.1 0), (2, rv G.1 103), (3, rv G.1 144), (4, .int x4)] (by decide) rfl dL_law_1426 ?_
  refine g_aload_n h 4 rfl dL_law_1428 ?_
  have zf1 := bd_some zf
  clear zf; obtain ⟨vq201, zq, zf⟩ := zf1
  refine g_callVri (As := []) (rest := []) h ceX13_thrown mlL_110 imX13_thrown seX13_thrown (by rfl) (kd_lt (by rw [(by decide : kd 103 = 11)]; decide)) (ent_11 (by decide : kd 103 = 11)) rfl rfl ⟨Nat.le_of_ble_eq_true rfl, Nat.le_of_ble_eq_true rfl⟩ ⟨(by dsimp only; omega), (by dsimp only; omega)⟩ rfl dL_law_1429 rfl (Nat.le_of_ble_eq_true rfl) (cmX13_thrown zq) ?_
  refine g_iload h 1 rfl dL_law_1432 ?_
  refine g_ic_eq h 1439 (by decide) zf dL_law_1434 ?_ ?_ <;> clear zf <;> intro zf
  · refine g_iload h 1 rfl dL_law_1439 ?_
    refine g_if_ne h 1456 (by decide) zf dL_law_1441 ?_ ?_ <;> clear zf <;> intro zf
    · refine g_goto h 2164 (by decide) dL_law_1456 ?_
      refine g_sub h [2, 3, 4, 5, 6] rfl ?_
      exact kL_law_b2164 zS zQ h zl (kc := kc) (ks := ks) (by omega) (by omega) zh23 zf
    · refine g_aload_n h 5 rfl dL_law_1444 ?_
      refine g_iconst h 0 (v := 0) (by decide) dL_law_1445 ?_
      refine g_lald h 1 (by decide : kd 144 = 22) (by decide) zf dL_law_1446 ?_
      clear zf; intro vq202 zf
      refine g_iload h 0 rfl dL_law_1447 ?_
      refine g_i2l h dL_law_1449 ?_
      refine g_lcmp h dL_law_1450 ?_
      refine g_if_eq h 1456 (by decide) zf dL_law_1451 ?_ ?_ <;> clear zf <;> intro zf
      · refine g_goto h 2164 (by decide) dL_law_1456 ?_
        refine g_sub h [2, 3, 4, 5, 6] rfl ?_
        exact kL_law_b2164 zS zQ h zl (kc := kc) (ks := ks) (by omega) (by omega) zh23 zf
      · refine g_iconst h 0 (v := 0) (by decide) dL_law_1454 ?_
        obtain rfl := Option.some.inj zf
        exact zQ _ _ _ _ _ _ (by omega) (by omega) dL_law_1455
  · refine g_iconst h 0 (v := 0) (by decide) dL_law_1437 ?_
    obtain rfl := Option.some.inj zf
    exact zQ _ _ _ _ _ _ (by omega) (by omega) dL_law_1438

theorem kL_law_b1459 {G : GX} {QL : Int32 → State → Prop} {xs : Nat → Int32} {L zb : Nat} (zS : SCR G zb L xs) (zQ : RTL G QL) (h : OKm G cL_law RL 7 (some .boolean) { frames := 2048, cells := 601024, slots := 7293034, locals := 84000 }) (zl : G.2.2.1.stackTraces = false) {kc ks : Nat} (zc : kc ≤ 500000) (zd : ks ≤ 6000000) {a23 : Mem → Int32 → Option Int32} (zh23 : ∀ (M : Mem) (x4 : Int32) (res : Int32), a23 M x4 = some res → GG G (QL res) (kc + 4) (ks + 24) 23 [(0, Value.ref zb), (1, rv G.1 0), (2, rv G.1 103), (3, rv G.1 144), (4, .int x4)] [] M) {M : Mem} {x4 : Int32} {res : Int32} (zf : fL_law_b1459 xs L a23 M x4 = some res) : GG G (QL res) kc ks 1459 [(0, Value.ref zb), (1, rv G.1 0), (2, rv G.1 103), (3, rv G.1 144), (4, .int x4)] [] M := by
  unfold fL_law_b1459 at zf
  refine g_aload_n h 1 rfl dL_law_1459 ?_
  refine g_aload_nX h 0 rfl dL_law_1460 ?_
  refine g_iload h 4 rfl dL_law_1461 ?_
  refine g_iconst h 1 (v := 1) (by decide) dL_law_1463 ?_
  refine g_iadd h dL_law_1464 ?_
  refine g_sld h zS zf dL_law_1465 ?_
  clear zf; intro vq203 zf
  refine g_aload_nX h 0 rfl dL_law_1466 ?_
  refine g_iload h 4 rfl dL_law_1467 ?_
  refine g_iconst h 2 (v := 2) (by decide) dL_law_1469 ?_
  refine g_iadd h dL_law_1470 ?_
  refine g_sld h zS zf dL_law_1471 ?_
  clear zf; intro vq204 zf
  refine g_aload_n h 3 rfl dL_law_1472 ?_
  have zf1 := b2_some zf
  clear zf; obtain ⟨vq205, Mq206, zq, zf⟩ := zf1
  refine g_callSW (n := 4) (mc := 4) (ms := 24) (As := [rv G.1 0, .int vq203, .int vq204, rv G.1 144]) (rest := []) h cdL_moved iniL ⟨by decide +kernel, by decide +kernel, by decide +kernel⟩ mlL_189 smL_moved rfl rfl ⟨Nat.le_of_ble_eq_true rfl, Nat.le_of_ble_eq_true rfl⟩ ⟨(by dsimp only; omega), (by dsimp only; omega)⟩ rfl dL_law_1473 rfl (Nat.le_of_ble_eq_true rfl) (cwL_moved zl zq) ?_
  refine g_istore h [(5, .int vq205), (0, Value.ref zb), (1, rv G.1 0), (2, rv G.1 103), (3, rv G.1 144), (4, .int x4)] (by decide) rfl dL_law_1476 ?_
  refine g_aload_n h 3 rfl dL_law_1478 ?_
  refine g_aload_nX h 1 rfl dL_law_1479 ?_
  refine g_iload h 5 rfl dL_law_1480 ?_
  refine g_iconst h 1 (v := 1) (by decide) dL_law_1482 ?_
  refine g_iadd h dL_law_1483 ?_
  refine g_sld h zS zf dL_law_1484 ?_
  clear zf; intro vq207 zf
  refine g_aload_nX h 1 rfl dL_law_1485 ?_
  refine g_iload h 5 rfl dL_law_1486 ?_
  refine g_iconst h 2 (v := 2) (by decide) dL_law_1488 ?_
  refine g_iadd h dL_law_1489 ?_
  refine g_sld h zS zf dL_law_1490 ?_
  clear zf; intro vq208 zf
  have zf1 := b2_some zf
  clear zf; obtain ⟨vq209, Mq210, zq, zf⟩ := zf1
  refine g_callVwi (As := [.int vq207, .int vq208]) (rest := []) h ceX13_moved mlL_191 imX13_moved seX13_moved (by rfl) (kd_lt (by rw [(by decide : kd 103 = 11)]; decide)) (ent_11 (by decide : kd 103 = 11)) rfl rfl ⟨Nat.le_of_ble_eq_true rfl, Nat.le_of_ble_eq_true rfl⟩ ⟨(by dsimp only; omega), (by dsimp only; omega)⟩ rfl dL_law_1491 rfl (Nat.le_of_ble_eq_true rfl) (cmX13_moved zq) ?_
  refine g_istore h [(6, .int vq209), (5, .int vq205), (0, Value.ref zb), (1, rv G.1 0), (2, rv G.1 103), (3, rv G.1 144), (4, .int x4)] (by decide) rfl dL_law_1494 ?_
  refine g_aload_n h 4 rfl dL_law_1496 ?_
  have zf1 := bd_some zf
  clear zf; obtain ⟨vq211, zq, zf⟩ := zf1
  refine g_callVri (As := []) (rest := []) h ceX13_thrown mlL_110 imX13_thrown seX13_thrown (by rfl) (kd_lt (by rw [(by decide : kd 103 = 11)]; decide)) (ent_11 (by decide : kd 103 = 11)) rfl rfl ⟨Nat.le_of_ble_eq_true rfl, Nat.le_of_ble_eq_true rfl⟩ ⟨(by dsimp only; omega), (by dsimp only; omega)⟩ rfl dL_law_1497 rfl (Nat.le_of_ble_eq_true rfl) (cmX13_thrown zq) ?_
  refine g_iload h 1 rfl dL_law_1500 ?_
  refine g_ic_eq h 1507 (by decide) zf dL_law_1502 ?_ ?_ <;> clear zf <;> intro zf
  · refine g_iload h 1 rfl dL_law_1507 ?_
    refine g_if_ne h 1524 (by decide) zf dL_law_1509 ?_ ?_ <;> clear zf <;> intro zf
    · refine g_goto h 2164 (by decide) dL_law_1524 ?_
      refine g_sub h [2, 3, 4, 5, 6] rfl ?_
      exact kL_law_b2164 zS zQ h zl (kc := kc) (ks := ks) (by omega) (by omega) zh23 zf
    · refine g_aload_n h 5 rfl dL_law_1512 ?_
      refine g_iconst h 0 (v := 0) (by decide) dL_law_1513 ?_
      refine g_lald h 1 (by decide : kd 144 = 22) (by decide) zf dL_law_1514 ?_
      clear zf; intro vq212 zf
      refine g_iload h 0 rfl dL_law_1515 ?_
      refine g_i2l h dL_law_1517 ?_
      refine g_lcmp h dL_law_1518 ?_
      refine g_if_eq h 1524 (by decide) zf dL_law_1519 ?_ ?_ <;> clear zf <;> intro zf
      · refine g_goto h 2164 (by decide) dL_law_1524 ?_
        refine g_sub h [2, 3, 4, 5, 6] rfl ?_
        exact kL_law_b2164 zS zQ h zl (kc := kc) (ks := ks) (by omega) (by omega) zh23 zf
      · refine g_iconst h 0 (v := 0) (by decide) dL_law_1522 ?_
        obtain rfl := Option.some.inj zf
        exact zQ _ _ _ _ _ _ (by omega) (by omega) dL_law_1523
  · refine g_iconst h 0 (v := 0) (by decide) dL_law_1505 ?_
    obtain rfl := Option.some.inj zf
    exact zQ _ _ _ _ _ _ (by omega) (by omega) dL_law_1506

theorem kL_law_b1527 {G : GX} {QL : Int32 → State → Prop} {xs : Nat → Int32} {L zb : Nat} (zS : SCR G zb L xs) (zQ : RTL G QL) (h : OKm G cL_law RL 7 (some .boolean) { frames := 2048, cells := 601024, slots := 7293034, locals := 84000 }) (zl : G.2.2.1.stackTraces = false) {kc ks : Nat} (zc : kc ≤ 500000) (zd : ks ≤ 6000000) {a23 : Mem → Int32 → Option Int32} (zh23 : ∀ (M : Mem) (x4 : Int32) (res : Int32), a23 M x4 = some res → GG G (QL res) (kc + 4) (ks + 24) 23 [(0, Value.ref zb), (1, rv G.1 0), (2, rv G.1 103), (3, rv G.1 144), (4, .int x4)] [] M) {M : Mem} {x4 : Int32} {res : Int32} (zf : fL_law_b1527 xs L a23 M x4 = some res) : GG G (QL res) kc ks 1527 [(0, Value.ref zb), (1, rv G.1 0), (2, rv G.1 103), (3, rv G.1 144), (4, .int x4)] [] M := by
  unfold fL_law_b1527 at zf
  refine g_aload_n h 1 rfl dL_law_1527 ?_
  refine g_aload_nX h 0 rfl dL_law_1528 ?_
  refine g_iload h 4 rfl dL_law_1529 ?_
  refine g_iconst h 1 (v := 1) (by decide) dL_law_1531 ?_
  refine g_iadd h dL_law_1532 ?_
  refine g_sld h zS zf dL_law_1533 ?_
  clear zf; intro vq213 zf
  refine g_aload_n h 3 rfl dL_law_1534 ?_
  have zf1 := b2_some zf
  clear zf; obtain ⟨vq214, Mq215, zq, zf⟩ := zf1
  refine g_callSW (n := 3) (mc := 4) (ms := 24) (As := [rv G.1 0, .int vq213, rv G.1 144]) (rest := []) h cdL_parties iniL ⟨by decide +kernel, by decide +kernel, by decide +kernel⟩ mlL_192 smL_parties rfl rfl ⟨Nat.le_of_ble_eq_true rfl, Nat.le_of_ble_eq_true rfl⟩ ⟨(by dsimp only; omega), (by dsimp only; omega)⟩ rfl dL_law_1535 rfl (Nat.le_of_ble_eq_true rfl) (cwL_parties zl zq) ?_
  refine g_istore h [(5, .int vq214), (0, Value.ref zb), (1, rv G.1 0), (2, rv G.1 103), (3, rv G.1 144), (4, .int x4)] (by decide) rfl dL_law_1538 ?_
  refine g_aload_n h 3 rfl dL_law_1540 ?_
  refine g_aload_nX h 1 rfl dL_law_1541 ?_
  refine g_iload h 5 rfl dL_law_1542 ?_
  refine g_iconst h 1 (v := 1) (by decide) dL_law_1544 ?_
  refine g_iadd h dL_law_1545 ?_
  refine g_sld h zS zf dL_law_1546 ?_
  clear zf; intro vq216 zf
  have zf1 := b2_some zf
  clear zf; obtain ⟨vq217, Mq218, zq, zf⟩ := zf1
  refine g_callVwi (As := [.int vq216]) (rest := []) h ceX13_parties mlL_194 imX13_parties seX13_parties (by rfl) (kd_lt (by rw [(by decide : kd 103 = 11)]; decide)) (ent_11 (by decide : kd 103 = 11)) rfl rfl ⟨Nat.le_of_ble_eq_true rfl, Nat.le_of_ble_eq_true rfl⟩ ⟨(by dsimp only; omega), (by dsimp only; omega)⟩ rfl dL_law_1547 rfl (Nat.le_of_ble_eq_true rfl) (cmX13_parties zq) ?_
  refine g_istore h [(6, .int vq217), (5, .int vq214), (0, Value.ref zb), (1, rv G.1 0), (2, rv G.1 103), (3, rv G.1 144), (4, .int x4)] (by decide) rfl dL_law_1550 ?_
  refine g_aload_n h 4 rfl dL_law_1552 ?_
  have zf1 := bd_some zf
  clear zf; obtain ⟨vq219, zq, zf⟩ := zf1
  refine g_callVri (As := []) (rest := []) h ceX13_thrown mlL_110 imX13_thrown seX13_thrown (by rfl) (kd_lt (by rw [(by decide : kd 103 = 11)]; decide)) (ent_11 (by decide : kd 103 = 11)) rfl rfl ⟨Nat.le_of_ble_eq_true rfl, Nat.le_of_ble_eq_true rfl⟩ ⟨(by dsimp only; omega), (by dsimp only; omega)⟩ rfl dL_law_1553 rfl (Nat.le_of_ble_eq_true rfl) (cmX13_thrown zq) ?_
  refine g_iload h 1 rfl dL_law_1556 ?_
  refine g_ic_eq h 1563 (by decide) zf dL_law_1558 ?_ ?_ <;> clear zf <;> intro zf
  · refine g_iload h 1 rfl dL_law_1563 ?_
    refine g_if_ne h 1580 (by decide) zf dL_law_1565 ?_ ?_ <;> clear zf <;> intro zf
    · refine g_goto h 2164 (by decide) dL_law_1580 ?_
      refine g_sub h [2, 3, 4, 5, 6] rfl ?_
      exact kL_law_b2164 zS zQ h zl (kc := kc) (ks := ks) (by omega) (by omega) zh23 zf
    · refine g_aload_n h 5 rfl dL_law_1568 ?_
      refine g_iconst h 0 (v := 0) (by decide) dL_law_1569 ?_
      refine g_lald h 1 (by decide : kd 144 = 22) (by decide) zf dL_law_1570 ?_
      clear zf; intro vq220 zf
      refine g_iload h 0 rfl dL_law_1571 ?_
      refine g_i2l h dL_law_1573 ?_
      refine g_lcmp h dL_law_1574 ?_
      refine g_if_eq h 1580 (by decide) zf dL_law_1575 ?_ ?_ <;> clear zf <;> intro zf
      · refine g_goto h 2164 (by decide) dL_law_1580 ?_
        refine g_sub h [2, 3, 4, 5, 6] rfl ?_
        exact kL_law_b2164 zS zQ h zl (kc := kc) (ks := ks) (by omega) (by omega) zh23 zf
      · refine g_iconst h 0 (v := 0) (by decide) dL_law_1578 ?_
        obtain rfl := Option.some.inj zf
        exact zQ _ _ _ _ _ _ (by omega) (by omega) dL_law_1579
  · refine g_iconst h 0 (v := 0) (by decide) dL_law_1561 ?_
    obtain rfl := Option.some.inj zf
    exact zQ _ _ _ _ _ _ (by omega) (by omega) dL_law_1562

theorem kL_law_b1583 {G : GX} {QL : Int32 → State → Prop} {xs : Nat → Int32} {L zb : Nat} (zS : SCR G zb L xs) (zQ : RTL G QL) (h : OKm G cL_law RL 7 (some .boolean) { frames := 2048, cells := 601024, slots := 7293034, locals := 84000 }) (zl : G.2.2.1.stackTraces = false) {kc ks : Nat} (zc : kc ≤ 500000) (zd : ks ≤ 6000000) {a23 : Mem → Int32 → Option Int32} (zh23 : ∀ (M : Mem) (x4 : Int32) (res : Int32), a23 M x4 = some res → GG G (QL res) (kc + 4) (ks + 24) 23 [(0, Value.ref zb), (1, rv G.1 0), (2, rv G.1 103), (3, rv G.1 144), (4, .int x4)] [] M) {M : Mem} {x4 : Int32} {res : Int32} (zf : fL_law_b1583 xs L a23 M x4 = some res) : GG G (QL res) kc ks 1583 [(0, Value.ref zb), (1, rv G.1 0), (2, rv G.1 103), (3, rv G.1 144), (4, .int x4)] [] M := by
  unfold fL_law_b1583 at zf
  refine g_aload_n h 1 rfl dL_law_1583 ?_
  refine g_aload_nX h 0 rfl dL_law_1584 ?_
  refine g_iload h 4 rfl dL_law_1585 ?_
  refine g_iconst h 1 (v := 1) (by decide) dL_law_1587 ?_
  refine g_iadd h dL_law_1588 ?_
  refine g_sld h zS zf dL_law_1589 ?_
  clear zf; intro vq221 zf
  refine g_aload_nX h 0 rfl dL_law_1590 ?_
  refine g_iload h 4 rfl dL_law_1591 ?_
  refine g_iconst h 2 (v := 2) (by decide) dL_law_1593 ?_
  refine g_iadd h dL_law_1594 ?_
  refine g_sld h zS zf dL_law_1595 ?_
  clear zf; intro vq222 zf
  have zf1 := b2_some zf
  clear zf; obtain ⟨vq223, Mq224, zq, zf⟩ := zf1
  refine g_callVwi (As := [.int vq221, .int vq222]) (rest := []) h ceX12_see mlL_195 imX12_see seX12_see (by rfl) (kd_lt (by rw [(by decide : kd 0 = 10)]; decide)) (ent_10 (by decide : kd 0 = 10)) rfl rfl ⟨Nat.le_of_ble_eq_true rfl, Nat.le_of_ble_eq_true rfl⟩ ⟨(by dsimp only; omega), (by dsimp only; omega)⟩ rfl dL_law_1596 rfl (Nat.le_of_ble_eq_true rfl) (cmX12_see zq) ?_
  refine g_aload_n h 2 rfl dL_law_1599 ?_
  refine g_aload_nX h 0 rfl dL_law_1600 ?_
  refine g_iload h 4 rfl dL_law_1601 ?_
  refine g_iconst h 1 (v := 1) (by decide) dL_law_1603 ?_
  refine g_iadd h dL_law_1604 ?_
  refine g_sld h zS zf dL_law_1605 ?_
  clear zf; intro vq225 zf
  refine g_aload_nX h 0 rfl dL_law_1606 ?_
  refine g_iload h 4 rfl dL_law_1607 ?_
  refine g_iconst h 2 (v := 2) (by decide) dL_law_1609 ?_
  refine g_iadd h dL_law_1610 ?_
  refine g_sld h zS zf dL_law_1611 ?_
  clear zf; intro vq226 zf
  have zf1 := b2_some zf
  clear zf; obtain ⟨vq227, Mq228, zq, zf⟩ := zf1
  refine g_callVwi (As := [.int vq225, .int vq226]) (rest := [.int vq223]) h ceX13_see mlL_198 imX13_see seX13_see (by rfl) (kd_lt (by rw [(by decide : kd 103 = 11)]; decide)) (ent_11 (by decide : kd 103 = 11)) rfl rfl ⟨Nat.le_of_ble_eq_true rfl, Nat.le_of_ble_eq_true rfl⟩ ⟨(by dsimp only; omega), (by dsimp only; omega)⟩ rfl dL_law_1612 rfl (Nat.le_of_ble_eq_true rfl) (cmX13_see zq) ?_
  refine g_ic_eq h 2164 (by decide) zf dL_law_1615 ?_ ?_ <;> clear zf <;> intro zf
  · refine g_cs h (kc' := kc + 4) (ks' := ks + 24) (by omega) (by omega) ?_
    refine g_sub h [0, 1, 2, 3, 4] rfl ?_
    exact kL_law_b2164 zS zQ h zl (kc := kc) (ks := ks) (by omega) (by omega) zh23 zf
  · refine g_iconst h 0 (v := 0) (by decide) dL_law_1618 ?_
    obtain rfl := Option.some.inj zf
    exact zQ _ _ _ _ _ _ (by omega) (by omega) dL_law_1619

theorem kL_law_b1620 {G : GX} {QL : Int32 → State → Prop} {xs : Nat → Int32} {L zb : Nat} (zS : SCR G zb L xs) (zQ : RTL G QL) (h : OKm G cL_law RL 7 (some .boolean) { frames := 2048, cells := 601024, slots := 7293034, locals := 84000 }) (zl : G.2.2.1.stackTraces = false) {kc ks : Nat} (zc : kc ≤ 500000) (zd : ks ≤ 6000000) {a23 : Mem → Int32 → Option Int32} (zh23 : ∀ (M : Mem) (x4 : Int32) (res : Int32), a23 M x4 = some res → GG G (QL res) (kc + 4) (ks + 24) 23 [(0, Value.ref zb), (1, rv G.1 0), (2, rv G.1 103), (3, rv G.1 144), (4, .int x4)] [] M) {M : Mem} {x4 : Int32} {res : Int32} (zf : fL_law_b1620 xs L a23 M x4 = some res) : GG G (QL res) kc ks 1620 [(0, Value.ref zb), (1, rv G.1 0), (2, rv G.1 103), (3, rv G.1 144), (4, .int x4)] [] M := by
  unfold fL_law_b1620 at zf
  refine g_aload_n h 1 rfl dL_law_1620 ?_
  have zf1 := bd_some zf
  clear zf; obtain ⟨Mq229, zq, zf⟩ := zf1
  refine g_callVwv (As := []) (rest := []) h ceX12_forget mlL_199 imX12_forget seX12_forget (by rfl) (kd_lt (by rw [(by decide : kd 0 = 10)]; decide)) (ent_10 (by decide : kd 0 = 10)) rfl rfl ⟨Nat.le_of_ble_eq_true rfl, Nat.le_of_ble_eq_true rfl⟩ ⟨(by dsimp only; omega), (by dsimp only; omega)⟩ rfl dL_law_1621 rfl (Nat.le_of_ble_eq_true rfl) (cmX12_forget zq) ?_
  refine g_aload_n h 2 rfl dL_law_1624 ?_
  have zf1 := bd_some zf
  clear zf; obtain ⟨Mq230, zq, zf⟩ := zf1
  refine g_callVwv (As := []) (rest := []) h ceX13_forget mlL_202 imX13_forget seX13_forget (by rfl) (kd_lt (by rw [(by decide : kd 103 = 11)]; decide)) (ent_11 (by decide : kd 103 = 11)) rfl rfl ⟨Nat.le_of_ble_eq_true rfl, Nat.le_of_ble_eq_true rfl⟩ ⟨(by dsimp only; omega), (by dsimp only; omega)⟩ rfl dL_law_1625 rfl (Nat.le_of_ble_eq_true rfl) (cmX13_forget zq) ?_
  refine g_goto h 2164 (by decide) dL_law_1628 ?_
  refine g_cs h (kc' := kc + 4) (ks' := ks + 24) (by omega) (by omega) ?_
  refine g_sub h [0, 1, 2, 3, 4] rfl ?_
  exact kL_law_b2164 zS zQ h zl (kc := kc) (ks := ks) (by omega) (by omega) zh23 zf

theorem kL_law_b1631 {G : GX} {QL : Int32 → State → Prop} {xs : Nat → Int32} {L zb : Nat} (zS : SCR G zb L xs) (zQ : RTL G QL) (h : OKm G cL_law RL 7 (some .boolean) { frames := 2048, cells := 601024, slots := 7293034, locals := 84000 }) (zl : G.2.2.1.stackTraces = false) {kc ks : Nat} (zc : kc ≤ 500000) (zd : ks ≤ 6000000) {a23 : Mem → Int32 → Option Int32} (zh23 : ∀ (M : Mem) (x4 : Int32) (res : Int32), a23 M x4 = some res → GG G (QL res) (kc + 4) (ks + 24) 23 [(0, Value.ref zb), (1, rv G.1 0), (2, rv G.1 103), (3, rv G.1 144), (4, .int x4)] [] M) {M : Mem} {x4 : Int32} {res : Int32} (zf : fL_law_b1631 xs L a23 M x4 = some res) : GG G (QL res) kc ks 1631 [(0, Value.ref zb), (1, rv G.1 0), (2, rv G.1 103), (3, rv G.1 144), (4, .int x4)] [] M := by
  unfold fL_law_b1631 at zf
  refine g_aload_n h 1 rfl dL_law_1631 ?_
  refine g_aload_nX h 0 rfl dL_law_1632 ?_
  refine g_iload h 4 rfl dL_law_1633 ?_
  refine g_iconst h 1 (v := 1) (by decide) dL_law_1635 ?_
  refine g_iadd h dL_law_1636 ?_
  refine g_sld h zS zf dL_law_1637 ?_
  clear zf; intro vq231 zf
  refine g_aload_n h 3 rfl dL_law_1638 ?_
  have zf1 := b2_some zf
  clear zf; obtain ⟨vq232, Mq233, zq, zf⟩ := zf1
  refine g_callSW (n := 3) (mc := 4) (ms := 24) (As := [rv G.1 0, .int vq231, rv G.1 144]) (rest := []) h cdL_another iniL ⟨by decide +kernel, by decide +kernel, by decide +kernel⟩ mlL_203 smL_another rfl rfl ⟨Nat.le_of_ble_eq_true rfl, Nat.le_of_ble_eq_true rfl⟩ ⟨(by dsimp only; omega), (by dsimp only; omega)⟩ rfl dL_law_1639 rfl (Nat.le_of_ble_eq_true rfl) (cwL_another zl zq) ?_
  refine g_istore h [(5, .int vq232), (0, Value.ref zb), (1, rv G.1 0), (2, rv G.1 103), (3, rv G.1 144), (4, .int x4)] (by decide) rfl dL_law_1642 ?_
  refine g_aload_n h 3 rfl dL_law_1644 ?_
  refine g_aload_nX h 1 rfl dL_law_1645 ?_
  refine g_iload h 5 rfl dL_law_1646 ?_
  refine g_iconst h 1 (v := 1) (by decide) dL_law_1648 ?_
  refine g_iadd h dL_law_1649 ?_
  refine g_sld h zS zf dL_law_1650 ?_
  clear zf; intro vq234 zf
  have zf1 := b2_some zf
  clear zf; obtain ⟨vq235, Mq236, zq, zf⟩ := zf1
  refine g_callVwi (As := [.int vq234]) (rest := []) h ceX13_another mlL_205 imX13_another seX13_another (by rfl) (kd_lt (by rw [(by decide : kd 103 = 11)]; decide)) (ent_11 (by decide : kd 103 = 11)) rfl rfl ⟨Nat.le_of_ble_eq_true rfl, Nat.le_of_ble_eq_true rfl⟩ ⟨(by dsimp only; omega), (by dsimp only; omega)⟩ rfl dL_law_1651 rfl (Nat.le_of_ble_eq_true rfl) (cmX13_another zq) ?_
  refine g_istore h [(6, .int vq235), (5, .int vq232), (0, Value.ref zb), (1, rv G.1 0), (2, rv G.1 103), (3, rv G.1 144), (4, .int x4)] (by decide) rfl dL_law_1654 ?_
  refine g_aload_n h 4 rfl dL_law_1656 ?_
  have zf1 := bd_some zf
  clear zf; obtain ⟨vq237, zq, zf⟩ := zf1
  refine g_callVri (As := []) (rest := []) h ceX13_thrown mlL_110 imX13_thrown seX13_thrown (by rfl) (kd_lt (by rw [(by decide : kd 103 = 11)]; decide)) (ent_11 (by decide : kd 103 = 11)) rfl rfl ⟨Nat.le_of_ble_eq_true rfl, Nat.le_of_ble_eq_true rfl⟩ ⟨(by dsimp only; omega), (by dsimp only; omega)⟩ rfl dL_law_1657 rfl (Nat.le_of_ble_eq_true rfl) (cmX13_thrown zq) ?_
  refine g_iload h 1 rfl dL_law_1660 ?_
  refine g_ic_eq h 1667 (by decide) zf dL_law_1662 ?_ ?_ <;> clear zf <;> intro zf
  · refine g_iload h 1 rfl dL_law_1667 ?_
    refine g_if_ne h 1684 (by decide) zf dL_law_1669 ?_ ?_ <;> clear zf <;> intro zf
    · refine g_goto h 2164 (by decide) dL_law_1684 ?_
      refine g_sub h [2, 3, 4, 5, 6] rfl ?_
      exact kL_law_b2164 zS zQ h zl (kc := kc) (ks := ks) (by omega) (by omega) zh23 zf
    · refine g_aload_n h 5 rfl dL_law_1672 ?_
      refine g_iconst h 0 (v := 0) (by decide) dL_law_1673 ?_
      refine g_lald h 1 (by decide : kd 144 = 22) (by decide) zf dL_law_1674 ?_
      clear zf; intro vq238 zf
      refine g_iload h 0 rfl dL_law_1675 ?_
      refine g_i2l h dL_law_1677 ?_
      refine g_lcmp h dL_law_1678 ?_
      refine g_if_eq h 1684 (by decide) zf dL_law_1679 ?_ ?_ <;> clear zf <;> intro zf
      · refine g_goto h 2164 (by decide) dL_law_1684 ?_
        refine g_sub h [2, 3, 4, 5, 6] rfl ?_
        exact kL_law_b2164 zS zQ h zl (kc := kc) (ks := ks) (by omega) (by omega) zh23 zf
      · refine g_iconst h 0 (v := 0) (by decide) dL_law_1682 ?_
        obtain rfl := Option.some.inj zf
        exact zQ _ _ _ _ _ _ (by omega) (by omega) dL_law_1683
  · refine g_iconst h 0 (v := 0) (by decide) dL_law_1665 ?_
    obtain rfl := Option.some.inj zf
    exact zQ _ _ _ _ _ _ (by omega) (by omega) dL_law_1666

theorem kL_law_b1687 {G : GX} {QL : Int32 → State → Prop} {xs : Nat → Int32} {L zb : Nat} (zS : SCR G zb L xs) (zQ : RTL G QL) (h : OKm G cL_law RL 7 (some .boolean) { frames := 2048, cells := 601024, slots := 7293034, locals := 84000 }) (zl : G.2.2.1.stackTraces = false) {kc ks : Nat} (zc : kc ≤ 500000) (zd : ks ≤ 6000000) {a23 : Mem → Int32 → Option Int32} (zh23 : ∀ (M : Mem) (x4 : Int32) (res : Int32), a23 M x4 = some res → GG G (QL res) (kc + 4) (ks + 24) 23 [(0, Value.ref zb), (1, rv G.1 0), (2, rv G.1 103), (3, rv G.1 144), (4, .int x4)] [] M) {M : Mem} {x4 : Int32} {res : Int32} (zf : fL_law_b1687 xs L a23 M x4 = some res) : GG G (QL res) kc ks 1687 [(0, Value.ref zb), (1, rv G.1 0), (2, rv G.1 103), (3, rv G.1 144), (4, .int x4)] [] M := by
  unfold fL_law_b1687 at zf
  refine g_aload_n h 1 rfl dL_law_1687 ?_
  refine g_aload_nX h 0 rfl dL_law_1688 ?_
  refine g_iload h 4 rfl dL_law_1689 ?_
  refine g_iconst h 1 (v := 1) (by decide) dL_law_1691 ?_
  refine g_iadd h dL_law_1692 ?_
  refine g_sld h zS zf dL_law_1693 ?_
  clear zf; intro vq239 zf
  refine g_aload_n h 3 rfl dL_law_1694 ?_
  have zf1 := b2_some zf
  clear zf; obtain ⟨vq240, Mq241, zq, zf⟩ := zf1
  refine g_callSW (n := 3) (mc := 4) (ms := 24) (As := [rv G.1 0, .int vq239, rv G.1 144]) (rest := []) h cdL_next iniL ⟨by decide +kernel, by decide +kernel, by decide +kernel⟩ mlL_206 smL_next rfl rfl ⟨Nat.le_of_ble_eq_true rfl, Nat.le_of_ble_eq_true rfl⟩ ⟨(by dsimp only; omega), (by dsimp only; omega)⟩ rfl dL_law_1695 rfl (Nat.le_of_ble_eq_true rfl) (cwL_next zl zq) ?_
  refine g_istore h [(5, .int vq240), (0, Value.ref zb), (1, rv G.1 0), (2, rv G.1 103), (3, rv G.1 144), (4, .int x4)] (by decide) rfl dL_law_1698 ?_
  refine g_aload_n h 3 rfl dL_law_1700 ?_
  refine g_aload_nX h 1 rfl dL_law_1701 ?_
  refine g_iload h 5 rfl dL_law_1702 ?_
  refine g_iconst h 1 (v := 1) (by decide) dL_law_1704 ?_
  refine g_iadd h dL_law_1705 ?_
  refine g_sld h zS zf dL_law_1706 ?_
  clear zf; intro vq242 zf
  have zf1 := b2_some zf
  clear zf; obtain ⟨vq243, Mq244, zq, zf⟩ := zf1
  refine g_callVwi (As := [.int vq242]) (rest := []) h ceX13_next mlL_208 imX13_next seX13_next (by rfl) (kd_lt (by rw [(by decide : kd 103 = 11)]; decide)) (ent_11 (by decide : kd 103 = 11)) rfl rfl ⟨Nat.le_of_ble_eq_true rfl, Nat.le_of_ble_eq_true rfl⟩ ⟨(by dsimp only; omega), (by dsimp only; omega)⟩ rfl dL_law_1707 rfl (Nat.le_of_ble_eq_true rfl) (cmX13_next zq) ?_
  refine g_istore h [(6, .int vq243), (5, .int vq240), (0, Value.ref zb), (1, rv G.1 0), (2, rv G.1 103), (3, rv G.1 144), (4, .int x4)] (by decide) rfl dL_law_1710 ?_
  refine g_aload_n h 4 rfl dL_law_1712 ?_
  have zf1 := bd_some zf
  clear zf; obtain ⟨vq245, zq, zf⟩ := zf1
  refine g_callVri (As := []) (rest := []) h ceX13_thrown mlL_110 imX13_thrown seX13_thrown (by rfl) (kd_lt (by rw [(by decide : kd 103 = 11)]; decide)) (ent_11 (by decide : kd 103 = 11)) rfl rfl ⟨Nat.le_of_ble_eq_true rfl, Nat.le_of_ble_eq_true rfl⟩ ⟨(by dsimp only; omega), (by dsimp only; omega)⟩ rfl dL_law_1713 rfl (Nat.le_of_ble_eq_true rfl) (cmX13_thrown zq) ?_
  refine g_iload h 1 rfl dL_law_1716 ?_
  refine g_ic_eq h 1723 (by decide) zf dL_law_1718 ?_ ?_ <;> clear zf <;> intro zf
  · refine g_iload h 1 rfl dL_law_1723 ?_
    refine g_if_ne h 1740 (by decide) zf dL_law_1725 ?_ ?_ <;> clear zf <;> intro zf
    · refine g_goto h 2164 (by decide) dL_law_1740 ?_
      refine g_sub h [2, 3, 4, 5, 6] rfl ?_
      exact kL_law_b2164 zS zQ h zl (kc := kc) (ks := ks) (by omega) (by omega) zh23 zf
    · refine g_aload_n h 5 rfl dL_law_1728 ?_
      refine g_iconst h 0 (v := 0) (by decide) dL_law_1729 ?_
      refine g_lald h 1 (by decide : kd 144 = 22) (by decide) zf dL_law_1730 ?_
      clear zf; intro vq246 zf
      refine g_iload h 0 rfl dL_law_1731 ?_
      refine g_i2l h dL_law_1733 ?_
      refine g_lcmp h dL_law_1734 ?_
      refine g_if_eq h 1740 (by decide) zf dL_law_1735 ?_ ?_ <;> clear zf <;> intro zf
      · refine g_goto h 2164 (by decide) dL_law_1740 ?_
        refine g_sub h [2, 3, 4, 5, 6] rfl ?_
        exact kL_law_b2164 zS zQ h zl (kc := kc) (ks := ks) (by omega) (by omega) zh23 zf
      · refine g_iconst h 0 (v := 0) (by decide) dL_law_1738 ?_
        obtain rfl := Option.some.inj zf
        exact zQ _ _ _ _ _ _ (by omega) (by omega) dL_law_1739
  · refine g_iconst h 0 (v := 0) (by decide) dL_law_1721 ?_
    obtain rfl := Option.some.inj zf
    exact zQ _ _ _ _ _ _ (by omega) (by omega) dL_law_1722

theorem kL_law_b1743 {G : GX} {QL : Int32 → State → Prop} {xs : Nat → Int32} {L zb : Nat} (zS : SCR G zb L xs) (zQ : RTL G QL) (h : OKm G cL_law RL 7 (some .boolean) { frames := 2048, cells := 601024, slots := 7293034, locals := 84000 }) (zl : G.2.2.1.stackTraces = false) {kc ks : Nat} (zc : kc ≤ 500000) (zd : ks ≤ 6000000) {a23 : Mem → Int32 → Option Int32} (zh23 : ∀ (M : Mem) (x4 : Int32) (res : Int32), a23 M x4 = some res → GG G (QL res) (kc + 4) (ks + 24) 23 [(0, Value.ref zb), (1, rv G.1 0), (2, rv G.1 103), (3, rv G.1 144), (4, .int x4)] [] M) {M : Mem} {x4 : Int32} {res : Int32} (zf : fL_law_b1743 xs L a23 M x4 = some res) : GG G (QL res) kc ks 1743 [(0, Value.ref zb), (1, rv G.1 0), (2, rv G.1 103), (3, rv G.1 144), (4, .int x4)] [] M := by
  unfold fL_law_b1743 at zf
  refine g_aload_n h 1 rfl dL_law_1743 ?_
  refine g_aload_nX h 0 rfl dL_law_1744 ?_
  refine g_iload h 4 rfl dL_law_1745 ?_
  refine g_iconst h 1 (v := 1) (by decide) dL_law_1747 ?_
  refine g_iadd h dL_law_1748 ?_
  refine g_sld h zS zf dL_law_1749 ?_
  clear zf; intro vq247 zf
  refine g_aload_nX h 0 rfl dL_law_1750 ?_
  refine g_iload h 4 rfl dL_law_1751 ?_
  refine g_iconst h 2 (v := 2) (by decide) dL_law_1753 ?_
  refine g_iadd h dL_law_1754 ?_
  refine g_sld h zS zf dL_law_1755 ?_
  clear zf; intro vq248 zf
  refine g_aload_nX h 0 rfl dL_law_1756 ?_
  refine g_iload h 4 rfl dL_law_1757 ?_
  refine g_iconst h 3 (v := 3) (by decide) dL_law_1759 ?_
  refine g_iadd h dL_law_1760 ?_
  refine g_sld h zS zf dL_law_1761 ?_
  clear zf; intro vq249 zf
  refine g_aload_n h 3 rfl dL_law_1762 ?_
  have zf1 := b2_some zf
  clear zf; obtain ⟨vq250, Mq251, zq, zf⟩ := zf1
  refine g_callSW (n := 5) (mc := 4) (ms := 24) (As := [rv G.1 0, .int vq247, .int vq248, .int vq249, rv G.1 144]) (rest := []) h cdL_game iniL ⟨by decide +kernel, by decide +kernel, by decide +kernel⟩ mlL_209 smL_game rfl rfl ⟨Nat.le_of_ble_eq_true rfl, Nat.le_of_ble_eq_true rfl⟩ ⟨(by dsimp only; omega), (by dsimp only; omega)⟩ rfl dL_law_1763 rfl (Nat.le_of_ble_eq_true rfl) (cwL_game zl zq) ?_
  refine g_istore h [(5, .int vq250), (0, Value.ref zb), (1, rv G.1 0), (2, rv G.1 103), (3, rv G.1 144), (4, .int x4)] (by decide) rfl dL_law_1766 ?_
  refine g_aload_n h 3 rfl dL_law_1768 ?_
  refine g_aload_nX h 1 rfl dL_law_1769 ?_
  refine g_iload h 5 rfl dL_law_1770 ?_
  refine g_iconst h 1 (v := 1) (by decide) dL_law_1772 ?_
  refine g_iadd h dL_law_1773 ?_
  refine g_sld h zS zf dL_law_1774 ?_
  clear zf; intro vq252 zf
  refine g_aload_nX h 1 rfl dL_law_1775 ?_
  refine g_iload h 5 rfl dL_law_1776 ?_
  refine g_iconst h 2 (v := 2) (by decide) dL_law_1778 ?_
  refine g_iadd h dL_law_1779 ?_
  refine g_sld h zS zf dL_law_1780 ?_
  clear zf; intro vq253 zf
  refine g_aload_nX h 1 rfl dL_law_1781 ?_
  refine g_iload h 5 rfl dL_law_1782 ?_
  refine g_iconst h 3 (v := 3) (by decide) dL_law_1784 ?_
  refine g_iadd h dL_law_1785 ?_
  refine g_sld h zS zf dL_law_1786 ?_
  clear zf; intro vq254 zf
  have zf1 := b2_some zf
  clear zf; obtain ⟨vq255, Mq256, zq, zf⟩ := zf1
  refine g_callVwi (As := [.int vq252, .int vq253, .int vq254]) (rest := []) h ceX13_game mlL_211 imX13_game seX13_game (by rfl) (kd_lt (by rw [(by decide : kd 103 = 11)]; decide)) (ent_11 (by decide : kd 103 = 11)) rfl rfl ⟨Nat.le_of_ble_eq_true rfl, Nat.le_of_ble_eq_true rfl⟩ ⟨(by dsimp only; omega), (by dsimp only; omega)⟩ rfl dL_law_1787 rfl (Nat.le_of_ble_eq_true rfl) (cmX13_game zq) ?_
  refine g_istore h [(6, .int vq255), (5, .int vq250), (0, Value.ref zb), (1, rv G.1 0), (2, rv G.1 103), (3, rv G.1 144), (4, .int x4)] (by decide) rfl dL_law_1790 ?_
  refine g_aload_n h 4 rfl dL_law_1792 ?_
  have zf1 := bd_some zf
  clear zf; obtain ⟨vq257, zq, zf⟩ := zf1
  refine g_callVri (As := []) (rest := []) h ceX13_thrown mlL_110 imX13_thrown seX13_thrown (by rfl) (kd_lt (by rw [(by decide : kd 103 = 11)]; decide)) (ent_11 (by decide : kd 103 = 11)) rfl rfl ⟨Nat.le_of_ble_eq_true rfl, Nat.le_of_ble_eq_true rfl⟩ ⟨(by dsimp only; omega), (by dsimp only; omega)⟩ rfl dL_law_1793 rfl (Nat.le_of_ble_eq_true rfl) (cmX13_thrown zq) ?_
  refine g_iload h 1 rfl dL_law_1796 ?_
  refine g_ic_eq h 1803 (by decide) zf dL_law_1798 ?_ ?_ <;> clear zf <;> intro zf
  · refine g_iload h 1 rfl dL_law_1803 ?_
    refine g_if_ne h 1820 (by decide) zf dL_law_1805 ?_ ?_ <;> clear zf <;> intro zf
    · refine g_goto h 2164 (by decide) dL_law_1820 ?_
      refine g_sub h [2, 3, 4, 5, 6] rfl ?_
      exact kL_law_b2164 zS zQ h zl (kc := kc) (ks := ks) (by omega) (by omega) zh23 zf
    · refine g_aload_n h 5 rfl dL_law_1808 ?_
      refine g_iconst h 0 (v := 0) (by decide) dL_law_1809 ?_
      refine g_lald h 1 (by decide : kd 144 = 22) (by decide) zf dL_law_1810 ?_
      clear zf; intro vq258 zf
      refine g_iload h 0 rfl dL_law_1811 ?_
      refine g_i2l h dL_law_1813 ?_
      refine g_lcmp h dL_law_1814 ?_
      refine g_if_eq h 1820 (by decide) zf dL_law_1815 ?_ ?_ <;> clear zf <;> intro zf
      · refine g_goto h 2164 (by decide) dL_law_1820 ?_
        refine g_sub h [2, 3, 4, 5, 6] rfl ?_
        exact kL_law_b2164 zS zQ h zl (kc := kc) (ks := ks) (by omega) (by omega) zh23 zf
      · refine g_iconst h 0 (v := 0) (by decide) dL_law_1818 ?_
        obtain rfl := Option.some.inj zf
        exact zQ _ _ _ _ _ _ (by omega) (by omega) dL_law_1819
  · refine g_iconst h 0 (v := 0) (by decide) dL_law_1801 ?_
    obtain rfl := Option.some.inj zf
    exact zQ _ _ _ _ _ _ (by omega) (by omega) dL_law_1802

theorem kL_law_b1823 {G : GX} {QL : Int32 → State → Prop} {xs : Nat → Int32} {L zb : Nat} (zS : SCR G zb L xs) (zQ : RTL G QL) (h : OKm G cL_law RL 7 (some .boolean) { frames := 2048, cells := 601024, slots := 7293034, locals := 84000 }) (zl : G.2.2.1.stackTraces = false) {kc ks : Nat} (zc : kc ≤ 500000) (zd : ks ≤ 6000000) {a23 : Mem → Int32 → Option Int32} (zh23 : ∀ (M : Mem) (x4 : Int32) (res : Int32), a23 M x4 = some res → GG G (QL res) (kc + 4) (ks + 24) 23 [(0, Value.ref zb), (1, rv G.1 0), (2, rv G.1 103), (3, rv G.1 144), (4, .int x4)] [] M) {M : Mem} {x4 : Int32} {res : Int32} (zf : fL_law_b1823 xs L a23 M x4 = some res) : GG G (QL res) kc ks 1823 [(0, Value.ref zb), (1, rv G.1 0), (2, rv G.1 103), (3, rv G.1 144), (4, .int x4)] [] M := by
  unfold fL_law_b1823 at zf
  refine g_aload_n h 1 rfl dL_law_1823 ?_
  refine g_aload_nX h 0 rfl dL_law_1824 ?_
  refine g_iload h 4 rfl dL_law_1825 ?_
  refine g_iconst h 1 (v := 1) (by decide) dL_law_1827 ?_
  refine g_iadd h dL_law_1828 ?_
  refine g_sld h zS zf dL_law_1829 ?_
  clear zf; intro vq259 zf
  refine g_aload_nX h 0 rfl dL_law_1830 ?_
  refine g_iload h 4 rfl dL_law_1831 ?_
  refine g_iconst h 2 (v := 2) (by decide) dL_law_1833 ?_
  refine g_iadd h dL_law_1834 ?_
  refine g_sld h zS zf dL_law_1835 ?_
  clear zf; intro vq260 zf
  refine g_aload_nX h 0 rfl dL_law_1836 ?_
  refine g_iload h 4 rfl dL_law_1837 ?_
  refine g_iconst h 3 (v := 3) (by decide) dL_law_1839 ?_
  refine g_iadd h dL_law_1840 ?_
  refine g_sld h zS zf dL_law_1841 ?_
  clear zf; intro vq261 zf
  refine g_aload_n h 3 rfl dL_law_1842 ?_
  have zf1 := b2_some zf
  clear zf; obtain ⟨vq262, Mq263, zq, zf⟩ := zf1
  refine g_callSW (n := 5) (mc := 4) (ms := 24) (As := [rv G.1 0, .int vq259, .int vq260, .int vq261, rv G.1 144]) (rest := []) h cdL_cities iniL ⟨by decide +kernel, by decide +kernel, by decide +kernel⟩ mlL_212 smL_cities rfl rfl ⟨Nat.le_of_ble_eq_true rfl, Nat.le_of_ble_eq_true rfl⟩ ⟨(by dsimp only; omega), (by dsimp only; omega)⟩ rfl dL_law_1843 rfl (Nat.le_of_ble_eq_true rfl) (cwL_cities zl zq) ?_
  refine g_istore h [(5, .int vq262), (0, Value.ref zb), (1, rv G.1 0), (2, rv G.1 103), (3, rv G.1 144), (4, .int x4)] (by decide) rfl dL_law_1846 ?_
  refine g_aload_n h 3 rfl dL_law_1848 ?_
  refine g_aload_nX h 1 rfl dL_law_1849 ?_
  refine g_iload h 5 rfl dL_law_1850 ?_
  refine g_iconst h 1 (v := 1) (by decide) dL_law_1852 ?_
  refine g_iadd h dL_law_1853 ?_
  refine g_sld h zS zf dL_law_1854 ?_
  clear zf; intro vq264 zf
  refine g_aload_nX h 1 rfl dL_law_1855 ?_
  refine g_iload h 5 rfl dL_law_1856 ?_
  refine g_iconst h 2 (v := 2) (by decide) dL_law_1858 ?_
  refine g_iadd h dL_law_1859 ?_
  refine g_sld h zS zf dL_law_1860 ?_
  clear zf; intro vq265 zf
  refine g_aload_nX h 1 rfl dL_law_1861 ?_
  refine g_iload h 5 rfl dL_law_1862 ?_
  refine g_iconst h 3 (v := 3) (by decide) dL_law_1864 ?_
  refine g_iadd h dL_law_1865 ?_
  refine g_sld h zS zf dL_law_1866 ?_
  clear zf; intro vq266 zf
  have zf1 := b2_some zf
  clear zf; obtain ⟨vq267, Mq268, zq, zf⟩ := zf1
  refine g_callVwi (As := [.int vq264, .int vq265, .int vq266]) (rest := []) h ceX13_cities mlL_214 imX13_cities seX13_cities (by rfl) (kd_lt (by rw [(by decide : kd 103 = 11)]; decide)) (ent_11 (by decide : kd 103 = 11)) rfl rfl ⟨Nat.le_of_ble_eq_true rfl, Nat.le_of_ble_eq_true rfl⟩ ⟨(by dsimp only; omega), (by dsimp only; omega)⟩ rfl dL_law_1867 rfl (Nat.le_of_ble_eq_true rfl) (cmX13_cities zq) ?_
  refine g_istore h [(6, .int vq267), (5, .int vq262), (0, Value.ref zb), (1, rv G.1 0), (2, rv G.1 103), (3, rv G.1 144), (4, .int x4)] (by decide) rfl dL_law_1870 ?_
  refine g_aload_n h 4 rfl dL_law_1872 ?_
  have zf1 := bd_some zf
  clear zf; obtain ⟨vq269, zq, zf⟩ := zf1
  refine g_callVri (As := []) (rest := []) h ceX13_thrown mlL_110 imX13_thrown seX13_thrown (by rfl) (kd_lt (by rw [(by decide : kd 103 = 11)]; decide)) (ent_11 (by decide : kd 103 = 11)) rfl rfl ⟨Nat.le_of_ble_eq_true rfl, Nat.le_of_ble_eq_true rfl⟩ ⟨(by dsimp only; omega), (by dsimp only; omega)⟩ rfl dL_law_1873 rfl (Nat.le_of_ble_eq_true rfl) (cmX13_thrown zq) ?_
  refine g_iload h 1 rfl dL_law_1876 ?_
  refine g_ic_eq h 1883 (by decide) zf dL_law_1878 ?_ ?_ <;> clear zf <;> intro zf
  · refine g_iload h 1 rfl dL_law_1883 ?_
    refine g_if_ne h 1900 (by decide) zf dL_law_1885 ?_ ?_ <;> clear zf <;> intro zf
    · refine g_goto h 2164 (by decide) dL_law_1900 ?_
      refine g_sub h [2, 3, 4, 5, 6] rfl ?_
      exact kL_law_b2164 zS zQ h zl (kc := kc) (ks := ks) (by omega) (by omega) zh23 zf
    · refine g_aload_n h 5 rfl dL_law_1888 ?_
      refine g_iconst h 0 (v := 0) (by decide) dL_law_1889 ?_
      refine g_lald h 1 (by decide : kd 144 = 22) (by decide) zf dL_law_1890 ?_
      clear zf; intro vq270 zf
      refine g_iload h 0 rfl dL_law_1891 ?_
      refine g_i2l h dL_law_1893 ?_
      refine g_lcmp h dL_law_1894 ?_
      refine g_if_eq h 1900 (by decide) zf dL_law_1895 ?_ ?_ <;> clear zf <;> intro zf
      · refine g_goto h 2164 (by decide) dL_law_1900 ?_
        refine g_sub h [2, 3, 4, 5, 6] rfl ?_
        exact kL_law_b2164 zS zQ h zl (kc := kc) (ks := ks) (by omega) (by omega) zh23 zf
      · refine g_iconst h 0 (v := 0) (by decide) dL_law_1898 ?_
        obtain rfl := Option.some.inj zf
        exact zQ _ _ _ _ _ _ (by omega) (by omega) dL_law_1899
  · refine g_iconst h 0 (v := 0) (by decide) dL_law_1881 ?_
    obtain rfl := Option.some.inj zf
    exact zQ _ _ _ _ _ _ (by omega) (by omega) dL_law_1882

theorem kL_law_b1903 {G : GX} {QL : Int32 → State → Prop} {xs : Nat → Int32} {L zb : Nat} (zS : SCR G zb L xs) (zQ : RTL G QL) (h : OKm G cL_law RL 7 (some .boolean) { frames := 2048, cells := 601024, slots := 7293034, locals := 84000 }) (zl : G.2.2.1.stackTraces = false) {kc ks : Nat} (zc : kc ≤ 500000) (zd : ks ≤ 6000000) {a23 : Mem → Int32 → Option Int32} (zh23 : ∀ (M : Mem) (x4 : Int32) (res : Int32), a23 M x4 = some res → GG G (QL res) (kc + 4) (ks + 24) 23 [(0, Value.ref zb), (1, rv G.1 0), (2, rv G.1 103), (3, rv G.1 144), (4, .int x4)] [] M) {M : Mem} {x4 : Int32} {res : Int32} (zf : fL_law_b1903 xs L a23 M x4 = some res) : GG G (QL res) kc ks 1903 [(0, Value.ref zb), (1, rv G.1 0), (2, rv G.1 103), (3, rv G.1 144), (4, .int x4)] [] M := by
  unfold fL_law_b1903 at zf
  refine g_aload_n h 1 rfl dL_law_1903 ?_
  have zf1 := b2_some zf
  clear zf; obtain ⟨vq271, Mq272, zq, zf⟩ := zf1
  refine g_callVwi (As := []) (rest := []) h ceX12_ruin mlL_215 imX12_ruin seX12_ruin (by rfl) (kd_lt (by rw [(by decide : kd 0 = 10)]; decide)) (ent_10 (by decide : kd 0 = 10)) rfl rfl ⟨Nat.le_of_ble_eq_true rfl, Nat.le_of_ble_eq_true rfl⟩ ⟨(by dsimp only; omega), (by dsimp only; omega)⟩ rfl dL_law_1904 rfl (Nat.le_of_ble_eq_true rfl) (cmX12_ruin zq) ?_
  refine g_aload_n h 2 rfl dL_law_1907 ?_
  have zf1 := b2_some zf
  clear zf; obtain ⟨vq273, Mq274, zq, zf⟩ := zf1
  refine g_callVwi (As := []) (rest := [.int vq271]) h ceX13_ruin mlL_218 imX13_ruin seX13_ruin (by rfl) (kd_lt (by rw [(by decide : kd 103 = 11)]; decide)) (ent_11 (by decide : kd 103 = 11)) rfl rfl ⟨Nat.le_of_ble_eq_true rfl, Nat.le_of_ble_eq_true rfl⟩ ⟨(by dsimp only; omega), (by dsimp only; omega)⟩ rfl dL_law_1908 rfl (Nat.le_of_ble_eq_true rfl) (cmX13_ruin zq) ?_
  refine g_ic_eq h 2164 (by decide) zf dL_law_1911 ?_ ?_ <;> clear zf <;> intro zf
  · refine g_cs h (kc' := kc + 4) (ks' := ks + 24) (by omega) (by omega) ?_
    refine g_sub h [0, 1, 2, 3, 4] rfl ?_
    exact kL_law_b2164 zS zQ h zl (kc := kc) (ks := ks) (by omega) (by omega) zh23 zf
  · refine g_iconst h 0 (v := 0) (by decide) dL_law_1914 ?_
    obtain rfl := Option.some.inj zf
    exact zQ _ _ _ _ _ _ (by omega) (by omega) dL_law_1915

theorem kL_law_b1916 {G : GX} {QL : Int32 → State → Prop} {xs : Nat → Int32} {L zb : Nat} (zS : SCR G zb L xs) (zQ : RTL G QL) (h : OKm G cL_law RL 7 (some .boolean) { frames := 2048, cells := 601024, slots := 7293034, locals := 84000 }) (zl : G.2.2.1.stackTraces = false) {kc ks : Nat} (zc : kc ≤ 500000) (zd : ks ≤ 6000000) {a23 : Mem → Int32 → Option Int32} (zh23 : ∀ (M : Mem) (x4 : Int32) (res : Int32), a23 M x4 = some res → GG G (QL res) (kc + 4) (ks + 24) 23 [(0, Value.ref zb), (1, rv G.1 0), (2, rv G.1 103), (3, rv G.1 144), (4, .int x4)] [] M) {M : Mem} {x4 : Int32} {res : Int32} (zf : fL_law_b1916 xs L a23 M x4 = some res) : GG G (QL res) kc ks 1916 [(0, Value.ref zb), (1, rv G.1 0), (2, rv G.1 103), (3, rv G.1 144), (4, .int x4)] [] M := by
  unfold fL_law_b1916 at zf
  refine g_aload_n h 1 rfl dL_law_1916 ?_
  refine g_aload_nX h 0 rfl dL_law_1917 ?_
  refine g_iload h 4 rfl dL_law_1918 ?_
  refine g_iconst h 1 (v := 1) (by decide) dL_law_1920 ?_
  refine g_iadd h dL_law_1921 ?_
  refine g_sld h zS zf dL_law_1922 ?_
  clear zf; intro vq275 zf
  refine g_aload_n h 3 rfl dL_law_1923 ?_
  have zf1 := b2_some zf
  clear zf; obtain ⟨vq276, Mq277, zq, zf⟩ := zf1
  refine g_callSW (n := 3) (mc := 4) (ms := 24) (As := [rv G.1 0, .int vq275, rv G.1 144]) (rest := []) h cdL_highest iniL ⟨by decide +kernel, by decide +kernel, by decide +kernel⟩ mlL_219 smL_highest rfl rfl ⟨Nat.le_of_ble_eq_true rfl, Nat.le_of_ble_eq_true rfl⟩ ⟨(by dsimp only; omega), (by dsimp only; omega)⟩ rfl dL_law_1924 rfl (Nat.le_of_ble_eq_true rfl) (cwL_highest zl zq) ?_
  refine g_istore h [(5, .int vq276), (0, Value.ref zb), (1, rv G.1 0), (2, rv G.1 103), (3, rv G.1 144), (4, .int x4)] (by decide) rfl dL_law_1927 ?_
  refine g_aload_n h 3 rfl dL_law_1929 ?_
  refine g_aload_nX h 1 rfl dL_law_1930 ?_
  refine g_iload h 5 rfl dL_law_1931 ?_
  refine g_iconst h 1 (v := 1) (by decide) dL_law_1933 ?_
  refine g_iadd h dL_law_1934 ?_
  refine g_sld h zS zf dL_law_1935 ?_
  clear zf; intro vq278 zf
  have zf1 := b2_some zf
  clear zf; obtain ⟨vq279, Mq280, zq, zf⟩ := zf1
  refine g_callVwi (As := [.int vq278]) (rest := []) h ceX13_highest mlL_221 imX13_highest seX13_highest (by rfl) (kd_lt (by rw [(by decide : kd 103 = 11)]; decide)) (ent_11 (by decide : kd 103 = 11)) rfl rfl ⟨Nat.le_of_ble_eq_true rfl, Nat.le_of_ble_eq_true rfl⟩ ⟨(by dsimp only; omega), (by dsimp only; omega)⟩ rfl dL_law_1936 rfl (Nat.le_of_ble_eq_true rfl) (cmX13_highest zq) ?_
  refine g_istore h [(6, .int vq279), (5, .int vq276), (0, Value.ref zb), (1, rv G.1 0), (2, rv G.1 103), (3, rv G.1 144), (4, .int x4)] (by decide) rfl dL_law_1939 ?_
  refine g_aload_n h 4 rfl dL_law_1941 ?_
  have zf1 := bd_some zf
  clear zf; obtain ⟨vq281, zq, zf⟩ := zf1
  refine g_callVri (As := []) (rest := []) h ceX13_thrown mlL_110 imX13_thrown seX13_thrown (by rfl) (kd_lt (by rw [(by decide : kd 103 = 11)]; decide)) (ent_11 (by decide : kd 103 = 11)) rfl rfl ⟨Nat.le_of_ble_eq_true rfl, Nat.le_of_ble_eq_true rfl⟩ ⟨(by dsimp only; omega), (by dsimp only; omega)⟩ rfl dL_law_1942 rfl (Nat.le_of_ble_eq_true rfl) (cmX13_thrown zq) ?_
  refine g_iload h 1 rfl dL_law_1945 ?_
  refine g_ic_eq h 1952 (by decide) zf dL_law_1947 ?_ ?_ <;> clear zf <;> intro zf
  · refine g_iload h 1 rfl dL_law_1952 ?_
    refine g_if_ne h 1969 (by decide) zf dL_law_1954 ?_ ?_ <;> clear zf <;> intro zf
    · refine g_goto h 2164 (by decide) dL_law_1969 ?_
      refine g_sub h [2, 3, 4, 5, 6] rfl ?_
      exact kL_law_b2164 zS zQ h zl (kc := kc) (ks := ks) (by omega) (by omega) zh23 zf
    · refine g_aload_n h 5 rfl dL_law_1957 ?_
      refine g_iconst h 0 (v := 0) (by decide) dL_law_1958 ?_
      refine g_lald h 1 (by decide : kd 144 = 22) (by decide) zf dL_law_1959 ?_
      clear zf; intro vq282 zf
      refine g_iload h 0 rfl dL_law_1960 ?_
      refine g_i2l h dL_law_1962 ?_
      refine g_lcmp h dL_law_1963 ?_
      refine g_if_eq h 1969 (by decide) zf dL_law_1964 ?_ ?_ <;> clear zf <;> intro zf
      · refine g_goto h 2164 (by decide) dL_law_1969 ?_
        refine g_sub h [2, 3, 4, 5, 6] rfl ?_
        exact kL_law_b2164 zS zQ h zl (kc := kc) (ks := ks) (by omega) (by omega) zh23 zf
      · refine g_iconst h 0 (v := 0) (by decide) dL_law_1967 ?_
        obtain rfl := Option.some.inj zf
        exact zQ _ _ _ _ _ _ (by omega) (by omega) dL_law_1968
  · refine g_iconst h 0 (v := 0) (by decide) dL_law_1950 ?_
    obtain rfl := Option.some.inj zf
    exact zQ _ _ _ _ _ _ (by omega) (by omega) dL_law_1951

theorem kL_law_b1972 {G : GX} {QL : Int32 → State → Prop} {xs : Nat → Int32} {L zb : Nat} (zS : SCR G zb L xs) (zQ : RTL G QL) (h : OKm G cL_law RL 7 (some .boolean) { frames := 2048, cells := 601024, slots := 7293034, locals := 84000 }) (zl : G.2.2.1.stackTraces = false) {kc ks : Nat} (zc : kc ≤ 500000) (zd : ks ≤ 6000000) {a23 : Mem → Int32 → Option Int32} (zh23 : ∀ (M : Mem) (x4 : Int32) (res : Int32), a23 M x4 = some res → GG G (QL res) (kc + 4) (ks + 24) 23 [(0, Value.ref zb), (1, rv G.1 0), (2, rv G.1 103), (3, rv G.1 144), (4, .int x4)] [] M) {M : Mem} {x4 : Int32} {res : Int32} (zf : fL_law_b1972 xs L a23 M x4 = some res) : GG G (QL res) kc ks 1972 [(0, Value.ref zb), (1, rv G.1 0), (2, rv G.1 103), (3, rv G.1 144), (4, .int x4)] [] M := by
  unfold fL_law_b1972 at zf
  refine g_aload_n h 1 rfl dL_law_1972 ?_
  refine g_aload_nX h 0 rfl dL_law_1973 ?_
  refine g_iload h 4 rfl dL_law_1974 ?_
  refine g_iconst h 1 (v := 1) (by decide) dL_law_1976 ?_
  refine g_iadd h dL_law_1977 ?_
  refine g_sld h zS zf dL_law_1978 ?_
  clear zf; intro vq283 zf
  refine g_aload_n h 3 rfl dL_law_1979 ?_
  have zf1 := b2_some zf
  clear zf; obtain ⟨vq284, Mq285, zq, zf⟩ := zf1
  refine g_callSW (n := 3) (mc := 4) (ms := 24) (As := [rv G.1 0, .int vq283, rv G.1 144]) (rest := []) h cdL_better iniL ⟨by decide +kernel, by decide +kernel, by decide +kernel⟩ mlL_222 smL_better rfl rfl ⟨Nat.le_of_ble_eq_true rfl, Nat.le_of_ble_eq_true rfl⟩ ⟨(by dsimp only; omega), (by dsimp only; omega)⟩ rfl dL_law_1980 rfl (Nat.le_of_ble_eq_true rfl) (cwL_better zl zq) ?_
  refine g_istore h [(5, .int vq284), (0, Value.ref zb), (1, rv G.1 0), (2, rv G.1 103), (3, rv G.1 144), (4, .int x4)] (by decide) rfl dL_law_1983 ?_
  refine g_aload_n h 3 rfl dL_law_1985 ?_
  refine g_aload_nX h 1 rfl dL_law_1986 ?_
  refine g_iload h 5 rfl dL_law_1987 ?_
  refine g_iconst h 1 (v := 1) (by decide) dL_law_1989 ?_
  refine g_iadd h dL_law_1990 ?_
  refine g_sld h zS zf dL_law_1991 ?_
  clear zf; intro vq286 zf
  have zf1 := b2_some zf
  clear zf; obtain ⟨vq287, Mq288, zq, zf⟩ := zf1
  refine g_callVwi (As := [.int vq286]) (rest := []) h ceX13_better mlL_224 imX13_better seX13_better (by rfl) (kd_lt (by rw [(by decide : kd 103 = 11)]; decide)) (ent_11 (by decide : kd 103 = 11)) rfl rfl ⟨Nat.le_of_ble_eq_true rfl, Nat.le_of_ble_eq_true rfl⟩ ⟨(by dsimp only; omega), (by dsimp only; omega)⟩ rfl dL_law_1992 rfl (Nat.le_of_ble_eq_true rfl) (cmX13_better zq) ?_
  refine g_istore h [(6, .int vq287), (5, .int vq284), (0, Value.ref zb), (1, rv G.1 0), (2, rv G.1 103), (3, rv G.1 144), (4, .int x4)] (by decide) rfl dL_law_1995 ?_
  refine g_aload_n h 4 rfl dL_law_1997 ?_
  have zf1 := bd_some zf
  clear zf; obtain ⟨vq289, zq, zf⟩ := zf1
  refine g_callVri (As := []) (rest := []) h ceX13_thrown mlL_110 imX13_thrown seX13_thrown (by rfl) (kd_lt (by rw [(by decide : kd 103 = 11)]; decide)) (ent_11 (by decide : kd 103 = 11)) rfl rfl ⟨Nat.le_of_ble_eq_true rfl, Nat.le_of_ble_eq_true rfl⟩ ⟨(by dsimp only; omega), (by dsimp only; omega)⟩ rfl dL_law_1998 rfl (Nat.le_of_ble_eq_true rfl) (cmX13_thrown zq) ?_
  refine g_iload h 1 rfl dL_law_2001 ?_
  refine g_ic_eq h 2008 (by decide) zf dL_law_2003 ?_ ?_ <;> clear zf <;> intro zf
  · refine g_iload h 1 rfl dL_law_2008 ?_
    refine g_if_ne h 2025 (by decide) zf dL_law_2010 ?_ ?_ <;> clear zf <;> intro zf
    · refine g_goto h 2164 (by decide) dL_law_2025 ?_
      refine g_sub h [2, 3, 4, 5, 6] rfl ?_
      exact kL_law_b2164 zS zQ h zl (kc := kc) (ks := ks) (by omega) (by omega) zh23 zf
    · refine g_aload_n h 5 rfl dL_law_2013 ?_
      refine g_iconst h 0 (v := 0) (by decide) dL_law_2014 ?_
      refine g_lald h 1 (by decide : kd 144 = 22) (by decide) zf dL_law_2015 ?_
      clear zf; intro vq290 zf
      refine g_iload h 0 rfl dL_law_2016 ?_
      refine g_i2l h dL_law_2018 ?_
      refine g_lcmp h dL_law_2019 ?_
      refine g_if_eq h 2025 (by decide) zf dL_law_2020 ?_ ?_ <;> clear zf <;> intro zf
      · refine g_goto h 2164 (by decide) dL_law_2025 ?_
        refine g_sub h [2, 3, 4, 5, 6] rfl ?_
        exact kL_law_b2164 zS zQ h zl (kc := kc) (ks := ks) (by omega) (by omega) zh23 zf
      · refine g_iconst h 0 (v := 0) (by decide) dL_law_2023 ?_
        obtain rfl := Option.some.inj zf
        exact zQ _ _ _ _ _ _ (by omega) (by omega) dL_law_2024
  · refine g_iconst h 0 (v := 0) (by decide) dL_law_2006 ?_
    obtain rfl := Option.some.inj zf
    exact zQ _ _ _ _ _ _ (by omega) (by omega) dL_law_2007

theorem kL_law_b2028 {G : GX} {QL : Int32 → State → Prop} {xs : Nat → Int32} {L zb : Nat} (zS : SCR G zb L xs) (zQ : RTL G QL) (h : OKm G cL_law RL 7 (some .boolean) { frames := 2048, cells := 601024, slots := 7293034, locals := 84000 }) (zl : G.2.2.1.stackTraces = false) {kc ks : Nat} (zc : kc ≤ 500000) (zd : ks ≤ 6000000) {a23 : Mem → Int32 → Option Int32} (zh23 : ∀ (M : Mem) (x4 : Int32) (res : Int32), a23 M x4 = some res → GG G (QL res) (kc + 4) (ks + 24) 23 [(0, Value.ref zb), (1, rv G.1 0), (2, rv G.1 103), (3, rv G.1 144), (4, .int x4)] [] M) {M : Mem} {x4 : Int32} {res : Int32} (zf : fL_law_b2028 xs L a23 M x4 = some res) : GG G (QL res) kc ks 2028 [(0, Value.ref zb), (1, rv G.1 0), (2, rv G.1 103), (3, rv G.1 144), (4, .int x4)] [] M := by
  unfold fL_law_b2028 at zf
  refine g_aload_n h 1 rfl dL_law_2028 ?_
  refine g_aload_nX h 0 rfl dL_law_2029 ?_
  refine g_iload h 4 rfl dL_law_2030 ?_
  refine g_iconst h 1 (v := 1) (by decide) dL_law_2032 ?_
  refine g_iadd h dL_law_2033 ?_
  refine g_sld h zS zf dL_law_2034 ?_
  clear zf; intro vq291 zf
  refine g_aload_n h 3 rfl dL_law_2035 ?_
  have zf1 := b2_some zf
  clear zf; obtain ⟨vq292, Mq293, zq, zf⟩ := zf1
  refine g_callSW (n := 3) (mc := 4) (ms := 24) (As := [rv G.1 0, .int vq291, rv G.1 144]) (rest := []) h cdL_guarded iniL ⟨by decide +kernel, by decide +kernel, by decide +kernel⟩ mlL_225 smL_guarded rfl rfl ⟨Nat.le_of_ble_eq_true rfl, Nat.le_of_ble_eq_true rfl⟩ ⟨(by dsimp only; omega), (by dsimp only; omega)⟩ rfl dL_law_2036 rfl (Nat.le_of_ble_eq_true rfl) (cwL_guarded zl zq) ?_
  refine g_istore h [(5, .int vq292), (0, Value.ref zb), (1, rv G.1 0), (2, rv G.1 103), (3, rv G.1 144), (4, .int x4)] (by decide) rfl dL_law_2039 ?_
  refine g_aload_n h 3 rfl dL_law_2041 ?_
  refine g_aload_nX h 1 rfl dL_law_2042 ?_
  refine g_iload h 5 rfl dL_law_2043 ?_
  refine g_iconst h 1 (v := 1) (by decide) dL_law_2045 ?_
  refine g_iadd h dL_law_2046 ?_
  refine g_sld h zS zf dL_law_2047 ?_
  clear zf; intro vq294 zf
  have zf1 := b2_some zf
  clear zf; obtain ⟨vq295, Mq296, zq, zf⟩ := zf1
  refine g_callVwi (As := [.int vq294]) (rest := []) h ceX13_guarded mlL_227 imX13_guarded seX13_guarded (by rfl) (kd_lt (by rw [(by decide : kd 103 = 11)]; decide)) (ent_11 (by decide : kd 103 = 11)) rfl rfl ⟨Nat.le_of_ble_eq_true rfl, Nat.le_of_ble_eq_true rfl⟩ ⟨(by dsimp only; omega), (by dsimp only; omega)⟩ rfl dL_law_2048 rfl (Nat.le_of_ble_eq_true rfl) (cmX13_guarded zq) ?_
  refine g_istore h [(6, .int vq295), (5, .int vq292), (0, Value.ref zb), (1, rv G.1 0), (2, rv G.1 103), (3, rv G.1 144), (4, .int x4)] (by decide) rfl dL_law_2051 ?_
  refine g_aload_n h 4 rfl dL_law_2053 ?_
  have zf1 := bd_some zf
  clear zf; obtain ⟨vq297, zq, zf⟩ := zf1
  refine g_callVri (As := []) (rest := []) h ceX13_thrown mlL_110 imX13_thrown seX13_thrown (by rfl) (kd_lt (by rw [(by decide : kd 103 = 11)]; decide)) (ent_11 (by decide : kd 103 = 11)) rfl rfl ⟨Nat.le_of_ble_eq_true rfl, Nat.le_of_ble_eq_true rfl⟩ ⟨(by dsimp only; omega), (by dsimp only; omega)⟩ rfl dL_law_2054 rfl (Nat.le_of_ble_eq_true rfl) (cmX13_thrown zq) ?_
  refine g_iload h 1 rfl dL_law_2057 ?_
  refine g_ic_eq h 2064 (by decide) zf dL_law_2059 ?_ ?_ <;> clear zf <;> intro zf
  · refine g_iload h 1 rfl dL_law_2064 ?_
    refine g_if_ne h 2081 (by decide) zf dL_law_2066 ?_ ?_ <;> clear zf <;> intro zf
    · refine g_goto h 2164 (by decide) dL_law_2081 ?_
      refine g_sub h [2, 3, 4, 5, 6] rfl ?_
      exact kL_law_b2164 zS zQ h zl (kc := kc) (ks := ks) (by omega) (by omega) zh23 zf
    · refine g_aload_n h 5 rfl dL_law_2069 ?_
      refine g_iconst h 0 (v := 0) (by decide) dL_law_2070 ?_
      refine g_lald h 1 (by decide : kd 144 = 22) (by decide) zf dL_law_2071 ?_
      clear zf; intro vq298 zf
      refine g_iload h 0 rfl dL_law_2072 ?_
      refine g_i2l h dL_law_2074 ?_
      refine g_lcmp h dL_law_2075 ?_
      refine g_if_eq h 2081 (by decide) zf dL_law_2076 ?_ ?_ <;> clear zf <;> intro zf
      · refine g_goto h 2164 (by decide) dL_law_2081 ?_
        refine g_sub h [2, 3, 4, 5, 6] rfl ?_
        exact kL_law_b2164 zS zQ h zl (kc := kc) (ks := ks) (by omega) (by omega) zh23 zf
      · refine g_iconst h 0 (v := 0) (by decide) dL_law_2079 ?_
        obtain rfl := Option.some.inj zf
        exact zQ _ _ _ _ _ _ (by omega) (by omega) dL_law_2080
  · refine g_iconst h 0 (v := 0) (by decide) dL_law_2062 ?_
    obtain rfl := Option.some.inj zf
    exact zQ _ _ _ _ _ _ (by omega) (by omega) dL_law_2063

theorem kL_law_b2084 {G : GX} {QL : Int32 → State → Prop} {xs : Nat → Int32} {L zb : Nat} (zS : SCR G zb L xs) (zQ : RTL G QL) (h : OKm G cL_law RL 7 (some .boolean) { frames := 2048, cells := 601024, slots := 7293034, locals := 84000 }) (zl : G.2.2.1.stackTraces = false) {kc ks : Nat} (zc : kc ≤ 500000) (zd : ks ≤ 6000000) {a23 : Mem → Int32 → Option Int32} (zh23 : ∀ (M : Mem) (x4 : Int32) (res : Int32), a23 M x4 = some res → GG G (QL res) (kc + 4) (ks + 24) 23 [(0, Value.ref zb), (1, rv G.1 0), (2, rv G.1 103), (3, rv G.1 144), (4, .int x4)] [] M) {M : Mem} {x4 : Int32} {res : Int32} (zf : fL_law_b2084 xs L a23 M x4 = some res) : GG G (QL res) kc ks 2084 [(0, Value.ref zb), (1, rv G.1 0), (2, rv G.1 103), (3, rv G.1 144), (4, .int x4)] [] M := by
  unfold fL_law_b2084 at zf
  refine g_aload_n h 1 rfl dL_law_2084 ?_
  refine g_aload_nX h 0 rfl dL_law_2085 ?_
  refine g_iload h 4 rfl dL_law_2086 ?_
  refine g_iconst h 1 (v := 1) (by decide) dL_law_2088 ?_
  refine g_iadd h dL_law_2089 ?_
  refine g_sld h zS zf dL_law_2090 ?_
  clear zf; intro vq299 zf
  refine g_aload_n h 3 rfl dL_law_2091 ?_
  have zf1 := b2_some zf
  clear zf; obtain ⟨vq300, Mq301, zq, zf⟩ := zf1
  refine g_callSW (n := 3) (mc := 4) (ms := 24) (As := [rv G.1 0, .int vq299, rv G.1 144]) (rest := []) h cdL_swap iniL ⟨by decide +kernel, by decide +kernel, by decide +kernel⟩ mlL_228 smL_swap rfl rfl ⟨Nat.le_of_ble_eq_true rfl, Nat.le_of_ble_eq_true rfl⟩ ⟨(by dsimp only; omega), (by dsimp only; omega)⟩ rfl dL_law_2092 rfl (Nat.le_of_ble_eq_true rfl) (cwL_swap zl zq) ?_
  refine g_istore h [(5, .int vq300), (0, Value.ref zb), (1, rv G.1 0), (2, rv G.1 103), (3, rv G.1 144), (4, .int x4)] (by decide) rfl dL_law_2095 ?_
  refine g_aload_n h 3 rfl dL_law_2097 ?_
  refine g_aload_nX h 1 rfl dL_law_2098 ?_
  refine g_iload h 5 rfl dL_law_2099 ?_
  refine g_iconst h 1 (v := 1) (by decide) dL_law_2101 ?_
  refine g_iadd h dL_law_2102 ?_
  refine g_sld h zS zf dL_law_2103 ?_
  clear zf; intro vq302 zf
  have zf1 := b2_some zf
  clear zf; obtain ⟨vq303, Mq304, zq, zf⟩ := zf1
  refine g_callVwi (As := [.int vq302]) (rest := []) h ceX13_swap mlL_230 imX13_swap seX13_swap (by rfl) (kd_lt (by rw [(by decide : kd 103 = 11)]; decide)) (ent_11 (by decide : kd 103 = 11)) rfl rfl ⟨Nat.le_of_ble_eq_true rfl, Nat.le_of_ble_eq_true rfl⟩ ⟨(by dsimp only; omega), (by dsimp only; omega)⟩ rfl dL_law_2104 rfl (Nat.le_of_ble_eq_true rfl) (cmX13_swap zq) ?_
  refine g_istore h [(6, .int vq303), (5, .int vq300), (0, Value.ref zb), (1, rv G.1 0), (2, rv G.1 103), (3, rv G.1 144), (4, .int x4)] (by decide) rfl dL_law_2107 ?_
  refine g_aload_n h 4 rfl dL_law_2109 ?_
  have zf1 := bd_some zf
  clear zf; obtain ⟨vq305, zq, zf⟩ := zf1
  refine g_callVri (As := []) (rest := []) h ceX13_thrown mlL_110 imX13_thrown seX13_thrown (by rfl) (kd_lt (by rw [(by decide : kd 103 = 11)]; decide)) (ent_11 (by decide : kd 103 = 11)) rfl rfl ⟨Nat.le_of_ble_eq_true rfl, Nat.le_of_ble_eq_true rfl⟩ ⟨(by dsimp only; omega), (by dsimp only; omega)⟩ rfl dL_law_2110 rfl (Nat.le_of_ble_eq_true rfl) (cmX13_thrown zq) ?_
  refine g_iload h 1 rfl dL_law_2113 ?_
  refine g_ic_eq h 2120 (by decide) zf dL_law_2115 ?_ ?_ <;> clear zf <;> intro zf
  · refine g_iload h 1 rfl dL_law_2120 ?_
    refine g_if_ne h 2137 (by decide) zf dL_law_2122 ?_ ?_ <;> clear zf <;> intro zf
    · refine g_goto h 2164 (by decide) dL_law_2137 ?_
      refine g_sub h [2, 3, 4, 5, 6] rfl ?_
      exact kL_law_b2164 zS zQ h zl (kc := kc) (ks := ks) (by omega) (by omega) zh23 zf
    · refine g_aload_n h 5 rfl dL_law_2125 ?_
      refine g_iconst h 0 (v := 0) (by decide) dL_law_2126 ?_
      refine g_lald h 1 (by decide : kd 144 = 22) (by decide) zf dL_law_2127 ?_
      clear zf; intro vq306 zf
      refine g_iload h 0 rfl dL_law_2128 ?_
      refine g_i2l h dL_law_2130 ?_
      refine g_lcmp h dL_law_2131 ?_
      refine g_if_eq h 2137 (by decide) zf dL_law_2132 ?_ ?_ <;> clear zf <;> intro zf
      · refine g_goto h 2164 (by decide) dL_law_2137 ?_
        refine g_sub h [2, 3, 4, 5, 6] rfl ?_
        exact kL_law_b2164 zS zQ h zl (kc := kc) (ks := ks) (by omega) (by omega) zh23 zf
      · refine g_iconst h 0 (v := 0) (by decide) dL_law_2135 ?_
        obtain rfl := Option.some.inj zf
        exact zQ _ _ _ _ _ _ (by omega) (by omega) dL_law_2136
  · refine g_iconst h 0 (v := 0) (by decide) dL_law_2118 ?_
    obtain rfl := Option.some.inj zf
    exact zQ _ _ _ _ _ _ (by omega) (by omega) dL_law_2119

theorem kL_law_b2140 {G : GX} {QL : Int32 → State → Prop} {xs : Nat → Int32} {L zb : Nat} (zS : SCR G zb L xs) (zQ : RTL G QL) (h : OKm G cL_law RL 7 (some .boolean) { frames := 2048, cells := 601024, slots := 7293034, locals := 84000 }) (zl : G.2.2.1.stackTraces = false) {kc ks : Nat} (zc : kc ≤ 500000) (zd : ks ≤ 6000000) {a23 : Mem → Int32 → Option Int32} (zh23 : ∀ (M : Mem) (x4 : Int32) (res : Int32), a23 M x4 = some res → GG G (QL res) (kc + 4) (ks + 24) 23 [(0, Value.ref zb), (1, rv G.1 0), (2, rv G.1 103), (3, rv G.1 144), (4, .int x4)] [] M) {M : Mem} {x4 : Int32} {res : Int32} (zf : fL_law_b2140 xs L a23 M x4 = some res) : GG G (QL res) kc ks 2140 [(0, Value.ref zb), (1, rv G.1 0), (2, rv G.1 103), (3, rv G.1 144), (4, .int x4)] [] M := by
  unfold fL_law_b2140 at zf
  refine g_aload_n h 1 rfl dL_law_2140 ?_
  have zf1 := bd_some zf
  clear zf; obtain ⟨Mq307, zq, zf⟩ := zf1
  refine g_callVwv (As := []) (rest := []) h ceX12_image mlL_231 imX12_image seX12_image (by rfl) (kd_lt (by rw [(by decide : kd 0 = 10)]; decide)) (ent_10 (by decide : kd 0 = 10)) rfl rfl ⟨Nat.le_of_ble_eq_true rfl, Nat.le_of_ble_eq_true rfl⟩ ⟨(by dsimp only; omega), (by dsimp only; omega)⟩ rfl dL_law_2141 rfl (Nat.le_of_ble_eq_true rfl) (cmX12_image zq) ?_
  refine g_aload_n h 2 rfl dL_law_2144 ?_
  have zf1 := bd_some zf
  clear zf; obtain ⟨Mq308, zq, zf⟩ := zf1
  refine g_callVwv (As := []) (rest := []) h ceX13_image mlL_234 imX13_image seX13_image (by rfl) (kd_lt (by rw [(by decide : kd 103 = 11)]; decide)) (ent_11 (by decide : kd 103 = 11)) rfl rfl ⟨Nat.le_of_ble_eq_true rfl, Nat.le_of_ble_eq_true rfl⟩ ⟨(by dsimp only; omega), (by dsimp only; omega)⟩ rfl dL_law_2145 rfl (Nat.le_of_ble_eq_true rfl) (cmX13_image zq) ?_
  refine g_goto h 2164 (by decide) dL_law_2148 ?_
  refine g_cs h (kc' := kc + 4) (ks' := ks + 24) (by omega) (by omega) ?_
  refine g_sub h [0, 1, 2, 3, 4] rfl ?_
  exact kL_law_b2164 zS zQ h zl (kc := kc) (ks := ks) (by omega) (by omega) zh23 zf

theorem kL_law_b2151 {G : GX} {QL : Int32 → State → Prop} {xs : Nat → Int32} {L zb : Nat} (zS : SCR G zb L xs) (zQ : RTL G QL) (h : OKm G cL_law RL 7 (some .boolean) { frames := 2048, cells := 601024, slots := 7293034, locals := 84000 }) (zl : G.2.2.1.stackTraces = false) {kc ks : Nat} (zc : kc ≤ 500000) (zd : ks ≤ 6000000) {a23 : Mem → Int32 → Option Int32} (zh23 : ∀ (M : Mem) (x4 : Int32) (res : Int32), a23 M x4 = some res → GG G (QL res) (kc + 4) (ks + 24) 23 [(0, Value.ref zb), (1, rv G.1 0), (2, rv G.1 103), (3, rv G.1 144), (4, .int x4)] [] M) {M : Mem} {x4 : Int32} {res : Int32} (zf : fL_law_b2151 xs L a23 M x4 = some res) : GG G (QL res) kc ks 2151 [(0, Value.ref zb), (1, rv G.1 0), (2, rv G.1 103), (3, rv G.1 144), (4, .int x4)] [] M := by
  unfold fL_law_b2151 at zf
  refine g_aload_n h 1 rfl dL_law_2151 ?_
  have zf1 := b2_some zf
  clear zf; obtain ⟨vq309, Mq310, zq, zf⟩ := zf1
  refine g_callVwi (As := []) (rest := []) h ceX12_restore mlL_235 imX12_restore seX12_restore (by rfl) (kd_lt (by rw [(by decide : kd 0 = 10)]; decide)) (ent_10 (by decide : kd 0 = 10)) rfl rfl ⟨Nat.le_of_ble_eq_true rfl, Nat.le_of_ble_eq_true rfl⟩ ⟨(by dsimp only; omega), (by dsimp only; omega)⟩ rfl dL_law_2152 rfl (Nat.le_of_ble_eq_true rfl) (cmX12_restore zq) ?_
  refine g_aload_n h 2 rfl dL_law_2155 ?_
  have zf1 := b2_some zf
  clear zf; obtain ⟨vq311, Mq312, zq, zf⟩ := zf1
  refine g_callVwi (As := []) (rest := [.int vq309]) h ceX13_restore mlL_239 imX13_restore seX13_restore (by rfl) (kd_lt (by rw [(by decide : kd 103 = 11)]; decide)) (ent_11 (by decide : kd 103 = 11)) rfl rfl ⟨Nat.le_of_ble_eq_true rfl, Nat.le_of_ble_eq_true rfl⟩ ⟨(by dsimp only; omega), (by dsimp only; omega)⟩ rfl dL_law_2156 rfl (Nat.le_of_ble_eq_true rfl) (cmX13_restore zq) ?_
  refine g_ic_eq h 2164 (by decide) zf dL_law_2159 ?_ ?_ <;> clear zf <;> intro zf
  · refine g_cs h (kc' := kc + 4) (ks' := ks + 24) (by omega) (by omega) ?_
    refine g_sub h [0, 1, 2, 3, 4] rfl ?_
    exact kL_law_b2164 zS zQ h zl (kc := kc) (ks := ks) (by omega) (by omega) zh23 zf
  · refine g_iconst h 0 (v := 0) (by decide) dL_law_2162 ?_
    obtain rfl := Option.some.inj zf
    exact zQ _ _ _ _ _ _ (by omega) (by omega) dL_law_2163

theorem kL_law_l23 {G : GX} {QL : Int32 → State → Prop} {xs : Nat → Int32} {L zb : Nat} (zS : SCR G zb L xs) (zQ : RTL G QL) (h : OKm G cL_law RL 7 (some .boolean) { frames := 2048, cells := 601024, slots := 7293034, locals := 84000 }) (zl : G.2.2.1.stackTraces = false) : ∀ (n kc ks : Nat) (zc : kc + 4 * n ≤ 500000) (zd : ks + 24 * n ≤ 6000000) (M : Mem) (x4 : Int32) (res : Int32), fL_law_l23 xs L n M x4 = some res → GG G (QL res) kc ks 23 [(0, Value.ref zb), (1, rv G.1 0), (2, rv G.1 103), (3, rv G.1 144), (4, .int x4)] [] M := by
  intro n
  induction n with
  | zero => intro kc ks zc zd M x4 res zf; rw [fL_law_l23] at zf; cases zf
  | succ n ih =>
    intro kc ks zc zd M x4 res zf
    rw [fL_law_l23] at zf
    refine g_iload h 4 rfl dL_law_23 ?_
    refine g_aload_nX h 0 rfl dL_law_25 ?_
    refine g_slen h zS dL_law_26 ?_
    refine g_bipush h 6 (v := 6) (by decide) dL_law_27 ?_
    refine g_isub h dL_law_29 ?_
    refine g_ic_gt h 2170 (by decide) zf dL_law_30 ?_ ?_ <;> clear zf <;> intro zf
    · refine g_iconst h 1 (v := 1) (by decide) dL_law_2170 ?_
      obtain rfl := Option.some.inj zf
      exact zQ _ _ _ _ _ _ (by omega) (by omega) dL_law_2171
    · refine g_aload_nX h 0 rfl dL_law_33 ?_
      refine g_iload h 4 rfl dL_law_34 ?_
      refine g_sld h zS zf dL_law_36 ?_
      clear zf; intro vq1 zf
      refine g_bipush h 63 (v := 63) (by decide) dL_law_37 ?_
      refine g_iand h dL_law_39 ?_
      refine g_nmI zf ?_
      clear zf; intro vq2 zf
      by_cases zx0 : vq2 = 0
      · rw [if_pos zx0] at zf
        refine g_tabIn h (off := 172) 212 (by rw [zx0]; decide) (by rw [zx0]; decide) (by rw [zx0]; decide) (by decide) dL_law_40 ?_
        refine g_sub h [0, 1, 2, 3, 4] rfl ?_
        exact kL_law_b212 zS zQ h zl (kc := kc) (ks := ks) (by omega) (by omega) (ih (kc + 4) (ks + 24) (by omega) (by omega)) zf
      rw [if_neg zx0] at zf
      have zy0 : vq2.toInt ≠ 0 := fun q => zx0 (Int32.toInt_inj.mp (by rw [q]; rfl))
      by_cases zx1 : vq2 = 1
      · rw [if_pos zx1] at zf
        refine g_tabIn h (off := 245) 285 (by rw [zx1]; decide) (by rw [zx1]; decide) (by rw [zx1]; decide) (by decide) dL_law_40 ?_
        refine g_sub h [0, 1, 2, 3, 4] rfl ?_
        exact kL_law_b285 zS zQ h zl (kc := kc) (ks := ks) (by omega) (by omega) (ih (kc + 4) (ks + 24) (by omega) (by omega)) zf
      rw [if_neg zx1] at zf
      have zy1 : vq2.toInt ≠ 1 := fun q => zx1 (Int32.toInt_inj.mp (by rw [q]; rfl))
      by_cases zx2 : vq2 = 2
      · rw [if_pos zx2] at zf
        refine g_tabIn h (off := 301) 341 (by rw [zx2]; decide) (by rw [zx2]; decide) (by rw [zx2]; decide) (by decide) dL_law_40 ?_
        refine g_sub h [0, 1, 2, 3, 4] rfl ?_
        exact kL_law_b341 zS zQ h zl (kc := kc) (ks := ks) (by omega) (by omega) (ih (kc + 4) (ks + 24) (by omega) (by omega)) zf
      rw [if_neg zx2] at zf
      have zy2 : vq2.toInt ≠ 2 := fun q => zx2 (Int32.toInt_inj.mp (by rw [q]; rfl))
      by_cases zx3 : vq2 = 3
      · rw [if_pos zx3] at zf
        refine g_tabIn h (off := 314) 354 (by rw [zx3]; decide) (by rw [zx3]; decide) (by rw [zx3]; decide) (by decide) dL_law_40 ?_
        refine g_sub h [0, 1, 2, 3, 4] rfl ?_
        exact kL_law_b354 zS zQ h zl (kc := kc) (ks := ks) (by omega) (by omega) (ih (kc + 4) (ks + 24) (by omega) (by omega)) zf
      rw [if_neg zx3] at zf
      have zy3 : vq2.toInt ≠ 3 := fun q => zx3 (Int32.toInt_inj.mp (by rw [q]; rfl))
      by_cases zx4 : vq2 = 4
      · rw [if_pos zx4] at zf
        refine g_tabIn h (off := 370) 410 (by rw [zx4]; decide) (by rw [zx4]; decide) (by rw [zx4]; decide) (by decide) dL_law_40 ?_
        refine g_sub h [0, 1, 2, 3, 4] rfl ?_
        exact kL_law_b410 zS zQ h zl (kc := kc) (ks := ks) (by omega) (by omega) (ih (kc + 4) (ks + 24) (by omega) (by omega)) zf
      rw [if_neg zx4] at zf
      have zy4 : vq2.toInt ≠ 4 := fun q => zx4 (Int32.toInt_inj.mp (by rw [q]; rfl))
      by_cases zx5 : vq2 = 5
      · rw [if_pos zx5] at zf
        refine g_tabIn h (off := 438) 478 (by rw [zx5]; decide) (by rw [zx5]; decide) (by rw [zx5]; decide) (by decide) dL_law_40 ?_
        refine g_sub h [0, 1, 2, 3, 4] rfl ?_
        exact kL_law_b478 zS zQ h zl (kc := kc) (ks := ks) (by omega) (by omega) (ih (kc + 4) (ks + 24) (by omega) (by omega)) zf
      rw [if_neg zx5] at zf
      have zy5 : vq2.toInt ≠ 5 := fun q => zx5 (Int32.toInt_inj.mp (by rw [q]; rfl))
      by_cases zx6 : vq2 = 6
      · rw [if_pos zx6] at zf
        refine g_tabIn h (off := 506) 546 (by rw [zx6]; decide) (by rw [zx6]; decide) (by rw [zx6]; decide) (by decide) dL_law_40 ?_
        refine g_sub h [0, 1, 2, 3, 4] rfl ?_
        exact kL_law_b546 zS zQ h zl (kc := kc) (ks := ks) (by omega) (by omega) (ih (kc + 4) (ks + 24) (by omega) (by omega)) zf
      rw [if_neg zx6] at zf
      have zy6 : vq2.toInt ≠ 6 := fun q => zx6 (Int32.toInt_inj.mp (by rw [q]; rfl))
      by_cases zx7 : vq2 = 7
      · rw [if_pos zx7] at zf
        refine g_tabIn h (off := 574) 614 (by rw [zx7]; decide) (by rw [zx7]; decide) (by rw [zx7]; decide) (by decide) dL_law_40 ?_
        refine g_sub h [0, 1, 2, 3, 4] rfl ?_
        exact kL_law_b614 zS zQ h zl (kc := kc) (ks := ks) (by omega) (by omega) (ih (kc + 4) (ks + 24) (by omega) (by omega)) zf
      rw [if_neg zx7] at zf
      have zy7 : vq2.toInt ≠ 7 := fun q => zx7 (Int32.toInt_inj.mp (by rw [q]; rfl))
      by_cases zx8 : vq2 = 8
      · rw [if_pos zx8] at zf
        refine g_tabIn h (off := 642) 682 (by rw [zx8]; decide) (by rw [zx8]; decide) (by rw [zx8]; decide) (by decide) dL_law_40 ?_
        refine g_sub h [0, 1, 2, 3, 4] rfl ?_
        exact kL_law_b682 zS zQ h zl (kc := kc) (ks := ks) (by omega) (by omega) (ih (kc + 4) (ks + 24) (by omega) (by omega)) zf
      rw [if_neg zx8] at zf
      have zy8 : vq2.toInt ≠ 8 := fun q => zx8 (Int32.toInt_inj.mp (by rw [q]; rfl))
      by_cases zx9 : vq2 = 9
      · rw [if_pos zx9] at zf
        refine g_tabIn h (off := 667) 707 (by rw [zx9]; decide) (by rw [zx9]; decide) (by rw [zx9]; decide) (by decide) dL_law_40 ?_
        refine g_sub h [0, 1, 2, 3, 4] rfl ?_
        exact kL_law_b707 zS zQ h zl (kc := kc) (ks := ks) (by omega) (by omega) (ih (kc + 4) (ks + 24) (by omega) (by omega)) zf
      rw [if_neg zx9] at zf
      have zy9 : vq2.toInt ≠ 9 := fun q => zx9 (Int32.toInt_inj.mp (by rw [q]; rfl))
      by_cases zx10 : vq2 = 10
      · rw [if_pos zx10] at zf
        refine g_tabIn h (off := 747) 787 (by rw [zx10]; decide) (by rw [zx10]; decide) (by rw [zx10]; decide) (by decide) dL_law_40 ?_
        refine g_sub h [0, 1, 2, 3, 4] rfl ?_
        exact kL_law_b787 zS zQ h zl (kc := kc) (ks := ks) (by omega) (by omega) (ih (kc + 4) (ks + 24) (by omega) (by omega)) zf
      rw [if_neg zx10] at zf
      have zy10 : vq2.toInt ≠ 10 := fun q => zx10 (Int32.toInt_inj.mp (by rw [q]; rfl))
      by_cases zx11 : vq2 = 11
      · rw [if_pos zx11] at zf
        refine g_tabIn h (off := 772) 812 (by rw [zx11]; decide) (by rw [zx11]; decide) (by rw [zx11]; decide) (by decide) dL_law_40 ?_
        refine g_sub h [0, 1, 2, 3, 4] rfl ?_
        exact kL_law_b812 zS zQ h zl (kc := kc) (ks := ks) (by omega) (by omega) (ih (kc + 4) (ks + 24) (by omega) (by omega)) zf
      rw [if_neg zx11] at zf
      have zy11 : vq2.toInt ≠ 11 := fun q => zx11 (Int32.toInt_inj.mp (by rw [q]; rfl))
      by_cases zx12 : vq2 = 12
      · rw [if_pos zx12] at zf
        refine g_tabIn h (off := 797) 837 (by rw [zx12]; decide) (by rw [zx12]; decide) (by rw [zx12]; decide) (by decide) dL_law_40 ?_
        refine g_sub h [0, 1, 2, 3, 4] rfl ?_
        exact kL_law_b837 zS zQ h zl (kc := kc) (ks := ks) (by omega) (by omega) (ih (kc + 4) (ks + 24) (by omega) (by omega)) zf
      rw [if_neg zx12] at zf
      have zy12 : vq2.toInt ≠ 12 := fun q => zx12 (Int32.toInt_inj.mp (by rw [q]; rfl))
      by_cases zx13 : vq2 = 13
      · rw [if_pos zx13] at zf
        refine g_tabIn h (off := 865) 905 (by rw [zx13]; decide) (by rw [zx13]; decide) (by rw [zx13]; decide) (by decide) dL_law_40 ?_
        refine g_sub h [0, 1, 2, 3, 4] rfl ?_
        exact kL_law_b905 zS zQ h zl (kc := kc) (ks := ks) (by omega) (by omega) (ih (kc + 4) (ks + 24) (by omega) (by omega)) zf
      rw [if_neg zx13] at zf
      have zy13 : vq2.toInt ≠ 13 := fun q => zx13 (Int32.toInt_inj.mp (by rw [q]; rfl))
      by_cases zx14 : vq2 = 14
      · rw [if_pos zx14] at zf
        refine g_tabIn h (off := 878) 918 (by rw [zx14]; decide) (by rw [zx14]; decide) (by rw [zx14]; decide) (by decide) dL_law_40 ?_
        refine g_sub h [0, 1, 2, 3, 4] rfl ?_
        exact kL_law_b918 zS zQ h zl (kc := kc) (ks := ks) (by omega) (by omega) (ih (kc + 4) (ks + 24) (by omega) (by omega)) zf
      rw [if_neg zx14] at zf
      have zy14 : vq2.toInt ≠ 14 := fun q => zx14 (Int32.toInt_inj.mp (by rw [q]; rfl))
      by_cases zx15 : vq2 = 15
      · rw [if_pos zx15] at zf
        refine g_tabIn h (off := 946) 986 (by rw [zx15]; decide) (by rw [zx15]; decide) (by rw [zx15]; decide) (by decide) dL_law_40 ?_
        refine g_sub h [0, 1, 2, 3, 4] rfl ?_
        exact kL_law_b986 zS zQ h zl (kc := kc) (ks := ks) (by omega) (by omega) (ih (kc + 4) (ks + 24) (by omega) (by omega)) zf
      rw [if_neg zx15] at zf
      have zy15 : vq2.toInt ≠ 15 := fun q => zx15 (Int32.toInt_inj.mp (by rw [q]; rfl))
      by_cases zx16 : vq2 = 16
      · rw [if_pos zx16] at zf
        refine g_tabIn h (off := 1002) 1042 (by rw [zx16]; decide) (by rw [zx16]; decide) (by rw [zx16]; decide) (by decide) dL_law_40 ?_
        refine g_sub h [0, 1, 2, 3, 4] rfl ?_
        exact kL_law_b1042 zS zQ h zl (kc := kc) (ks := ks) (by omega) (by omega) (ih (kc + 4) (ks + 24) (by omega) (by omega)) zf
      rw [if_neg zx16] at zf
      have zy16 : vq2.toInt ≠ 16 := fun q => zx16 (Int32.toInt_inj.mp (by rw [q]; rfl))
      by_cases zx17 : vq2 = 17
      · rw [if_pos zx17] at zf
        refine g_tabIn h (off := 1015) 1055 (by rw [zx17]; decide) (by rw [zx17]; decide) (by rw [zx17]; decide) (by decide) dL_law_40 ?_
        refine g_sub h [0, 1, 2, 3, 4] rfl ?_
        exact kL_law_b1055 zS zQ h zl (kc := kc) (ks := ks) (by omega) (by omega) (ih (kc + 4) (ks + 24) (by omega) (by omega)) zf
      rw [if_neg zx17] at zf
      have zy17 : vq2.toInt ≠ 17 := fun q => zx17 (Int32.toInt_inj.mp (by rw [q]; rfl))
      by_cases zx18 : vq2 = 18
      · rw [if_pos zx18] at zf
        refine g_tabIn h (off := 1028) 1068 (by rw [zx18]; decide) (by rw [zx18]; decide) (by rw [zx18]; decide) (by decide) dL_law_40 ?_
        refine g_sub h [0, 1, 2, 3, 4] rfl ?_
        exact kL_law_b1068 zS zQ h zl (kc := kc) (ks := ks) (by omega) (by omega) (ih (kc + 4) (ks + 24) (by omega) (by omega)) zf
      rw [if_neg zx18] at zf
      have zy18 : vq2.toInt ≠ 18 := fun q => zx18 (Int32.toInt_inj.mp (by rw [q]; rfl))
      by_cases zx19 : vq2 = 19
      · rw [if_pos zx19] at zf
        refine g_tabIn h (off := 1084) 1124 (by rw [zx19]; decide) (by rw [zx19]; decide) (by rw [zx19]; decide) (by decide) dL_law_40 ?_
        refine g_sub h [0, 1, 2, 3, 4] rfl ?_
        exact kL_law_b1124 zS zQ h zl (kc := kc) (ks := ks) (by omega) (by omega) (ih (kc + 4) (ks + 24) (by omega) (by omega)) zf
      rw [if_neg zx19] at zf
      have zy19 : vq2.toInt ≠ 19 := fun q => zx19 (Int32.toInt_inj.mp (by rw [q]; rfl))
      by_cases zx20 : vq2 = 20
      · rw [if_pos zx20] at zf
        refine g_tabIn h (off := 1152) 1192 (by rw [zx20]; decide) (by rw [zx20]; decide) (by rw [zx20]; decide) (by decide) dL_law_40 ?_
        refine g_sub h [0, 1, 2, 3, 4] rfl ?_
        exact kL_law_b1192 zS zQ h zl (kc := kc) (ks := ks) (by omega) (by omega) (ih (kc + 4) (ks + 24) (by omega) (by omega)) zf
      rw [if_neg zx20] at zf
      have zy20 : vq2.toInt ≠ 20 := fun q => zx20 (Int32.toInt_inj.mp (by rw [q]; rfl))
      by_cases zx21 : vq2 = 21
      · rw [if_pos zx21] at zf
        refine g_tabIn h (off := 1227) 1267 (by rw [zx21]; decide) (by rw [zx21]; decide) (by rw [zx21]; decide) (by decide) dL_law_40 ?_
        refine g_sub h [0, 1, 2, 3, 4] rfl ?_
        exact kL_law_b1267 zS zQ h zl (kc := kc) (ks := ks) (by omega) (by omega) (ih (kc + 4) (ks + 24) (by omega) (by omega)) zf
      rw [if_neg zx21] at zf
      have zy21 : vq2.toInt ≠ 21 := fun q => zx21 (Int32.toInt_inj.mp (by rw [q]; rfl))
      by_cases zx22 : vq2 = 22
      · rw [if_pos zx22] at zf
        refine g_tabIn h (off := 1283) 1323 (by rw [zx22]; decide) (by rw [zx22]; decide) (by rw [zx22]; decide) (by decide) dL_law_40 ?_
        refine g_sub h [0, 1, 2, 3, 4] rfl ?_
        exact kL_law_b1323 zS zQ h zl (kc := kc) (ks := ks) (by omega) (by omega) (ih (kc + 4) (ks + 24) (by omega) (by omega)) zf
      rw [if_neg zx22] at zf
      have zy22 : vq2.toInt ≠ 22 := fun q => zx22 (Int32.toInt_inj.mp (by rw [q]; rfl))
      by_cases zx23 : vq2 = 23
      · rw [if_pos zx23] at zf
        refine g_tabIn h (off := 1339) 1379 (by rw [zx23]; decide) (by rw [zx23]; decide) (by rw [zx23]; decide) (by decide) dL_law_40 ?_
        refine g_sub h [0, 1, 2, 3, 4] rfl ?_
        exact kL_law_b1379 zS zQ h zl (kc := kc) (ks := ks) (by omega) (by omega) (ih (kc + 4) (ks + 24) (by omega) (by omega)) zf
      rw [if_neg zx23] at zf
      have zy23 : vq2.toInt ≠ 23 := fun q => zx23 (Int32.toInt_inj.mp (by rw [q]; rfl))
      by_cases zx24 : vq2 = 24
      · rw [if_pos zx24] at zf
        refine g_tabIn h (off := 1419) 1459 (by rw [zx24]; decide) (by rw [zx24]; decide) (by rw [zx24]; decide) (by decide) dL_law_40 ?_
        refine g_sub h [0, 1, 2, 3, 4] rfl ?_
        exact kL_law_b1459 zS zQ h zl (kc := kc) (ks := ks) (by omega) (by omega) (ih (kc + 4) (ks + 24) (by omega) (by omega)) zf
      rw [if_neg zx24] at zf
      have zy24 : vq2.toInt ≠ 24 := fun q => zx24 (Int32.toInt_inj.mp (by rw [q]; rfl))
      by_cases zx25 : vq2 = 25
      · rw [if_pos zx25] at zf
        refine g_tabIn h (off := 1487) 1527 (by rw [zx25]; decide) (by rw [zx25]; decide) (by rw [zx25]; decide) (by decide) dL_law_40 ?_
        refine g_sub h [0, 1, 2, 3, 4] rfl ?_
        exact kL_law_b1527 zS zQ h zl (kc := kc) (ks := ks) (by omega) (by omega) (ih (kc + 4) (ks + 24) (by omega) (by omega)) zf
      rw [if_neg zx25] at zf
      have zy25 : vq2.toInt ≠ 25 := fun q => zx25 (Int32.toInt_inj.mp (by rw [q]; rfl))
      by_cases zx26 : vq2 = 26
      · rw [if_pos zx26] at zf
        refine g_tabIn h (off := 1543) 1583 (by rw [zx26]; decide) (by rw [zx26]; decide) (by rw [zx26]; decide) (by decide) dL_law_40 ?_
        refine g_sub h [0, 1, 2, 3, 4] rfl ?_
        exact kL_law_b1583 zS zQ h zl (kc := kc) (ks := ks) (by omega) (by omega) (ih (kc + 4) (ks + 24) (by omega) (by omega)) zf
      rw [if_neg zx26] at zf
      have zy26 : vq2.toInt ≠ 26 := fun q => zx26 (Int32.toInt_inj.mp (by rw [q]; rfl))
      by_cases zx27 : vq2 = 27
      · rw [if_pos zx27] at zf
        refine g_tabIn h (off := 1580) 1620 (by rw [zx27]; decide) (by rw [zx27]; decide) (by rw [zx27]; decide) (by decide) dL_law_40 ?_
        refine g_sub h [0, 1, 2, 3, 4] rfl ?_
        exact kL_law_b1620 zS zQ h zl (kc := kc) (ks := ks) (by omega) (by omega) (ih (kc + 4) (ks + 24) (by omega) (by omega)) zf
      rw [if_neg zx27] at zf
      have zy27 : vq2.toInt ≠ 27 := fun q => zx27 (Int32.toInt_inj.mp (by rw [q]; rfl))
      by_cases zx28 : vq2 = 28
      · rw [if_pos zx28] at zf
        refine g_tabIn h (off := 1591) 1631 (by rw [zx28]; decide) (by rw [zx28]; decide) (by rw [zx28]; decide) (by decide) dL_law_40 ?_
        refine g_sub h [0, 1, 2, 3, 4] rfl ?_
        exact kL_law_b1631 zS zQ h zl (kc := kc) (ks := ks) (by omega) (by omega) (ih (kc + 4) (ks + 24) (by omega) (by omega)) zf
      rw [if_neg zx28] at zf
      have zy28 : vq2.toInt ≠ 28 := fun q => zx28 (Int32.toInt_inj.mp (by rw [q]; rfl))
      by_cases zx29 : vq2 = 29
      · rw [if_pos zx29] at zf
        refine g_tabIn h (off := 1647) 1687 (by rw [zx29]; decide) (by rw [zx29]; decide) (by rw [zx29]; decide) (by decide) dL_law_40 ?_
        refine g_sub h [0, 1, 2, 3, 4] rfl ?_
        exact kL_law_b1687 zS zQ h zl (kc := kc) (ks := ks) (by omega) (by omega) (ih (kc + 4) (ks + 24) (by omega) (by omega)) zf
      rw [if_neg zx29] at zf
      have zy29 : vq2.toInt ≠ 29 := fun q => zx29 (Int32.toInt_inj.mp (by rw [q]; rfl))
      by_cases zx30 : vq2 = 30
      · rw [if_pos zx30] at zf
        refine g_tabIn h (off := 1703) 1743 (by rw [zx30]; decide) (by rw [zx30]; decide) (by rw [zx30]; decide) (by decide) dL_law_40 ?_
        refine g_sub h [0, 1, 2, 3, 4] rfl ?_
        exact kL_law_b1743 zS zQ h zl (kc := kc) (ks := ks) (by omega) (by omega) (ih (kc + 4) (ks + 24) (by omega) (by omega)) zf
      rw [if_neg zx30] at zf
      have zy30 : vq2.toInt ≠ 30 := fun q => zx30 (Int32.toInt_inj.mp (by rw [q]; rfl))
      by_cases zx31 : vq2 = 31
      · rw [if_pos zx31] at zf
        refine g_tabIn h (off := 1783) 1823 (by rw [zx31]; decide) (by rw [zx31]; decide) (by rw [zx31]; decide) (by decide) dL_law_40 ?_
        refine g_sub h [0, 1, 2, 3, 4] rfl ?_
        exact kL_law_b1823 zS zQ h zl (kc := kc) (ks := ks) (by omega) (by omega) (ih (kc + 4) (ks + 24) (by omega) (by omega)) zf
      rw [if_neg zx31] at zf
      have zy31 : vq2.toInt ≠ 31 := fun q => zx31 (Int32.toInt_inj.mp (by rw [q]; rfl))
      by_cases zx32 : vq2 = 32
      · rw [if_pos zx32] at zf
        refine g_tabIn h (off := 1863) 1903 (by rw [zx32]; decide) (by rw [zx32]; decide) (by rw [zx32]; decide) (by decide) dL_law_40 ?_
        refine g_sub h [0, 1, 2, 3, 4] rfl ?_
        exact kL_law_b1903 zS zQ h zl (kc := kc) (ks := ks) (by omega) (by omega) (ih (kc + 4) (ks + 24) (by omega) (by omega)) zf
      rw [if_neg zx32] at zf
      have zy32 : vq2.toInt ≠ 32 := fun q => zx32 (Int32.toInt_inj.mp (by rw [q]; rfl))
      by_cases zx33 : vq2 = 33
      · rw [if_pos zx33] at zf
        refine g_tabIn h (off := 1876) 1916 (by rw [zx33]; decide) (by rw [zx33]; decide) (by rw [zx33]; decide) (by decide) dL_law_40 ?_
        refine g_sub h [0, 1, 2, 3, 4] rfl ?_
        exact kL_law_b1916 zS zQ h zl (kc := kc) (ks := ks) (by omega) (by omega) (ih (kc + 4) (ks + 24) (by omega) (by omega)) zf
      rw [if_neg zx33] at zf
      have zy33 : vq2.toInt ≠ 33 := fun q => zx33 (Int32.toInt_inj.mp (by rw [q]; rfl))
      by_cases zx34 : vq2 = 34
      · rw [if_pos zx34] at zf
        refine g_tabIn h (off := 1932) 1972 (by rw [zx34]; decide) (by rw [zx34]; decide) (by rw [zx34]; decide) (by decide) dL_law_40 ?_
        refine g_sub h [0, 1, 2, 3, 4] rfl ?_
        exact kL_law_b1972 zS zQ h zl (kc := kc) (ks := ks) (by omega) (by omega) (ih (kc + 4) (ks + 24) (by omega) (by omega)) zf
      rw [if_neg zx34] at zf
      have zy34 : vq2.toInt ≠ 34 := fun q => zx34 (Int32.toInt_inj.mp (by rw [q]; rfl))
      by_cases zx35 : vq2 = 35
      · rw [if_pos zx35] at zf
        refine g_tabIn h (off := 1988) 2028 (by rw [zx35]; decide) (by rw [zx35]; decide) (by rw [zx35]; decide) (by decide) dL_law_40 ?_
        refine g_sub h [0, 1, 2, 3, 4] rfl ?_
        exact kL_law_b2028 zS zQ h zl (kc := kc) (ks := ks) (by omega) (by omega) (ih (kc + 4) (ks + 24) (by omega) (by omega)) zf
      rw [if_neg zx35] at zf
      have zy35 : vq2.toInt ≠ 35 := fun q => zx35 (Int32.toInt_inj.mp (by rw [q]; rfl))
      by_cases zx36 : vq2 = 36
      · rw [if_pos zx36] at zf
        refine g_tabIn h (off := 2044) 2084 (by rw [zx36]; decide) (by rw [zx36]; decide) (by rw [zx36]; decide) (by decide) dL_law_40 ?_
        refine g_sub h [0, 1, 2, 3, 4] rfl ?_
        exact kL_law_b2084 zS zQ h zl (kc := kc) (ks := ks) (by omega) (by omega) (ih (kc + 4) (ks + 24) (by omega) (by omega)) zf
      rw [if_neg zx36] at zf
      have zy36 : vq2.toInt ≠ 36 := fun q => zx36 (Int32.toInt_inj.mp (by rw [q]; rfl))
      by_cases zx37 : vq2 = 37
      · rw [if_pos zx37] at zf
        refine g_tabIn h (off := 2100) 2140 (by rw [zx37]; decide) (by rw [zx37]; decide) (by rw [zx37]; decide) (by decide) dL_law_40 ?_
        refine g_sub h [0, 1, 2, 3, 4] rfl ?_
        exact kL_law_b2140 zS zQ h zl (kc := kc) (ks := ks) (by omega) (by omega) (ih (kc + 4) (ks + 24) (by omega) (by omega)) zf
      rw [if_neg zx37] at zf
      have zy37 : vq2.toInt ≠ 37 := fun q => zx37 (Int32.toInt_inj.mp (by rw [q]; rfl))
      by_cases zx38 : vq2 = 38
      · rw [if_pos zx38] at zf
        refine g_tabIn h (off := 2111) 2151 (by rw [zx38]; decide) (by rw [zx38]; decide) (by rw [zx38]; decide) (by decide) dL_law_40 ?_
        refine g_sub h [0, 1, 2, 3, 4] rfl ?_
        exact kL_law_b2151 zS zQ h zl (kc := kc) (ks := ks) (by omega) (by omega) (ih (kc + 4) (ks + 24) (by omega) (by omega)) zf
      rw [if_neg zx38] at zf
      have zy38 : vq2.toInt ≠ 38 := fun q => zx38 (Int32.toInt_inj.mp (by rw [q]; rfl))
      refine g_tabOut h 2164 (by omega) (by decide) dL_law_40 ?_
      refine g_cs h (kc' := kc + 4) (ks' := ks + 24) (by omega) (by omega) ?_
      refine g_sub h [0, 1, 2, 3, 4] rfl ?_
      exact kL_law_b2164 zS zQ h zl (kc := kc) (ks := ks) (by omega) (by omega) (ih (kc + 4) (ks + 24) (by omega) (by omega)) zf
