def wIS (o : Nat) : Int32 := (([(-1), (-1), (-1), (-1), (-1), (-1), (-1), (-1), (-1), (-1), (-1), (-1), (-1), (-1), (0), (1), (2), (3), (4), (5), (-1), (-1), (-1)] : List Int32)).getD (o - 1000) 0
def wIL (o : Nat) : Int32 := (([(-1), (-1), (-1), (-1), (-1), (-1), (-1), (-1), (-1), (-1), (-1), (-1), (-1), (-1), (3), (-1), (4), (0), (-1), (-1), (1), (2), (-1)] : List Int32)).getD (o - 1000) 0
def ldW {β : Type} (i : Int32) (k : Nat → Option β) : Option β := if i < 0 ∨ 23 ≤ i.toNatClampNeg then none else k (1000 + i.toNatClampNeg)
def ldS {β : Type} (i : Int32) (k : Int32 → Option β) : Option β := if i < 0 ∨ 23 ≤ i.toNatClampNeg then none else k (swm i.toNatClampNeg)
def sLn (o : Nat) : Nat := wLn.getD (o - 1100) 0
def sCh (o j : Nat) : Int32 := (wBy.getD (o - 1100) []).getD j 0
theorem rv_hi {w : WX} {i : Nat} : rv w (1000 + i) = .ref (w.2.1 i) := by unfold rv adr; rw [if_neg (by omega), Nat.add_sub_cancel_left]
theorem rv_hi2 {w : WX} {o : Nat} (h : 1000 ≤ o) : rv w o = .ref (w.2.1 (o - 1000)) := by
  obtain ⟨i, rfl⟩ : ∃ i, o = 1000 + i := ⟨o - 1000, by omega⟩
  rw [rv_hi, Nat.add_sub_cancel_left]
theorem g_gsE {G : GX} {Q : State → Prop} {kc ks pc nL : Nat} {lv : List (Nat × Value)} {st : List Value} {M : Mem} {b : ByteArray} {own : String} {ret : Option FieldType} {rm : Room} (h : OKm G b own nL ret rm) (i : Nat) {idx : Nat} (hi : i < 23) (hlink : Cond.fieldLink own idx "TurnBrothers$Word" (wNm.getD i "") "LTurnBrothers$Word;" ∈ LW) (hd : decode b pc = .ok (.getstatic idx, 3)) (k : GG G Q kc ks (pc + 3) lv (rv G.1 (1000 + i) :: st) M) : GG G Q kc ks pc lv st M := by
  obtain ⟨w, p, l, e, R, s, m, args, below, meth, c⟩ := G
  obtain ⟨hx, hb, hml, hown, hts, hSS, hlk, hret, hR⟩ := h
  intro H locs ls hl hP hS
  have k := k H locs ls hl hP hS
  rw [rv_hi] at k
  exact va_gets hx hb (hSS.2.1.1.1 i hi).1 hS hown (hts _ hlink) (fun _ q => q) hd k
theorem g_gsW {G : GX} {Q : State → Prop} {kc ks pc nL : Nat} {lv : List (Nat × Value)} {st : List Value} {M : Mem} {b : ByteArray} {ret : Option FieldType} {rm : Room} (h : OKm G b RX10 nL ret rm) (hd : decode b pc = .ok (.getstatic 63, 3)) (k : GG G Q kc ks (pc + 3) lv (rv G.1 1023 :: st) M) : GG G Q kc ks pc lv st M := by
  obtain ⟨w, p, l, e, R, s, m, args, below, meth, c⟩ := G
  obtain ⟨hx, hb, hml, hown, hts, hSS, hlk, hret, hR⟩ := h
  intro H locs ls hl hP hS
  have k := k H locs ls hl hP hS
  rw [show (1023 : Nat) = 1000 + 23 from rfl, rv_hi] at k
  exact va_getsN hx hb hSS.2.1.2.2.1 hS hown (va_Nw.use rfl hSS.2.2.2.2.2.2.2.2.1) (fun _ q => q) hd k
theorem g_gsM {G : GX} {Q : State → Prop} {kc ks pc nL : Nat} {lv : List (Nat × Value)} {st : List Value} {M : Mem} {b : ByteArray} {own : String} {ret : Option FieldType} {rm : Room} (h : OKm G b own nL ret rm) {idx : Nat} (hlink : Cond.fieldLink own idx "TurnBrothers$1" "$SwitchMap$TurnBrothers$Word" "[I" ∈ LW) (hd : decode b pc = .ok (.getstatic idx, 3)) (k : GG G Q kc ks (pc + 3) lv (rv G.1 1024 :: st) M) : GG G Q kc ks pc lv st M := by
  obtain ⟨w, p, l, e, R, s, m, args, below, meth, c⟩ := G
  obtain ⟨hx, hb, hml, hown, hts, hSS, hlk, hret, hR⟩ := h
  intro H locs ls hl hP hS
  have k := k H locs ls hl hP hS
  rw [show (1024 : Nat) = 1000 + 24 from rfl, rv_hi] at k
  exact va_gets hx hb hSS.2.1.2.2.2.2.1 hS hown (hts _ hlink) (fun _ q => q) hd k
theorem g_wlen {G : GX} {Q : State → Prop} {kc ks pc nL : Nat} {lv : List (Nat × Value)} {st : List Value} {M : Mem} {b : ByteArray} {own : String} {ret : Option FieldType} {rm : Room} (h : OKm G b own nL ret rm) (hd : decode b pc = .ok (.arraylength, 1)) (k : GG G Q kc ks (pc + 1) lv (.int 23 :: st) M) : GG G Q kc ks pc lv (rv G.1 1023 :: st) M := by
  obtain ⟨w, p, l, e, R, s, m, args, below, meth, c⟩ := G
  obtain ⟨hx, hb, hml, hown, hts, hSS, hlk, hret, hR⟩ := h
  intro H locs ls hl hP hS
  rw [show (1023 : Nat) = 1000 + 23 from rfl, rv_hi]
  exact va_tlen hx hb hSS.2.1.2.2.2.1 hS (v := 23) (by decide) hd (k H locs ls hl hP hS)
theorem g_wald {G : GX} {Q : State → Prop} {kc ks pc nL : Nat} {lv : List (Nat × Value)} {st : List Value} {M : Mem} {b : ByteArray} {own : String} {ret : Option FieldType} {rm : Room} (h : OKm G b own nL ret rm) {i : Int32} {β : Type} {kf : Nat → Option β} {res : β} (hf : ldW i kf = some res) (hd : decode b pc = .ok (.aaload, 1)) (kk : ∀ x, kf x = some res → (1000 ≤ x ∧ x < 1023) → GG G Q kc ks (pc + 1) lv (rv G.1 x :: st) M) : GG G Q kc ks pc lv (.int i :: rv G.1 1023 :: st) M := by
  obtain ⟨w, p, l, e, R, s, m, args, below, meth, c⟩ := G
  obtain ⟨hx, hb, hml, hown, hts, hSS, hlk, hret, hR⟩ := h
  intro H locs ls hl hP hS
  obtain ⟨hin, hk⟩ := pre_if hf
  have k := kk _ hk (by omega) H locs ls hl hP hS
  rw [rv_hi] at k
  rw [show (1023 : Nat) = 1000 + 23 from rfl, rv_hi]
  exact vb_tq hx hb hSS.2.1.2.2.2.1 hS hin rfl hd k
theorem g_sald {G : GX} {Q : State → Prop} {kc ks pc nL : Nat} {lv : List (Nat × Value)} {st : List Value} {M : Mem} {b : ByteArray} {own : String} {ret : Option FieldType} {rm : Room} (h : OKm G b own nL ret rm) {i : Int32} {β : Type} {kf : Int32 → Option β} {res : β} (hf : ldS i kf = some res) (hd : decode b pc = .ok (.iaload, 1)) (kk : ∀ x, kf x = some res → GG G Q kc ks (pc + 1) lv (.int x :: st) M) : GG G Q kc ks pc lv (.int i :: rv G.1 1024 :: st) M := by
  obtain ⟨w, p, l, e, R, s, m, args, below, meth, c⟩ := G
  obtain ⟨hx, hb, hml, hown, hts, hSS, hlk, hret, hR⟩ := h
  intro H locs ls hl hP hS
  obtain ⟨hin, hk⟩ := pre_if hf
  rw [show (1024 : Nat) = 1000 + 24 from rfl, rv_hi]
  exact va_ti hx hb hSS.2.1.2.2.2.2.2.1 hS hin rfl hd (kk _ hk H locs ls hl hP hS)
theorem g_getIS {G : GX} {Q : State → Prop} {kc ks pc nL : Nat} {lv : List (Nat × Value)} {st : List Value} {M : Mem} {b : ByteArray} {own : String} {ret : Option FieldType} {rm : Room} (h : OKm G b own nL ret rm) {o : Nat} {idx : Nat} (ho : 1000 ≤ o ∧ o < 1023) (hlink : Cond.fieldLink own idx "TurnBrothers$Word" "inStays" "I" ∈ LW) (hd : decode b pc = .ok (.getfield idx, 3)) (k : GG G Q kc ks (pc + 3) lv (.int (wIS o) :: st) M) : GG G Q kc ks pc lv (rv G.1 o :: st) M := by
  obtain ⟨w, p, l, e, R, s, m, args, below, meth, c⟩ := G
  obtain ⟨hx, hb, hml, hown, hts, hSS, hlk, hret, hR⟩ := h
  intro H locs ls hl hP hS
  rw [rv_hi2 ho.1]
  exact va_getE hx hb hSS.2.1.1 (i := o - 1000) (by show _ < 23; omega) hS hown (q := wFl[0]) (by decide) (hts _ hlink) (fun _ q => q) hd (k H locs ls hl hP hS)
theorem g_getIL {G : GX} {Q : State → Prop} {kc ks pc nL : Nat} {lv : List (Nat × Value)} {st : List Value} {M : Mem} {b : ByteArray} {own : String} {ret : Option FieldType} {rm : Room} (h : OKm G b own nL ret rm) {o : Nat} {idx : Nat} (ho : 1000 ≤ o ∧ o < 1023) (hlink : Cond.fieldLink own idx "TurnBrothers$Word" "inLikes" "I" ∈ LW) (hd : decode b pc = .ok (.getfield idx, 3)) (k : GG G Q kc ks (pc + 3) lv (.int (wIL o) :: st) M) : GG G Q kc ks pc lv (rv G.1 o :: st) M := by
  obtain ⟨w, p, l, e, R, s, m, args, below, meth, c⟩ := G
  obtain ⟨hx, hb, hml, hown, hts, hSS, hlk, hret, hR⟩ := h
  intro H locs ls hl hP hS
  rw [rv_hi2 ho.1]
  exact va_getE hx hb hSS.2.1.1 (i := o - 1000) (by show _ < 23; omega) hS hown (q := wFl[1]) (by decide) (hts _ hlink) (fun _ q => q) hd (k H locs ls hl hP hS)
theorem g_getOrd {G : GX} {Q : State → Prop} {kc ks pc nL : Nat} {lv : List (Nat × Value)} {st : List Value} {M : Mem} {b : ByteArray} {own : String} {ret : Option FieldType} {rm : Room} (h : OKm G b own nL ret rm) {o : Nat} {idx : Nat} (ho : 1000 ≤ o ∧ o < 1023) (hlink : Cond.fieldLink own idx "java/lang/Enum" "ordinal" "I" ∈ LW) (hd : decode b pc = .ok (.getfield idx, 3)) (k : GG G Q kc ks (pc + 3) lv (.int ((wFl[2]).2.2.2.getD (o - 1000) 0) :: st) M) : GG G Q kc ks pc lv (rv G.1 o :: st) M := by
  obtain ⟨w, p, l, e, R, s, m, args, below, meth, c⟩ := G
  obtain ⟨hx, hb, hml, hown, hts, hSS, hlk, hret, hR⟩ := h
  intro H locs ls hl hP hS
  rw [rv_hi2 ho.1]
  exact va_getE hx hb hSS.2.1.1 (i := o - 1000) (by show _ < 23; omega) hS hown (q := wFl[2]) (by decide) (hts _ hlink) (fun _ q => q) hd (k H locs ls hl hP hS)
theorem g_getTx {G : GX} {Q : State → Prop} {kc ks pc nL : Nat} {lv : List (Nat × Value)} {st : List Value} {M : Mem} {b : ByteArray} {own : String} {ret : Option FieldType} {rm : Room} (h : OKm G b own nL ret rm) {o : Nat} {idx : Nat} (ho : 1000 ≤ o ∧ o < 1023) (hlink : Cond.fieldLink own idx "TurnBrothers$Word" "text" "Ljava/lang/String;" ∈ LW) (hd : decode b pc = .ok (.getfield idx, 3)) (k : GG G Q kc ks (pc + 3) lv (rv G.1 (o + 100) :: st) M) : GG G Q kc ks pc lv (rv G.1 o :: st) M := by
  obtain ⟨w, p, l, e, R, s, m, args, below, meth, c⟩ := G
  obtain ⟨hx, hb, hml, hown, hts, hSS, hlk, hret, hR⟩ := h
  intro H locs ls hl hP hS
  have k := k H locs ls hl hP hS
  rw [rv_hi2 (o := o + 100) (by omega), show o + 100 - 1000 = 100 + (o - 1000) by omega] at k
  rw [rv_hi2 ho.1]
  exact va_getX hx hb hSS.2.1.2.1 (i := o - 1000) (by omega) hS hown (hts _ hlink) (fun _ q => q) hd k
theorem g_ac_eq {G : GX} {Q : State → Prop} {kc ks pc nL : Nat} {lv : List (Nat × Value)} {st : List Value} {M : Mem} {b : ByteArray} {own : String} {ret : Option FieldType} {rm : Room} (h : OKm G b own nL ret rm) {o : Nat} {a : Nat} {β : Type} {A B : Option β} {res : β} {off : Int} (tgt : Nat) (ha : 1000 ≤ a ∧ a < 1023) (ho : 1000 ≤ o ∧ o < 1023) (ht : (pc : Int) + off = (tgt : Int)) (hf : (if a = o then A else B) = some res) (hd : decode b pc = .ok (.if_acmp .eq off, 3)) (kt : A = some res → GG G Q kc ks tgt lv st M) (kf : B = some res → GG G Q kc ks (pc + 3) lv st M) : GG G Q kc ks pc lv (rv G.1 o :: rv G.1 a :: st) M := by
  obtain ⟨w, p, l, e, R, s, m, args, below, meth, c⟩ := G
  obtain ⟨hx, hb, hml, hown, hts, hSS, hlk, hret, hR⟩ := h
  intro H locs ls hl hP hS
  have inj : (some (w.2.1 (a - 1000)) : Option Nat) = some (w.2.1 (o - 1000)) → a = o := fun q => by
    have h1 := hSS.2.1.1.2 (a - 1000) (o - 1000) (by show _ < 23; omega) (by show _ < 23; omega) (Option.some.inj q)
    omega
  rw [rv_hi2 ha.1, rv_hi2 ho.1]
  exact lv_acmp_eq (rx := some (w.2.1 (a - 1000))) (ry := some (w.2.1 (o - 1000))) hx hb hd ht (fun z => kt (by rw [if_pos (inj z)] at hf; exact hf) H locs ls hl hP hS) (fun z => kf (by rw [if_neg (fun q => z (by rw [q]))] at hf; exact hf) H locs ls hl hP hS)
theorem g_ac_ne {G : GX} {Q : State → Prop} {kc ks pc nL : Nat} {lv : List (Nat × Value)} {st : List Value} {M : Mem} {b : ByteArray} {own : String} {ret : Option FieldType} {rm : Room} (h : OKm G b own nL ret rm) {o : Nat} {a : Nat} {β : Type} {A B : Option β} {res : β} {off : Int} (tgt : Nat) (ha : 1000 ≤ a ∧ a < 1023) (ho : 1000 ≤ o ∧ o < 1023) (ht : (pc : Int) + off = (tgt : Int)) (hf : (if a = o then A else B) = some res) (hd : decode b pc = .ok (.if_acmp .ne off, 3)) (kt : B = some res → GG G Q kc ks tgt lv st M) (kf : A = some res → GG G Q kc ks (pc + 3) lv st M) : GG G Q kc ks pc lv (rv G.1 o :: rv G.1 a :: st) M := by
  obtain ⟨w, p, l, e, R, s, m, args, below, meth, c⟩ := G
  obtain ⟨hx, hb, hml, hown, hts, hSS, hlk, hret, hR⟩ := h
  intro H locs ls hl hP hS
  have inj : (some (w.2.1 (a - 1000)) : Option Nat) = some (w.2.1 (o - 1000)) → a = o := fun q => by
    have h1 := hSS.2.1.1.2 (a - 1000) (o - 1000) (by show _ < 23; omega) (by show _ < 23; omega) (Option.some.inj q)
    omega
  rw [rv_hi2 ha.1, rv_hi2 ho.1]
  exact lv_acmp_ne (rx := some (w.2.1 (a - 1000))) (ry := some (w.2.1 (o - 1000))) hx hb hd ht (fun z => kt (by rw [if_neg (fun q => z (by rw [q]))] at hf; exact hf) H locs ls hl hP hS) (fun z => kf (by rw [if_pos (inj z)] at hf; exact hf) H locs ls hl hP hS)
theorem g_ap_eq {G : GX} {Q : State → Prop} {kc ks pc nL : Nat} {lv : List (Nat × Value)} {st : List Value} {M : Mem} {b : ByteArray} {own : String} {ret : Option FieldType} {rm : Room} (h : OKm G b own nL ret rm) {o : Nat} {a : Nat} {β : Type} {A B : Option β} {res : β} {off : Int} (tgt : Nat) (ha : a < KN) (ho : o < KN) (ht : (pc : Int) + off = (tgt : Int)) (hf : (if a = o then A else B) = some res) (hd : decode b pc = .ok (.if_acmp .eq off, 3)) (kt : A = some res → GG G Q kc ks tgt lv st M) (kf : B = some res → GG G Q kc ks (pc + 3) lv st M) : GG G Q kc ks pc lv (rv G.1 o :: rv G.1 a :: st) M := by
  obtain ⟨w, p, l, e, R, s, m, args, below, meth, c⟩ := G
  obtain ⟨hx, hb, hml, hown, hts, hSS, hlk, hret, hR⟩ := h
  intro H locs ls hl hP hS
  have inj : (some (w.1 + a) : Option Nat) = some (w.1 + o) → a = o := fun q => by
    have h1 := Option.some.inj q
    omega
  rw [rv_lt ha, rv_lt ho]
  exact lv_acmp_eq (rx := some (w.1 + a)) (ry := some (w.1 + o)) hx hb hd ht (fun z => kt (by rw [if_pos (inj z)] at hf; exact hf) H locs ls hl hP hS) (fun z => kf (by rw [if_neg (fun q => z (by rw [q]))] at hf; exact hf) H locs ls hl hP hS)
theorem g_ap_ne {G : GX} {Q : State → Prop} {kc ks pc nL : Nat} {lv : List (Nat × Value)} {st : List Value} {M : Mem} {b : ByteArray} {own : String} {ret : Option FieldType} {rm : Room} (h : OKm G b own nL ret rm) {o : Nat} {a : Nat} {β : Type} {A B : Option β} {res : β} {off : Int} (tgt : Nat) (ha : a < KN) (ho : o < KN) (ht : (pc : Int) + off = (tgt : Int)) (hf : (if a = o then A else B) = some res) (hd : decode b pc = .ok (.if_acmp .ne off, 3)) (kt : B = some res → GG G Q kc ks tgt lv st M) (kf : A = some res → GG G Q kc ks (pc + 3) lv st M) : GG G Q kc ks pc lv (rv G.1 o :: rv G.1 a :: st) M := by
  obtain ⟨w, p, l, e, R, s, m, args, below, meth, c⟩ := G
  obtain ⟨hx, hb, hml, hown, hts, hSS, hlk, hret, hR⟩ := h
  intro H locs ls hl hP hS
  have inj : (some (w.1 + a) : Option Nat) = some (w.1 + o) → a = o := fun q => by
    have h1 := Option.some.inj q
    omega
  rw [rv_lt ha, rv_lt ho]
  exact lv_acmp_ne (rx := some (w.1 + a)) (ry := some (w.1 + o)) hx hb hd ht (fun z => kt (by rw [if_neg (fun q => z (by rw [q]))] at hf; exact hf) H locs ls hl hP hS) (fun z => kf (by rw [if_pos (inj z)] at hf; exact hf) H locs ls hl hP hS)
def tLn (o : Nat) : Nat := wLn.getD (o - 1200) 0
def tBy (o j : Nat) : Int32 := (wBy.getD (o - 1200) []).getD j 0
def wOrd (o : Nat) : Int32 := (wFl[2]).2.2.2.getD (o - 1000) 0
def ldT {β : Type} (o : Nat) (i : Int32) (k : Int32 → Option β) : Option β := if i < 0 ∨ tLn o ≤ i.toNatClampNeg then none else k (tBy o i.toNatClampNeg)
theorem g_gsC {G : GX} {Q : State → Prop} {kc ks pc nL : Nat} {lv : List (Nat × Value)} {st : List Value} {M : Mem} {b : ByteArray} {own : String} {ret : Option FieldType} {rm : Room} (h : OKm G b own nL ret rm) {idx : Nat} (hlink : Cond.fieldLink own idx "java/lang/String" "COMPACT_STRINGS" "Z" ∈ LW) (hd : decode b pc = .ok (.getstatic idx, 3)) (k : GG G Q kc ks (pc + 3) lv (.int 1 :: st) M) : GG G Q kc ks pc lv st M := by
  obtain ⟨w, p, l, e, R, s, m, args, below, meth, c⟩ := G
  obtain ⟨hx, hb, hml, hown, hts, hSS, hlk, hret, hR⟩ := h
  intro H locs ls hl hP hS
  exact va_gets hx hb hSS.2.1.2.2.2.2.2.2.2.1 hS hown (hts _ hlink) (fun _ q => q) hd (k H locs ls hl hP hS)
theorem g_getVal {G : GX} {Q : State → Prop} {kc ks pc nL : Nat} {lv : List (Nat × Value)} {st : List Value} {M : Mem} {b : ByteArray} {own : String} {ret : Option FieldType} {rm : Room} (h : OKm G b own nL ret rm) {o : Nat} {idx : Nat} (ho : 1100 ≤ o ∧ o < 1123) (hlink : Cond.fieldLink own idx "java/lang/String" "value" "[B" ∈ LW) (hd : decode b pc = .ok (.getfield idx, 3)) (k : GG G Q kc ks (pc + 3) lv (rv G.1 (o + 100) :: st) M) : GG G Q kc ks pc lv (rv G.1 o :: st) M := by
  obtain ⟨w, p, l, e, R, s, m, args, below, meth, c⟩ := G
  obtain ⟨hx, hb, hml, hown, hts, hSS, hlk, hret, hR⟩ := h
  intro H locs ls hl hP hS
  have k := k H locs ls hl hP hS
  rw [rv_hi2 (o := o + 100) (by omega), show o + 100 - 1000 = 200 + (o - 1100) by omega] at k
  rw [rv_hi2 (by omega), show o - 1000 = 100 + (o - 1100) by omega]
  exact vk_getf hx hb (hSS.2.1.2.2.2.2.2.2.1.1 (o - 1100) (by omega)).2.2.1 hS hown (hts _ hlink) (fun _ q => q) hd k
theorem g_getCod {G : GX} {Q : State → Prop} {kc ks pc nL : Nat} {lv : List (Nat × Value)} {st : List Value} {M : Mem} {b : ByteArray} {own : String} {ret : Option FieldType} {rm : Room} (h : OKm G b own nL ret rm) {o : Nat} {idx : Nat} (ho : 1100 ≤ o ∧ o < 1123) (hlink : Cond.fieldLink own idx "java/lang/String" "coder" "B" ∈ LW) (hd : decode b pc = .ok (.getfield idx, 3)) (k : GG G Q kc ks (pc + 3) lv (.int 0 :: st) M) : GG G Q kc ks pc lv (rv G.1 o :: st) M := by
  obtain ⟨w, p, l, e, R, s, m, args, below, meth, c⟩ := G
  obtain ⟨hx, hb, hml, hown, hts, hSS, hlk, hret, hR⟩ := h
  intro H locs ls hl hP hS
  rw [rv_hi2 (by omega), show o - 1000 = 100 + (o - 1100) by omega]
  exact vk_getf hx hb (hSS.2.1.2.2.2.2.2.2.1.1 (o - 1100) (by omega)).2.1 hS hown (hts _ hlink) (fun _ q => q) hd (k H locs ls hl hP hS)
theorem g_tlen {G : GX} {Q : State → Prop} {kc ks pc nL : Nat} {lv : List (Nat × Value)} {st : List Value} {M : Mem} {b : ByteArray} {own : String} {ret : Option FieldType} {rm : Room} (h : OKm G b own nL ret rm) {o : Nat} (ho : 1200 ≤ o ∧ o < 1223) (hd : decode b pc = .ok (.arraylength, 1)) (k : GG G Q kc ks (pc + 1) lv (.int (nI (tLn o)) :: st) M) : GG G Q kc ks pc lv (rv G.1 o :: st) M := by
  obtain ⟨w, p, l, e, R, s, m, args, below, meth, c⟩ := G
  obtain ⟨hx, hb, hml, hown, hts, hSS, hlk, hret, hR⟩ := h
  intro H locs ls hl hP hS
  rw [rv_hi2 (by omega), show o - 1000 = 200 + (o - 1200) by omega]
  exact va_tlen hx hb (hSS.2.1.2.2.2.2.2.2.1.1 (o - 1200) (by omega)).2.2.2 hS rfl hd (k H locs ls hl hP hS)
theorem g_tbald {G : GX} {Q : State → Prop} {kc ks pc nL : Nat} {lv : List (Nat × Value)} {st : List Value} {M : Mem} {b : ByteArray} {own : String} {ret : Option FieldType} {rm : Room} (h : OKm G b own nL ret rm) {o : Nat} {i : Int32} {β : Type} {kf : Int32 → Option β} {res : β} (ho : 1200 ≤ o ∧ o < 1223) (hf : ldT o i kf = some res) (hd : decode b pc = .ok (.baload, 1)) (kk : ∀ x, kf x = some res → GG G Q kc ks (pc + 1) lv (.int x :: st) M) : GG G Q kc ks pc lv (.int i :: rv G.1 o :: st) M := by
  obtain ⟨w, p, l, e, R, s, m, args, below, meth, c⟩ := G
  obtain ⟨hx, hb, hml, hown, hts, hSS, hlk, hret, hR⟩ := h
  intro H locs ls hl hP hS
  obtain ⟨hin, hk⟩ := pre_if hf
  rw [rv_hi2 (by omega), show o - 1000 = 200 + (o - 1200) by omega]
  exact va_tb hx hb (hSS.2.1.2.2.2.2.2.2.1.1 (o - 1200) (by omega)).2.2.2 hS hin rfl hd (kk _ hk H locs ls hl hP hS)
theorem g_callTri {G : GX} {Q : State → Prop} {kc ks pc nL : Nat} {lv : List (Nat × Value)} {st : List Value} {M : Mem} {b : ByteArray} {own : String} {ret : Option FieldType} {rm : Room} (h : OKm G b own nL ret rm) {o : Nat} {r : Int32} {idx n maxL : Nat} {y : MethodName} {bytes : ByteArray} {ret1 : Option FieldType} {rm1 : Room} {As rest : List Value}  (hce : CE y bytes maxL ret1 n) (hmk : Cond.methodLink own idx y ∈ LW) (hcl : y.cls = "java/lang/String") (hin : Cond.instanceMethod y ∈ LW) (hse : ∀ x ∈ [Cond.selects y.cls y y], x ∈ lw_tbl) (ho : 1100 ≤ o ∧ o < 1123) (hrc : rm1.cells = 0) (hrs : rm1.slots = 0) (hRR : rm1.frames + 1 ≤ rm.frames ∧ 8 + (maxL + 11) + rm1.locals ≤ rm.locals) (hroom : kc + 0 ≤ rm.cells ∧ ks + 0 ≤ rm.slots) (hn : As.length = n) (hd : decode b pc = .ok (.invokevirtual idx, 3)) (hst : st = As.reverse ++ rv G.1 o :: rest) (hcat : (rest.map fun v => v.category).sum ≤ 8) (cm : CM G.2.2.1 G.1 y bytes maxL ret1 rm1 0 0 (rv G.1 o :: As) M (Pri r M)) (k : GG G Q kc ks (pc + 3) lv (.int r :: rest) M) : GG G Q kc ks pc lv st M := by
  obtain ⟨w, p, l, e, R, s, m, args, below, meth, c⟩ := G
  obtain ⟨hx, hb, hml, hown, hts, hSS, hlk, hret, hR⟩ := h
  obtain ⟨hco, hini, hy1, hy2, hpar⟩ := hce
  intro H locs ls hl hP hS
  subst hR
  subst hst
  have cw : CallB R s args own idx y bytes maxL ret1 (Cond.code y bytes maxL ret1 :: LW) rm1 0 0 n := callB_of n hts (LW_in hco) rfl hrc hrs (hts _ hini) (hts _ hmk) ⟨hy1, hy2, hpar⟩ hRR
  have hsel : (Cond.selects y.cls y y).before args s = true := hts _ (List.mem_filter.mpr ⟨hse _ List.mem_cons_self, rfl⟩)
  have hrc2 := vk_recv hSS.2.1.2.2.2.2.2.2.1 (i := o - 1100) (by omega) hS
  rw [show 100 + (o - 1100) = o - 1000 by omega, ← hcl] at hrc2
  have e0 : rv w o = .ref (w.2.1 (o - 1000)) := rv_hi2 (by omega)
  refine g_back (va_runV (As := As) (rest := rest) (b := w.2.1 (o - 1000)) ⟨hx, hb, hml, hown, hts⟩ cm ⟨cw, hts _ hin, hsel⟩ ⟨CM_blind, hrc2, fun U hU hW => ⟨by rw [e0], by rw [hU]; exact hP, hSS.to hW hS hU⟩⟩ rfl hn (hl.1.trans hml) (by rw [e0]) (lv_room hcat) hd hroom) hS hl (fun z M2 hp => by obtain ⟨rfl, rfl⟩ := hp; exact k)
theorem g_callOrd {G : GX} {Q : State → Prop} {kc ks pc nL : Nat} {lv : List (Nat × Value)} {st : List Value} {M : Mem} {b : ByteArray} {own : String} {ret : Option FieldType} {rm : Room} (h : OKm G b own nL ret rm) {o : Nat} {r : Int32} {idx maxL : Nat} {y : MethodName} {bytes : ByteArray} {ret1 : Option FieldType} {rm1 : Room} {rest : List Value} (hce : CE y bytes maxL ret1 0) (hmk : Cond.methodLink own idx ⟨"TurnBrothers$Word", "ordinal", "()I"⟩ ∈ LW) (hyy : y = ⟨"java/lang/Enum", "ordinal", "()I"⟩) (hsame : Cond.sameMethod "TurnBrothers$Word" "java/lang/Enum" "ordinal" "()I" ∈ LW) (hin : Cond.instanceMethod y ∈ LW) (hse : Cond.selects "TurnBrothers$Word" ⟨"TurnBrothers$Word", "ordinal", "()I"⟩ y ∈ LW) (ho : 1000 ≤ o ∧ o < 1023) (hrc : rm1.cells = 0) (hrs : rm1.slots = 0) (hRR : rm1.frames + 1 ≤ rm.frames ∧ 8 + (maxL + 11) + rm1.locals ≤ rm.locals) (hroom : kc + 0 ≤ rm.cells ∧ ks + 0 ≤ rm.slots) (hd : decode b pc = .ok (.invokevirtual idx, 3)) (hcat : (rest.map fun v => v.category).sum ≤ 8) (cm : CM G.2.2.1 G.1 y bytes maxL ret1 rm1 0 0 [rv G.1 o] M (Pri r M)) (k : GG G Q kc ks (pc + 3) lv (.int r :: rest) M) : GG G Q kc ks pc lv (rv G.1 o :: rest) M := by
  obtain ⟨w, p, l, e, R, s, m, args, below, meth, c⟩ := G
  obtain ⟨hx, hb, hml, hown, hts, hSS, hlk, hret, hR⟩ := h
  obtain ⟨hco, hini, hy1, hy2, hpar⟩ := hce
  intro H locs ls hl hP hS
  subst hR
  subst hyy
  have hG := LW_in hco
  have hrc2 := va_recvE hSS.2.1.1 (i := o - 1000) (by show _ < 23; omega) hS
  have e0 : rv w o = .ref (w.2.1 (o - 1000)) := rv_hi2 (by omega)
  have cw : va_CU R s args own "TurnBrothers$Word" "java/lang/Enum" idx ⟨"TurnBrothers$Word", "ordinal", "()I"⟩ ⟨"java/lang/Enum", "ordinal", "()I"⟩ bytes maxL ret1 (Cond.code ⟨"java/lang/Enum", "ordinal", "()I"⟩ bytes maxL ret1 :: LW) rm1 0 0 0 := ⟨⟨hrc, hrs, hRR.1, hRR.2, pay_in hts hG, List.mem_cons_self⟩, hts _ hco, hts _ hini, ⟨by decide, by decide⟩, fun sig q => (by rw [show parseMethodDescriptor "()I" = _ from q] at hpar; exact (Option.some.inj hpar).symm), hts _ hmk, hts _ hsame, va_Decl.of (hts _ hin) (hts _ hco), hts _ hse, hts _ hin⟩
  refine g_back (va_runU (As := []) (rest := rest) (b := w.2.1 (o - 1000)) ⟨hx, hb, hml, hown, hts⟩ cm cw ⟨CM_blind, hrc2, fun U hU hW => ⟨by rw [e0], by rw [hU]; exact hP, hSS.to hW hS hU⟩⟩ rfl rfl (hl.1.trans hml) (by rw [e0]; rfl) (lv_room hcat) hd hroom) hS hl (fun z M2 hp => by obtain ⟨rfl, rfl⟩ := hp; exact k)
