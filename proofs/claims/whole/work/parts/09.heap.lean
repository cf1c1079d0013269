def pu {α : Type} {β : Type} (e : α) (k : α → β) : β := k e
theorem bd_some {α β : Type} {o : Option α} {k : α → Option β} {res : β} (h : Option.bind o k = some res) : ∃ q, o = some q ∧ k q = some res := by
  cases o with
  | none => cases h
  | some q => exact ⟨q, rfl, h⟩
def ldI {β : Type} (M : Mem) (a n : Nat) (i : Int32) (k : Int32 → Option β) : Option β := if i < 0 ∨ n ≤ i.toNatClampNeg then none else k (gI M a i.toNatClampNeg)
def ldL {β : Type} (M : Mem) (a n : Nat) (i : Int32) (k : Int64 → Option β) : Option β := if i < 0 ∨ n ≤ i.toNatClampNeg then none else k (gL M a i.toNatClampNeg)
def ldN {β : Type} (i : Int32) (k : Nat → Option β) : Option β := if i < 0 ∨ 4 ≤ i.toNatClampNeg then none else k (61 + 5 * i.toNatClampNeg)
def stI {β : Type} (M : Mem) (a n : Nat) (i v : Int32) (k : Mem → Option β) : Option β := if i < 0 ∨ n ≤ i.toNatClampNeg then none else k (sI M a i.toNatClampNeg v)
def stL {β : Type} (M : Mem) (a n : Nat) (i : Int32) (v : Int64) (k : Mem → Option β) : Option β := if i < 0 ∨ n ≤ i.toNatClampNeg then none else k (sL M a i.toNatClampNeg v)
/-- a truth value -/
def zz {β : Type} (x : Int32) (k : Option β) : Option β := if x = 0 ∨ x = 1 then k else none
/-- a divisor -/
def nz {β : Type} (x : Int32) (k : Option β) : Option β := if x = 0 then none else k
def ck {β : Type} (c : Prop) [Decidable c] (k : Option β) : Option β := if c then k else none
/-- System.arraycopy over ints -/
def cpI {β : Type} (M : Mem) (a na : Nat) (sp : Int32) (c nc : Nat) (dp n : Int32) (k : Mem → Option β) : Option β :=
  if sp < 0 ∨ dp < 0 ∨ n < 0 ∨ na < sp.toNatClampNeg + n.toNatClampNeg ∨ nc < dp.toNatClampNeg + n.toNatClampNeg then none else k (aI M c (va_cpy (M.1 a) (M.1 c) sp.toNatClampNeg dp.toNatClampNeg n.toNatClampNeg))
theorem pre_if {c : Prop} [Decidable c] {β : Type} {k : Option β} {res : β} (h : (if c then none else k) = some res) : ¬ c ∧ k = some res := by
  by_cases hc : c
  · rw [if_pos hc] at h; cases h
  · rw [if_neg hc] at h; exact ⟨hc, h⟩
theorem pre_ck {c : Prop} [Decidable c] {β : Type} {k : Option β} {res : β} (h : (if c then k else none) = some res) : c ∧ k = some res := by
  by_cases hc : c
  · rw [if_pos hc] at h; exact ⟨hc, h⟩
  · rw [if_neg hc] at h; cases h

theorem g_nmI {G : GX} {Q : State → Prop} {kc ks pc : Nat} {lv : List (Nat × Value)} {st : List Value} {M : Mem} {e : Int32} {β : Type} {kf : Int32 → Option β} {res : β} (hf : pu e kf = some res) (kk : ∀ x, kf x = some res → GG G Q kc ks pc lv (.int x :: st) M) : GG G Q kc ks pc lv (.int e :: st) M := kk e hf
theorem g_nmL {G : GX} {Q : State → Prop} {kc ks pc : Nat} {lv : List (Nat × Value)} {st : List Value} {M : Mem} {e : Int64} {β : Type} {kf : Int64 → Option β} {res : β} (hf : pu e kf = some res) (kk : ∀ x, kf x = some res → GG G Q kc ks pc lv (.long x :: st) M) : GG G Q kc ks pc lv (.long e :: st) M := kk e hf
theorem g_nmR {G : GX} {Q : State → Prop} {kc ks pc : Nat} {lv : List (Nat × Value)} {st : List Value} {M : Mem} {e : Nat} {β : Type} {kf : Nat → Option β} {res : β} (hf : pu e kf = some res) (kk : ∀ x, kf x = some res → GG G Q kc ks pc lv (rv G.1 x :: st) M) : GG G Q kc ks pc lv (rv G.1 e :: st) M := kk e hf
theorem g_nmM {G : GX} {Q : State → Prop} {kc ks pc : Nat} {lv : List (Nat × Value)} {st : List Value} {M1 : Mem} {β : Type} {kf : Mem → Option β} {res : β} (hf : pu M1 kf = some res) (kk : ∀ x, kf x = some res → GG G Q kc ks pc lv st x) : GG G Q kc ks pc lv st M1 := kk M1 hf
theorem g_nmI2 {G : GX} {Q : State → Prop} {kc ks pc : Nat} {lv : List (Nat × Value)} {st : List Value} {M : Mem} {z : Value} {e : Int32} {β : Type} {kf : Int32 → Option β} {res : β} (hf : pu e kf = some res) (kk : ∀ x, kf x = some res → GG G Q kc ks pc lv (z :: .int x :: st) M) : GG G Q kc ks pc lv (z :: .int e :: st) M := kk e hf
theorem ent_0 {w : WX} {M : Mem} {k : Nat} (h : kd k = 0) : ent w M k = .inr (0, (.int (gI M k 0)) :: (rv w (k + 1)) :: []) := by
  unfold ent entK
  rw [h]
  rfl
theorem ent_1 {w : WX} {M : Mem} {k : Nat} (h : kd k = 1) : ent w M k = .inr (1, (rv w 28) :: (rv w 50) :: (rv w 55) :: (.int (gI M k 3)) :: (rv w 56) :: (rv w 57) :: (rv w 58) :: (rv w 59) :: (rv w 60) :: []) := by
  unfold ent entK
  rw [h]
  rfl
theorem ent_2 {w : WX} {M : Mem} {k : Nat} (h : kd k = 2) : ent w M k = .inr (2, (.int (gI M k 0)) :: (.int (gI M k 1)) :: (.int (gI M k 2)) :: (.int (gI M k 3)) :: (.int (gI M k 4)) :: (.int (gI M k 5)) :: (.int (gI M k 6)) :: (.int (gI M k 7)) :: (.int (gI M k 8)) :: (rv w (k + 1)) :: (rv w (k + 2)) :: (rv w (k + 3)) :: (rv w (k + 4)) :: []) := by
  unfold ent entK
  rw [h]
  rfl
theorem ent_3 {w : WX} {M : Mem} {k : Nat} (h : kd k = 3) : ent w M k = .inr (3, (.int (gI M k 0)) :: (rv w (k + 1)) :: (rv w (k + 2)) :: []) := by
  unfold ent entK
  rw [h]
  rfl
theorem ent_4 {w : WX} {M : Mem} {k : Nat} (h : kd k = 4) : ent w M k = .inr (4, (.int (gI M k 0)) :: (rv w (k + 1)) :: (rv w (k + 2)) :: (rv w (k + 3)) :: (rv w (k + 4)) :: (rv w (k + 5)) :: (.int (gI M k 6)) :: (rv w (k + 6)) :: (.int (gI M k 8)) :: (rv w (k + 7)) :: (rv w (k + 8)) :: (rv w (k + 11)) :: (rv w (k + 15)) :: (rv w (k + 16)) :: []) := by
  unfold ent entK
  rw [h]
  rfl
theorem ent_5 {w : WX} {M : Mem} {k : Nat} (h : kd k = 5) : ent w M k = .inr (5, (rv w 27) :: (rv w (gR M k 1)) :: (rv w 21) :: (.int (gI M k 3)) :: (.int (gI M k 4)) :: (.int (gI M k 5)) :: (rv w 26) :: (rv w (gR M k 7)) :: []) := by
  unfold ent entK
  rw [h]
  rfl
theorem ent_6 {w : WX} {M : Mem} {k : Nat} (h : kd k = 6) : ent w M k = .inr (6, (rv w (gR M k 0)) :: (rv w 46) :: (rv w 47) :: (rv w 48) :: []) := by
  unfold ent entK
  rw [h]
  rfl
theorem ent_7 {w : WX} {M : Mem} {k : Nat} (h : kd k = 7) : ent w M k = .inr (7, (rv w (rcT k)) :: (.int (gI M k 1)) :: (.int (gI M k 2)) :: (.int (gI M k 3)) :: []) := by
  unfold ent entK
  rw [h]
  rfl
theorem ent_8 {w : WX} {M : Mem} {k : Nat} (h : kd k = 8) : ent w M k = .inr (8, (.int (gI M k 0)) :: (rv w (k + 1)) :: (rv w (k + 2)) :: []) := by
  unfold ent entK
  rw [h]
  rfl
theorem ent_9 {w : WX} {M : Mem} {k : Nat} (h : kd k = 9) : ent w M k = .inr (9, (rv w 1) :: (.int (gI M k 1)) :: (.int (gI M k 2)) :: (.int (gI M k 3)) :: (.int (gI M k 4)) :: (.int (gI M k 5)) :: (rv w (gR M k 6)) :: []) := by
  unfold ent entK
  rw [h]
  rfl
theorem ent_10 {w : WX} {M : Mem} {k : Nat} (h : kd k = 10) : ent w M k = .inr (10, (rv w 1) :: (.int (gI M k 1)) :: (.int (gI M k 2)) :: (rv w 2) :: (rv w 3) :: (rv w 28) :: (rv w 49) :: (rv w 81) :: (rv w 86) :: (rv w 91) :: (rv w 93) :: (.int (gI M k 11)) :: (rv w 96) :: (rv w 97) :: (rv w 99) :: (rv w 102) :: []) := by
  unfold ent entK
  rw [h]
  rfl
theorem ent_11 {w : WX} {M : Mem} {k : Nat} (h : kd k = 11) : ent w M k = .inr (11, (.int (gI M k 0)) :: (.int (gI M k 1)) :: (.int (gI M k 2)) :: (.int (gI M k 3)) :: (.int (gI M k 4)) :: (.int (gI M k 5)) :: (.int (gI M k 6)) :: (.int (gI M k 7)) :: (rv w 104) :: (rv w 105) :: (rv w 106) :: (rv w 107) :: (rv w 108) :: (rv w 109) :: (rv w 110) :: (rv w 111) :: (rv w 112) :: (rv w 113) :: (rv w 114) :: (rv w 115) :: (rv w 116) :: (.int (gI M k 21)) :: (.int (gI M k 22)) :: (.int (gI M k 23)) :: (rv w 117) :: (.int (gI M k 25)) :: (.int (gI M k 26)) :: (.int (gI M k 27)) :: (.int (gI M k 28)) :: (.int (gI M k 29)) :: (.int (gI M k 30)) :: (.int (gI M k 31)) :: (.long (gL M k 32)) :: (.int (gI M k 33)) :: (.int (gI M k 34)) :: (.int (gI M k 35)) :: (.int (gI M k 36)) :: (.int (gI M k 37)) :: (.int (gI M k 38)) :: (.int (gI M k 39)) :: (.int (gI M k 40)) :: (.int (gI M k 41)) :: (.int (gI M k 42)) :: (.int (gI M k 43)) :: (.int (gI M k 44)) :: (.int (gI M k 45)) :: (.int (gI M k 46)) :: (rv w 118) :: (rv w 119) :: (rv w 120) :: (rv w 121) :: (rv w 122) :: (rv w 123) :: (rv w 124) :: (rv w 125) :: (rv w 126) :: (rv w 127) :: (rv w 128) :: (rv w 129) :: (rv w 130) :: (rv w 131) :: (rv w 132) :: (rv w 133) :: (rv w 134) :: (.int (gI M k 64)) :: (rv w 135) :: (rv w 136) :: (.int (gI M k 67)) :: (rv w 137) :: (.int (gI M k 69)) :: (rv w 138) :: (rv w 139) :: (rv w 140) :: (.int (gI M k 73)) :: (.int (gI M k 74)) :: (.int (gI M k 75)) :: (.int (gI M k 76)) :: (rv w 141) :: (rv w 142) :: (rv w 143) :: []) := by
  unfold ent entK
  rw [h]
  rfl
theorem ent_20 {w : WX} {M : Mem} {k : Nat} (h : kd k = 20) : ent w M k = .inl (w.2.2.2 0, ln k, .inl (M.1 k)) := by
  unfold ent entK
  rw [h]
  rfl
theorem ent_21 {w : WX} {M : Mem} {k : Nat} (h : kd k = 21) : ent w M k = .inl (w.2.2.2 1, ln k, .inl (M.1 k)) := by
  unfold ent entK
  rw [h]
  rfl
theorem ent_22 {w : WX} {M : Mem} {k : Nat} (h : kd k = 22) : ent w M k = .inl (w.2.2.2 2, ln k, .inr (.inl (M.2.1 k))) := by
  unfold ent entK
  rw [h]
  rfl
theorem ent_23 {w : WX} {M : Mem} {k : Nat} (h : kd k = 23) : ent w M k = .inl (w.2.2.2 3, ln k, .inl (M.1 k)) := by
  unfold ent entK
  rw [h]
  rfl
theorem ent_24 {w : WX} {M : Mem} {k : Nat} (h : kd k = 24) : ent w M k = .inl (w.2.2.2 4, ln k, .inr (.inr (.inr (.inr fun j => some (w.1 + (61 + 5 * j)))))) := by
  unfold ent entK
  rw [h]
  rfl
theorem g_get {G : GX} {Q : State → Prop} {kc ks pc nL : Nat} {lv : List (Nat × Value)} {st : List Value} {M : Mem} {b : ByteArray} {own : String} {ret : Option FieldType} {rm : Room} (h : OKm G b own nL ret rm) {o : Nat} {C : String} {T : u_T} {N ci idx : Nat} (hin : ∀ x ∈ u_ws C T N, x ∈ LW) (hc : vwCl[ci]? = some (C, T, N)) (j : Nat) (hj : j < N) (hlink : Cond.fieldLink own idx (T j).1 (T j).2.1 (T j).2.2.1 ∈ LW) {z : Value} {fs : List Value} (ho : o < KN) (he : ent G.1 M o = .inr (ci, fs)) (hv : fs[j]? = some z) (hd : decode b pc = .ok (.getfield idx, 3)) (k : GG G Q kc ks (pc + 3) lv (z :: st) M) : GG G Q kc ks pc lv (rv G.1 o :: st) M := by
  obtain ⟨w, p, l, e, R, s, m, args, below, meth, c⟩ := G
  obtain ⟨hx, hb, hml, hown, hts, hSS, hlk, hret, hR⟩ := h
  intro H locs ls hl hP hS
  rw [rv_lt ho]
  have hw := WL_at (w := w) (M := M) ho
  rw [show ent w M o = _ from he] at hw
  exact va_get (T := T) hx hb hts hin hown hSS.1 hP o hw hc j hj (hts _ hlink) (fun _ q => q) hv hd (k H locs ls hl hP hS)
theorem g_put {G : GX} {Q : State → Prop} {kc ks pc nL : Nat} {lv : List (Nat × Value)} {st : List Value} {M : Mem} {b : ByteArray} {own : String} {ret : Option FieldType} {rm : Room} (h : OKm G b own nL ret rm) {o : Nat} {C : String} {T : u_T} {N ci idx : Nat} (hin : ∀ x ∈ u_ws C T N, x ∈ LW) (hc : vwCl[ci]? = some (C, T, N)) (j : Nat) (hj : j < N) (hlink : Cond.fieldLink own idx (T j).1 (T j).2.1 (T j).2.2.1 ∈ LW) {tyf : Nat → FieldType} (hty : ∀ k, k < N → parseFieldDescriptor (T k).2.2.1 = some (tyf k)) (hnm : ∀ a, a < N → ∀ b, b < N → a ≠ b → (T a).2.1 ≠ (T b).2.1) (hfin : (T j).2.2.2 = false) {z : Value} {M1 : Mem} {fs : List Value} {ft : FieldType} (ho : o < KN) (he : ent G.1 M o = .inr (ci, fs)) (hlen : j < fs.length) (he1 : ent G.1 M1 o = .inr (ci, fs.set j z)) (hoth : ∀ k, k ≠ o → ent G.1 M1 k = ent G.1 M k) (hdt : parseFieldDescriptor (T j).2.2.1 = some ft) (hn : narrow ft z = z) (hfit : fits ft z = true) (hd : decode b pc = .ok (.putfield idx, 3)) (k : GG G Q kc ks (pc + 3) lv st M1) : GG G Q kc ks pc lv (z :: rv G.1 o :: st) M := by
  obtain ⟨w, p, l, e, R, s, m, args, below, meth, c⟩ := G
  obtain ⟨hx, hb, hml, hown, hts, hSS, hlk, hret, hR⟩ := h
  intro H locs ls hl hP hS
  rw [rv_lt ho]
  have hw := WL_at (w := w) (M := M) ho
  rw [show ent w M o = _ from he] at hw
  refine va_put (T := T) hx hb hts hin tyf hty hnm hown hSS.1 hP (WL_D w M) hS o hw hc j hj (hts _ hlink) (fun _ q => q) hfin hdt hn hfit hlen hd (fun H1 locs1 hP1 hD1 hS1 => ?_)
  rw [WL_set ho he1 hoth] at hP1
  exact k H1 locs1 ls hl hP1 hS1
theorem g_iald {G : GX} {Q : State → Prop} {kc ks pc nL : Nat} {lv : List (Nat × Value)} {st : List Value} {M : Mem} {b : ByteArray} {own : String} {ret : Option FieldType} {rm : Room} (h : OKm G b own nL ret rm) {o : Nat} (n : Nat) {i : Int32} {β : Type} {kf : Int32 → Option β} {res : β} (ho : kd o = 20) (hn : ln o = n) (hf : ldI M o n i kf = some res) (hd : decode b pc = .ok (.iaload, 1)) (kk : ∀ x, kf x = some res → GG G Q kc ks (pc + 1) lv (.int x :: st) M) : GG G Q kc ks pc lv (.int i :: rv G.1 o :: st) M := by
  obtain ⟨w, p, l, e, R, s, m, args, below, meth, c⟩ := G
  obtain ⟨hx, hb, hml, hown, hts, hSS, hlk, hret, hR⟩ := h
  intro H locs ls hl hP hS
  have ho1 := kd_lt (k := o) (by rw [ho]; decide)
  rw [rv_lt ho1]
  have hw := WL_at (w := w) (M := M) ho1
  rw [ent_20 ho] at hw
  obtain ⟨hin, hk⟩ := pre_if hf
  subst hn
  exact va_iald hx hb hSS.1 hP o 0 hw rfl hin hd (kk _ hk H locs ls hl hP hS)
theorem g_bald {G : GX} {Q : State → Prop} {kc ks pc nL : Nat} {lv : List (Nat × Value)} {st : List Value} {M : Mem} {b : ByteArray} {own : String} {ret : Option FieldType} {rm : Room} (h : OKm G b own nL ret rm) {o : Nat} (n : Nat) {i : Int32} {β : Type} {kf : Int32 → Option β} {res : β} (ho : kd o = 21) (hn : ln o = n) (hf : ldI M o n i kf = some res) (hd : decode b pc = .ok (.baload, 1)) (kk : ∀ x, kf x = some res → GG G Q kc ks (pc + 1) lv (.int x :: st) M) : GG G Q kc ks pc lv (.int i :: rv G.1 o :: st) M := by
  obtain ⟨w, p, l, e, R, s, m, args, below, meth, c⟩ := G
  obtain ⟨hx, hb, hml, hown, hts, hSS, hlk, hret, hR⟩ := h
  intro H locs ls hl hP hS
  have ho1 := kd_lt (k := o) (by rw [ho]; decide)
  rw [rv_lt ho1]
  have hw := WL_at (w := w) (M := M) ho1
  rw [ent_21 ho] at hw
  obtain ⟨hin, hk⟩ := pre_if hf
  subst hn
  exact va_bald hx hb hSS.1 hP o 1 hw rfl hin hd (kk _ hk H locs ls hl hP hS)
theorem g_zald {G : GX} {Q : State → Prop} {kc ks pc nL : Nat} {lv : List (Nat × Value)} {st : List Value} {M : Mem} {b : ByteArray} {own : String} {ret : Option FieldType} {rm : Room} (h : OKm G b own nL ret rm) {o : Nat} (n : Nat) {i : Int32} {β : Type} {kf : Int32 → Option β} {res : β} (ho : kd o = 23) (hn : ln o = n) (hf : ldI M o n i kf = some res) (hd : decode b pc = .ok (.baload, 1)) (kk : ∀ x, kf x = some res → GG G Q kc ks (pc + 1) lv (.int x :: st) M) : GG G Q kc ks pc lv (.int i :: rv G.1 o :: st) M := by
  obtain ⟨w, p, l, e, R, s, m, args, below, meth, c⟩ := G
  obtain ⟨hx, hb, hml, hown, hts, hSS, hlk, hret, hR⟩ := h
  intro H locs ls hl hP hS
  have ho1 := kd_lt (k := o) (by rw [ho]; decide)
  rw [rv_lt ho1]
  have hw := WL_at (w := w) (M := M) ho1
  rw [ent_23 ho] at hw
  obtain ⟨hin, hk⟩ := pre_if hf
  subst hn
  exact va_zald hx hb hSS.1 hP o 3 hw rfl hin hd (kk _ hk H locs ls hl hP hS)
theorem g_lald {G : GX} {Q : State → Prop} {kc ks pc nL : Nat} {lv : List (Nat × Value)} {st : List Value} {M : Mem} {b : ByteArray} {own : String} {ret : Option FieldType} {rm : Room} (h : OKm G b own nL ret rm) {o : Nat} (n : Nat) {i : Int32} {β : Type} {kf : Int64 → Option β} {res : β} (ho : kd o = 22) (hn : ln o = n) (hf : ldL M o n i kf = some res) (hd : decode b pc = .ok (.laload, 1)) (kk : ∀ x, kf x = some res → GG G Q kc ks (pc + 1) lv (.long x :: st) M) : GG G Q kc ks pc lv (.int i :: rv G.1 o :: st) M := by
  obtain ⟨w, p, l, e, R, s, m, args, below, meth, c⟩ := G
  obtain ⟨hx, hb, hml, hown, hts, hSS, hlk, hret, hR⟩ := h
  intro H locs ls hl hP hS
  have ho1 := kd_lt (k := o) (by rw [ho]; decide)
  rw [rv_lt ho1]
  have hw := WL_at (w := w) (M := M) ho1
  rw [ent_22 ho] at hw
  obtain ⟨hin, hk⟩ := pre_if hf
  subst hn
  exact va_lald hx hb hSS.1 hP o 2 hw rfl hin hd (kk _ hk H locs ls hl hP hS)
theorem g_iast {G : GX} {Q : State → Prop} {kc ks pc nL : Nat} {lv : List (Nat × Value)} {st : List Value} {M : Mem} {b : ByteArray} {own : String} {ret : Option FieldType} {rm : Room} (h : OKm G b own nL ret rm) {o : Nat} (n : Nat) {i : Int32} {x : Int32} {β : Type} {kf : Mem → Option β} {res : β} (ho : kd o = 20) (hn : ln o = n) (hf : stI M o n i x kf = some res) (hd : decode b pc = .ok (.iastore, 1)) (kk : ∀ M1, kf M1 = some res → GG G Q kc ks (pc + 1) lv st M1) : GG G Q kc ks pc lv (.int x :: .int i :: rv G.1 o :: st) M := by
  obtain ⟨w, p, l, e, R, s, m, args, below, meth, c⟩ := G
  obtain ⟨hx, hb, hml, hown, hts, hSS, hlk, hret, hR⟩ := h
  intro H locs ls hl hP hS
  have ho1 := kd_lt (k := o) (by rw [ho]; decide)
  rw [rv_lt ho1]
  have hw := WL_at (w := w) (M := M) ho1
  rw [ent_20 ho] at hw
  obtain ⟨hin, hk⟩ := pre_if hf
  subst hn
  refine va_iast hx hb hSS.1 hP (WL_D w M) hS o 0 hw rfl hin hd (fun H1 locs1 hP1 hD1 hS1 => ?_)
  rw [WL_set (M' := sI M o i.toNatClampNeg x) ho1 (by unfold sI; rw [ent_aI_s]; unfold entK; rw [ho]; rfl) (fun j hj => ent_aI hj)] at hP1
  exact kk _ hk H1 locs1 ls hl hP1 hS1
theorem g_bast {G : GX} {Q : State → Prop} {kc ks pc nL : Nat} {lv : List (Nat × Value)} {st : List Value} {M : Mem} {b : ByteArray} {own : String} {ret : Option FieldType} {rm : Room} (h : OKm G b own nL ret rm) {o : Nat} (n : Nat) {i : Int32} {x : Int32} {β : Type} {kf : Mem → Option β} {res : β} (ho : kd o = 21) (hn : ln o = n) (hf : stI M o n i (vp_nar .byte x) kf = some res) (hd : decode b pc = .ok (.bastore, 1)) (kk : ∀ M1, kf M1 = some res → GG G Q kc ks (pc + 1) lv st M1) : GG G Q kc ks pc lv (.int x :: .int i :: rv G.1 o :: st) M := by
  obtain ⟨w, p, l, e, R, s, m, args, below, meth, c⟩ := G
  obtain ⟨hx, hb, hml, hown, hts, hSS, hlk, hret, hR⟩ := h
  intro H locs ls hl hP hS
  have ho1 := kd_lt (k := o) (by rw [ho]; decide)
  rw [rv_lt ho1]
  have hw := WL_at (w := w) (M := M) ho1
  rw [ent_21 ho] at hw
  obtain ⟨hin, hk⟩ := pre_if hf
  subst hn
  refine va_bast hx hb hSS.1 hP (WL_D w M) hS o 1 hw rfl hin hd (fun H1 locs1 hP1 hD1 hS1 => ?_)
  rw [WL_set (M' := sI M o i.toNatClampNeg (vp_nar .byte x)) ho1 (by unfold sI; rw [ent_aI_s]; unfold entK; rw [ho]; rfl) (fun j hj => ent_aI hj)] at hP1
  exact kk _ hk H1 locs1 ls hl hP1 hS1
theorem g_zast {G : GX} {Q : State → Prop} {kc ks pc nL : Nat} {lv : List (Nat × Value)} {st : List Value} {M : Mem} {b : ByteArray} {own : String} {ret : Option FieldType} {rm : Room} (h : OKm G b own nL ret rm) {o : Nat} (n : Nat) {i : Int32} {x : Int32} {β : Type} {kf : Mem → Option β} {res : β} (ho : kd o = 23) (hn : ln o = n) (hf : stI M o n i (vp_nar .boolean x) kf = some res) (hd : decode b pc = .ok (.bastore, 1)) (kk : ∀ M1, kf M1 = some res → GG G Q kc ks (pc + 1) lv st M1) : GG G Q kc ks pc lv (.int x :: .int i :: rv G.1 o :: st) M := by
  obtain ⟨w, p, l, e, R, s, m, args, below, meth, c⟩ := G
  obtain ⟨hx, hb, hml, hown, hts, hSS, hlk, hret, hR⟩ := h
  intro H locs ls hl hP hS
  have ho1 := kd_lt (k := o) (by rw [ho]; decide)
  rw [rv_lt ho1]
  have hw := WL_at (w := w) (M := M) ho1
  rw [ent_23 ho] at hw
  obtain ⟨hin, hk⟩ := pre_if hf
  subst hn
  refine va_zast hx hb hSS.1 hP (WL_D w M) hS o 3 hw rfl hin hd (fun H1 locs1 hP1 hD1 hS1 => ?_)
  rw [WL_set (M' := sI M o i.toNatClampNeg (vp_nar .boolean x)) ho1 (by unfold sI; rw [ent_aI_s]; unfold entK; rw [ho]; rfl) (fun j hj => ent_aI hj)] at hP1
  exact kk _ hk H1 locs1 ls hl hP1 hS1
theorem g_last {G : GX} {Q : State → Prop} {kc ks pc nL : Nat} {lv : List (Nat × Value)} {st : List Value} {M : Mem} {b : ByteArray} {own : String} {ret : Option FieldType} {rm : Room} (h : OKm G b own nL ret rm) {o : Nat} (n : Nat) {i : Int32} {x : Int64} {β : Type} {kf : Mem → Option β} {res : β} (ho : kd o = 22) (hn : ln o = n) (hf : stL M o n i x kf = some res) (hd : decode b pc = .ok (.lastore, 1)) (kk : ∀ M1, kf M1 = some res → GG G Q kc ks (pc + 1) lv st M1) : GG G Q kc ks pc lv (.long x :: .int i :: rv G.1 o :: st) M := by
  obtain ⟨w, p, l, e, R, s, m, args, below, meth, c⟩ := G
  obtain ⟨hx, hb, hml, hown, hts, hSS, hlk, hret, hR⟩ := h
  intro H locs ls hl hP hS
  have ho1 := kd_lt (k := o) (by rw [ho]; decide)
  rw [rv_lt ho1]
  have hw := WL_at (w := w) (M := M) ho1
  rw [ent_22 ho] at hw
  obtain ⟨hin, hk⟩ := pre_if hf
  subst hn
  refine va_last hx hb hSS.1 hP (WL_D w M) hS o 2 hw rfl hin hd (fun H1 locs1 hP1 hD1 hS1 => ?_)
  rw [WL_set (M' := sL M o i.toNatClampNeg x) ho1 (by unfold sL; rw [ent_aL_s]; unfold entK; rw [ho]; rfl) (fun j hj => ent_aL hj)] at hP1
  exact kk _ hk H1 locs1 ls hl hP1 hS1
theorem g_aald {G : GX} {Q : State → Prop} {kc ks pc nL : Nat} {lv : List (Nat × Value)} {st : List Value} {M : Mem} {b : ByteArray} {own : String} {ret : Option FieldType} {rm : Room} (h : OKm G b own nL ret rm) {o : Nat} {i : Int32} {β : Type} {kf : Nat → Option β} {res : β} (ho : kd o = 24) (hn : ln o = 4) (hf : ldN i kf = some res) (hd : decode b pc = .ok (.aaload, 1)) (kk : ∀ x, kf x = some res → GG G Q kc ks (pc + 1) lv (rv G.1 x :: st) M) : GG G Q kc ks pc lv (.int i :: rv G.1 o :: st) M := by
  obtain ⟨w, p, l, e, R, s, m, args, below, meth, c⟩ := G
  obtain ⟨hx, hb, hml, hown, hts, hSS, hlk, hret, hR⟩ := h
  intro H locs ls hl hP hS
  have ho1 := kd_lt (k := o) (by rw [ho]; decide)
  rw [rv_lt ho1]
  have hw := WL_at (w := w) (M := M) ho1
  rw [ent_24 ho, hn] at hw
  obtain ⟨hin, hk⟩ := pre_if hf
  have h5 := kk _ hk H locs ls hl hP hS
  rw [rv_lt (w := w) (i := 61 + 5 * i.toNatClampNeg) (by show _ < 145; omega)] at h5
  exact va_aldq hx hb hSS.1 hP o 4 hw rfl hin hd h5
theorem g_ilen {G : GX} {Q : State → Prop} {kc ks pc nL : Nat} {lv : List (Nat × Value)} {st : List Value} {M : Mem} {b : ByteArray} {own : String} {ret : Option FieldType} {rm : Room} (h : OKm G b own nL ret rm) {o : Nat} (n : Nat) {z : Int32} (ho : kd o = 20) (hn : ln o = n) (hz : Int32.ofNat n = z) (hd : decode b pc = .ok (.arraylength, 1)) (k : GG G Q kc ks (pc + 1) lv (.int z :: st) M) : GG G Q kc ks pc lv (rv G.1 o :: st) M := by
  obtain ⟨w, p, l, e, R, s, m, args, below, meth, c⟩ := G
  obtain ⟨hx, hb, hml, hown, hts, hSS, hlk, hret, hR⟩ := h
  intro H locs ls hl hP hS
  have ho1 := kd_lt (k := o) (by rw [ho]; decide)
  rw [rv_lt ho1]
  have hw := WL_at (w := w) (M := M) ho1
  rw [ent_20 ho] at hw
  subst hn
  exact va_alen hx hb hSS.1 hP o 0 hw rfl hz hd (k H locs ls hl hP hS)
theorem g_alen {G : GX} {Q : State → Prop} {kc ks pc nL : Nat} {lv : List (Nat × Value)} {st : List Value} {M : Mem} {b : ByteArray} {own : String} {ret : Option FieldType} {rm : Room} (h : OKm G b own nL ret rm) {o : Nat} (n : Nat) {z : Int32} (ho : kd o = 24) (hn : ln o = n) (hz : Int32.ofNat n = z) (hd : decode b pc = .ok (.arraylength, 1)) (k : GG G Q kc ks (pc + 1) lv (.int z :: st) M) : GG G Q kc ks pc lv (rv G.1 o :: st) M := by
  obtain ⟨w, p, l, e, R, s, m, args, below, meth, c⟩ := G
  obtain ⟨hx, hb, hml, hown, hts, hSS, hlk, hret, hR⟩ := h
  intro H locs ls hl hP hS
  have ho1 := kd_lt (k := o) (by rw [ho]; decide)
  rw [rv_lt ho1]
  have hw := WL_at (w := w) (M := M) ho1
  rw [ent_24 ho] at hw
  subst hn
  exact va_alen hx hb hSS.1 hP o 4 hw rfl hz hd (k H locs ls hl hP hS)
theorem g_blen {G : GX} {Q : State → Prop} {kc ks pc nL : Nat} {lv : List (Nat × Value)} {st : List Value} {M : Mem} {b : ByteArray} {own : String} {ret : Option FieldType} {rm : Room} (h : OKm G b own nL ret rm) {o : Nat} (n : Nat) {z : Int32} (ho : kd o = 21) (hn : ln o = n) (hz : Int32.ofNat n = z) (hd : decode b pc = .ok (.arraylength, 1)) (k : GG G Q kc ks (pc + 1) lv (.int z :: st) M) : GG G Q kc ks pc lv (rv G.1 o :: st) M := by
  obtain ⟨w, p, l, e, R, s, m, args, below, meth, c⟩ := G
  obtain ⟨hx, hb, hml, hown, hts, hSS, hlk, hret, hR⟩ := h
  intro H locs ls hl hP hS
  have ho1 := kd_lt (k := o) (by rw [ho]; decide)
  rw [rv_lt ho1]
  have hw := WL_at (w := w) (M := M) ho1
  rw [ent_21 ho] at hw
  subst hn
  exact va_alen hx hb hSS.1 hP o 1 hw rfl hz hd (k H locs ls hl hP hS)
theorem g_llen {G : GX} {Q : State → Prop} {kc ks pc nL : Nat} {lv : List (Nat × Value)} {st : List Value} {M : Mem} {b : ByteArray} {own : String} {ret : Option FieldType} {rm : Room} (h : OKm G b own nL ret rm) {o : Nat} (n : Nat) {z : Int32} (ho : kd o = 22) (hn : ln o = n) (hz : Int32.ofNat n = z) (hd : decode b pc = .ok (.arraylength, 1)) (k : GG G Q kc ks (pc + 1) lv (.int z :: st) M) : GG G Q kc ks pc lv (rv G.1 o :: st) M := by
  obtain ⟨w, p, l, e, R, s, m, args, below, meth, c⟩ := G
  obtain ⟨hx, hb, hml, hown, hts, hSS, hlk, hret, hR⟩ := h
  intro H locs ls hl hP hS
  have ho1 := kd_lt (k := o) (by rw [ho]; decide)
  rw [rv_lt ho1]
  have hw := WL_at (w := w) (M := M) ho1
  rw [ent_22 ho] at hw
  subst hn
  exact va_alen hx hb hSS.1 hP o 2 hw rfl hz hd (k H locs ls hl hP hS)
theorem g_iret {G : GX} {kc ks pc nL : Nat} {lv : List (Nat × Value)} {M : Mem} {b : ByteArray} {own : String} {ret : Option FieldType} {rm : Room} (h : OKm G b own nL ret rm) {post : Option Value → Mem → Prop} {mc ms : Nat} {x : Int32} (hrt : ret = some .int) (hp : post (some (.int x)) M) (hkc : kc ≤ mc) (hks : ks ≤ ms) (hd : decode b pc = .ok (.ireturn, 1)) : GG G (Qm G post mc ms) kc ks pc lv [.int x] M := by
  obtain ⟨w, p, l, e, R, s, m, args, below, meth, c⟩ := G
  obtain ⟨hx, hb, hml, hown, hts, hSS, hlk, hret, hR⟩ := h
  intro H locs ls hl hP hS
  refine W.widen hkc hks ?_
  exact W.iret hx hb (hret.trans hrt) (fun t ht hW => ⟨⟨_, M, rfl, hp, by rw [ht]; exact hP⟩, hS.F ht⟩) hS.2.2 hd hlk
theorem g_zret {G : GX} {kc ks pc nL : Nat} {lv : List (Nat × Value)} {M : Mem} {b : ByteArray} {own : String} {ret : Option FieldType} {rm : Room} (h : OKm G b own nL ret rm) {post : Option Value → Mem → Prop} {mc ms : Nat} {x : Int32} (hz : x = 0 ∨ x = 1) (hrt : ret = some .boolean) (hp : post (some (.int x)) M) (hkc : kc ≤ mc) (hks : ks ≤ ms) (hd : decode b pc = .ok (.ireturn, 1)) : GG G (Qm G post mc ms) kc ks pc lv [.int x] M := by
  obtain ⟨w, p, l, e, R, s, m, args, below, meth, c⟩ := G
  obtain ⟨hx, hb, hml, hown, hts, hSS, hlk, hret, hR⟩ := h
  intro H locs ls hl hP hS
  refine W.widen hkc hks ?_
  exact W.zret hx hb (hret.trans hrt) (by rcases hz with rfl | rfl <;> rfl) (fun t ht hW => ⟨⟨_, M, rfl, hp, by rw [ht]; exact hP⟩, hS.F ht⟩) hS.2.2 hd hlk
theorem g_lret {G : GX} {kc ks pc nL : Nat} {lv : List (Nat × Value)} {M : Mem} {b : ByteArray} {own : String} {ret : Option FieldType} {rm : Room} (h : OKm G b own nL ret rm) {post : Option Value → Mem → Prop} {mc ms : Nat} {x : Int64} (hrt : ret = some .long) (hp : post (some (.long x)) M) (hkc : kc ≤ mc) (hks : ks ≤ ms) (hd : decode b pc = .ok (.lreturn, 1)) : GG G (Qm G post mc ms) kc ks pc lv [.long x] M := by
  obtain ⟨w, p, l, e, R, s, m, args, below, meth, c⟩ := G
  obtain ⟨hx, hb, hml, hown, hts, hSS, hlk, hret, hR⟩ := h
  intro H locs ls hl hP hS
  refine W.widen hkc hks ?_
  exact W.lret hx hb (hret.trans hrt) (fun t ht hW => ⟨⟨_, M, rfl, hp, by rw [ht]; exact hP⟩, hS.F ht⟩) hS.2.2 hd hlk
theorem g_vret {G : GX} {kc ks pc nL : Nat} {lv : List (Nat × Value)} {M : Mem} {b : ByteArray} {own : String} {ret : Option FieldType} {rm : Room} (h : OKm G b own nL ret rm) {post : Option Value → Mem → Prop} {mc ms : Nat} (hrt : ret = none) (hp : post none M) (hkc : kc ≤ mc) (hks : ks ≤ ms) (hd : decode b pc = .ok (.return_, 1)) : GG G (Qm G post mc ms) kc ks pc lv [] M := by
  obtain ⟨w, p, l, e, R, s, m, args, below, meth, c⟩ := G
  obtain ⟨hx, hb, hml, hown, hts, hSS, hlk, hret, hR⟩ := h
  intro H locs ls hl hP hS
  refine W.widen hkc hks ?_
  exact W.vret hx hb (hret.trans hrt) (fun t ht hW => ⟨⟨_, M, rfl, hp, by rw [ht]; exact hP⟩, hS.F ht⟩) hS.2.2 hd hlk
theorem g_back {w : WX} {p : Program} {l : Launch} {e : Env} {R : Room} {s : State} {m : MethodId} {args : Array Value} {below : List Frame} {meth : Method} {c : Code} {H : Heap} {locs : List Loc} {kc ks mc ms pc : Nat} {Q : State → Prop} {ls : Array Slot} {lv : List (Nat × Value)} {rest st0 : List Value} {a : Array Value} {post : Option Value → Mem → Prop}
    (hr : va_Run p l e R s m args below meth c H locs kc ks mc ms (F0 m pc ls st0) rest (QQ w post a) (AA w)) (hS : va_S (AA w) s.heap H locs) (hl : lv_has ls c.maxLocals lv)
    (kk : ∀ (z : Option Value) (M1 : Mem), post z M1 → GG (w, p, l, e, R, s, m, args, below, meth, c) Q (kc + mc) (ks + ms) (pc + 3) lv (z.toList ++ rest) M1) : W p l e R s m args below meth c H locs kc ks Q (F0 m pc ls st0) := by
  intro T hT X
  obtain ⟨z, st₀, t, T', L, h0, X', hL, e1, e2, ⟨⟨z', M1, hv, hp, hW⟩, hz, hk⟩, st⟩ := hr T hT X
  cases hv
  rw [h0] at hz hk
  obtain ⟨t2, a1, b1⟩ := kk z M1 hp T'.heap (locs ++ L) ls hl (by rw [e1]; exact hW)
    ⟨Nat.le_trans hS.1 (by rw [e1]; exact hz), fun q h1 h2 => by rw [e1, hk q (Nat.lt_of_lt_of_le h1 hS.1) h2]; exact hS.2.1 q h1 h2, fun q hq => by
      rcases List.mem_append.mp hq with h | h
      · exact hS.2.2 q h
      · exact hL q h⟩ T' rfl X'
  exact ⟨t2, st t2 a1, b1⟩
theorem g_callV {G : GX} {Q : State → Prop} {kc ks pc nL : Nat} {lv : List (Nat × Value)} {st : List Value} {M : Mem} {b : ByteArray} {own : String} {ret : Option FieldType} {rm : Room} (h : OKm G b own nL ret rm) {o : Nat} {ci : Nat} {fs : List Value} {T : u_T} {N : Nat} {idx n maxL mc ms : Nat} {y : MethodName} {bytes : ByteArray} {ret1 : Option FieldType} {rm1 : Room} {As rest : List Value} {post : Option Value → Mem → Prop} (hce : CE y bytes maxL ret1 n) (hmk : Cond.methodLink own idx y ∈ LW) (hin : Cond.instanceMethod y ∈ LW) (hse : ∀ x ∈ [Cond.selects y.cls y y], x ∈ lw_tbl) (hc : vwCl[ci]? = some (y.cls, T, N)) (ho : o < KN) (he : ent G.1 M o = .inr (ci, fs)) (hrc : rm1.cells = mc) (hrs : rm1.slots = ms) (hRR : rm1.frames + 1 ≤ rm.frames ∧ 8 + (maxL + 11) + rm1.locals ≤ rm.locals) (hroom : kc + mc ≤ rm.cells ∧ ks + ms ≤ rm.slots) (hn : As.length = n) (hd : decode b pc = .ok (.invokevirtual idx, 3)) (hst : st = As.reverse ++ rv G.1 o :: rest) (hcat : (rest.map fun v => v.category).sum ≤ 8) (cm : CM G.2.2.1 G.1 y bytes maxL ret1 rm1 mc ms (rv G.1 o :: As) M post) (kk : ∀ (z : Option Value) (M1 : Mem), post z M1 → GG G Q (kc + mc) (ks + ms) (pc + 3) lv (z.toList ++ rest) M1) : GG G Q kc ks pc lv st M := by
  obtain ⟨w, p, l, e, R, s, m, args, below, meth, c⟩ := G
  obtain ⟨hx, hb, hml, hown, hts, hSS, hlk, hret, hR⟩ := h
  obtain ⟨hco, hini, hy1, hy2, hpar⟩ := hce
  intro H locs ls hl hP hS
  subst hR
  subst hst
  have hw := WL_at (w := w) (M := M) ho
  rw [show ent w M o = _ from he] at hw
  have cw : CallB R s args own idx y bytes maxL ret1 (Cond.code y bytes maxL ret1 :: LW) rm1 mc ms n := callB_of n hts (LW_in hco) rfl hrc hrs (hts _ hini) (hts _ hmk) ⟨hy1, hy2, hpar⟩ hRR
  have hsel : (Cond.selects y.cls y y).before args s = true := hts _ (List.mem_filter.mpr ⟨hse _ List.mem_cons_self, rfl⟩)
  refine g_back (va_runV (As := As) (rest := rest) (b := w.1 + o) ⟨hx, hb, hml, hown, hts⟩ cm ⟨cw, hts _ hin, hsel⟩ ⟨CM_blind, va_recv hSS.1 hP hc hw, fun U hU hW => ⟨by rw [rv_lt ho], by rw [hU]; exact hP, hSS.to hW hS hU⟩⟩ rfl hn (hl.1.trans hml) (by rw [rv_lt ho]) (lv_room hcat) hd hroom) hS hl kk
theorem g_callS {G : GX} {Q : State → Prop} {kc ks pc nL : Nat} {lv : List (Nat × Value)} {st : List Value} {M : Mem} {b : ByteArray} {own : String} {ret : Option FieldType} {rm : Room} (h : OKm G b own nL ret rm) {idx n maxL mc ms : Nat} {y : MethodName} {bytes : ByteArray} {ret1 : Option FieldType} {rm1 : Room} {As rest : List Value} {post : Option Value → Mem → Prop} (hce : CE y bytes maxL ret1 n) (hmk : Cond.methodLink own idx y ∈ LW) (hst0 : Cond.static y ∈ LW) (hrc : rm1.cells = mc) (hrs : rm1.slots = ms) (hRR : rm1.frames + 1 ≤ rm.frames ∧ 8 + (maxL + 11) + rm1.locals ≤ rm.locals) (hroom : kc + mc ≤ rm.cells ∧ ks + ms ≤ rm.slots) (hn : As.length = n) (hd : decode b pc = .ok (.invokestatic idx, 3)) (hst : st = As.reverse ++ rest) (hcat : (rest.map fun v => v.category).sum ≤ 8) (cm : CM G.2.2.1 G.1 y bytes maxL ret1 rm1 mc ms As M post) (kk : ∀ (z : Option Value) (M1 : Mem), post z M1 → GG G Q (kc + mc) (ks + ms) (pc + 3) lv (z.toList ++ rest) M1) : GG G Q kc ks pc lv st M := by
  obtain ⟨w, p, l, e, R, s, m, args, below, meth, c⟩ := G
  obtain ⟨hx, hb, hml, hown, hts, hSS, hlk, hret, hR⟩ := h
  obtain ⟨hco, hini, hy1, hy2, hpar⟩ := hce
  intro H locs ls hl hP hS
  subst hR
  subst hst
  have cw : CallB R s args own idx y bytes maxL ret1 (Cond.code y bytes maxL ret1 :: LW) rm1 mc ms n := callB_of n hts (LW_in hco) rfl hrc hrs (hts _ hini) (hts _ hmk) ⟨hy1, hy2, hpar⟩ hRR
  refine g_back (va_runS (As := As) (rest := rest) ⟨hx, hb, hml, hown, hts⟩ cm ⟨cw, hts _ hst0⟩ ⟨CM_blind, fun U hU hW => ⟨rfl, by rw [hU]; exact hP, hSS.to hW hS hU⟩⟩ rfl hn (hl.1.trans hml) rfl (lv_room hcat) hd hroom) hS hl kk
theorem g_mmin {G : GX} {Q : State → Prop} {kc ks pc nL : Nat} {lv : List (Nat × Value)} {st : List Value} {M : Mem} {b : ByteArray} {own : String} {ret : Option FieldType} {rm : Room} (h : OKm G b own nL ret rm) {idx : Nat} {x y : Int32} (hm : Cond.methodLink own idx Lib.Math.min.name ∈ LW) (hs0 : Cond.static Lib.Math.min.name ∈ LW) (hi : Cond.initialized "java/lang/Math" ∈ LW) (hco : Cond.code Lib.Math.min.name Lib.Math.min.code 2 (some .int) ∈ LW) (hr1 : 1 ≤ rm.frames) (hr2 : (st.map fun v => v.category).sum + 13 ≤ rm.locals) (hr3 : kc ≤ rm.cells) (hr4 : ks ≤ rm.slots) (hd : decode b pc = .ok (.invokestatic idx, 3)) (k : GG G Q kc ks (pc + 3) lv (.int (if y < x then y else x) :: st) M) : GG G Q kc ks pc lv (.int y :: .int x :: st) M := by
  obtain ⟨w, p, l, e, R, s, m, args, below, meth, c⟩ := G
  obtain ⟨hx, hb, hml, hown, hts, hSS, hlk, hret, hR⟩ := h
  intro H locs ls hl hP hS
  subst hR; exact va_mmin hx hb (hl.1.symm) hown (hts _ hm) (hts _ hs0) (hts _ hi) (hts _ hco) hr1 hr2 hr3 hr4 hd (k H locs ls hl hP hS)
theorem g_mmax {G : GX} {Q : State → Prop} {kc ks pc nL : Nat} {lv : List (Nat × Value)} {st : List Value} {M : Mem} {b : ByteArray} {own : String} {ret : Option FieldType} {rm : Room} (h : OKm G b own nL ret rm) {idx : Nat} {x y : Int32} (hm : Cond.methodLink own idx Lib.Math.max.name ∈ LW) (hs0 : Cond.static Lib.Math.max.name ∈ LW) (hi : Cond.initialized "java/lang/Math" ∈ LW) (hco : Cond.code Lib.Math.max.name Lib.Math.max.code 2 (some .int) ∈ LW) (hr1 : 1 ≤ rm.frames) (hr2 : (st.map fun v => v.category).sum + 13 ≤ rm.locals) (hr3 : kc ≤ rm.cells) (hr4 : ks ≤ rm.slots) (hd : decode b pc = .ok (.invokestatic idx, 3)) (k : GG G Q kc ks (pc + 3) lv (.int (if x < y then y else x) :: st) M) : GG G Q kc ks pc lv (.int y :: .int x :: st) M := by
  obtain ⟨w, p, l, e, R, s, m, args, below, meth, c⟩ := G
  obtain ⟨hx, hb, hml, hown, hts, hSS, hlk, hret, hR⟩ := h
  intro H locs ls hl hP hS
  subst hR; exact va_mmax hx hb (hl.1.symm) hown (hts _ hm) (hts _ hs0) (hts _ hi) (hts _ hco) hr1 hr2 hr3 hr4 hd (k H locs ls hl hP hS)
theorem g_mabs {G : GX} {Q : State → Prop} {kc ks pc nL : Nat} {lv : List (Nat × Value)} {st : List Value} {M : Mem} {b : ByteArray} {own : String} {ret : Option FieldType} {rm : Room} (h : OKm G b own nL ret rm) {idx : Nat} {x : Int32} (hm : Cond.methodLink own idx Lib.Math.abs.name ∈ LW) (hs0 : Cond.static Lib.Math.abs.name ∈ LW) (hi : Cond.initialized "java/lang/Math" ∈ LW) (hco : Cond.code Lib.Math.abs.name Lib.Math.abs.code 1 (some .int) ∈ LW) (hr1 : 1 ≤ rm.frames) (hr2 : (st.map fun v => v.category).sum + 13 ≤ rm.locals) (hr3 : kc ≤ rm.cells) (hr4 : ks ≤ rm.slots) (hd : decode b pc = .ok (.invokestatic idx, 3)) (k : GG G Q kc ks (pc + 3) lv (.int (if 0 ≤ x then x else 0 - x) :: st) M) : GG G Q kc ks pc lv (.int x :: st) M := by
  obtain ⟨w, p, l, e, R, s, m, args, below, meth, c⟩ := G
  obtain ⟨hx, hb, hml, hown, hts, hSS, hlk, hret, hR⟩ := h
  intro H locs ls hl hP hS
  subst hR; exact va_mabs hx hb (hl.1.symm) hown (hts _ hm) (hts _ hs0) (hts _ hi) (hts _ hco) hr1 hr2 hr3 hr4 hd (k H locs ls hl hP hS)
theorem g_copy {G : GX} {Q : State → Prop} {kc ks pc nL : Nat} {lv : List (Nat × Value)} {st : List Value} {M : Mem} {b : ByteArray} {own : String} {ret : Option FieldType} {rm : Room} (h : OKm G b own nL ret rm) {o : Nat} {a na nc idx : Nat} {sp dp n : Int32} {β : Type} {kf : Mem → Option β} {res : β} (hm : Cond.methodLink own idx arraycopyName ∈ LW) (hna : Cond.native arraycopyName ∈ LW) (hs0 : Cond.static arraycopyName ∈ LW) (hi : Cond.initialized "java/lang/System" ∈ LW) (ha : kd a = 20) (hla : ln a = na) (ho : kd o = 20) (hlo : ln o = nc) (hf : cpI M a na sp o nc dp n kf = some res) (hr1 : 1 ≤ rm.frames) (hr2 : (st.map fun v => v.category).sum + (nativeFrameWords "java/lang/System" "arraycopy" 5 + 11) ≤ rm.locals) (hd : decode b pc = .ok (.invokestatic idx, 3)) (kk : ∀ M1, kf M1 = some res → GG G Q kc ks (pc + 3) lv st M1) : GG G Q kc ks pc lv (.int n :: .int dp :: rv G.1 o :: .int sp :: rv G.1 a :: st) M := by
  obtain ⟨w, p, l, e, R, s, m, args, below, meth, c⟩ := G
  obtain ⟨hx, hb, hml, hown, hts, hSS, hlk, hret, hR⟩ := h
  intro H locs ls hl hP hS
  subst hR
  have ho1 := kd_lt (k := o) (by rw [ho]; decide)
  have ha1 := kd_lt (k := a) (by rw [ha]; decide)
  rw [rv_lt ho1, rv_lt ha1]
  have hw := WL_at (w := w) (M := M) ho1
  have hv := WL_at (w := w) (M := M) ha1
  rw [ent_20 ho] at hw
  rw [ent_20 ha] at hv
  obtain ⟨hin, hk⟩ := pre_if hf
  subst hla
  subst hlo
  refine va_copyi hx hb hl.1.symm hown (hts _ hm) (hts _ hna) (hts _ hs0) (hts _ hi) hSS.1 hP (WL_D w M) hS a o 0 0 hv hw rfl rfl rfl (fun q => hin (Or.inl q)) (fun q => hin (Or.inr (Or.inl q))) (fun q => hin (Or.inr (Or.inr (Or.inl q)))) (Nat.not_lt.mp fun q => hin (Or.inr (Or.inr (Or.inr (Or.inl q))))) (Nat.not_lt.mp fun q => hin (Or.inr (Or.inr (Or.inr (Or.inr q))))) (fun _ _ => rfl) hr1 hr2 hd (fun H1 locs1 hP1 hD1 hS1 => ?_)
  rw [WL_set (M' := aI M o (va_cpy (M.1 a) (M.1 o) sp.toNatClampNeg dp.toNatClampNeg n.toNatClampNeg)) ho1 (by rw [ent_aI_s]; unfold entK; rw [ho]; rfl) (fun j hj => ent_aI hj)] at hP1
  exact kk _ hk H1 locs1 ls hl hP1 hS1
