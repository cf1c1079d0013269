/-- a reference that may be null: 0, or 1 more than its number -/
def rc (w : WX) (i : Nat) : Value := if i = 0 then .null else rv w (i - 1)
theorem rc_s {w : WX} {i : Nat} : rc w (i + 1) = rv w i := by unfold rc; rw [if_neg (by omega), Nat.add_sub_cancel]
def entCK (w : WX) (k : Nat) (fI : Nat → Int32) (fL : Nat → Int64) (fR : Nat → Nat) : va_E := match kd k with
  | 0 => .inr (0, (.int (fI 0)) :: (rc w (fR 1)) :: [])
  | 1 => .inr (1, (rc w (fR 0)) :: (rc w (fR 1)) :: (rc w (fR 2)) :: (.int (fI 3)) :: (rc w (fR 4)) :: (rc w (fR 5)) :: (rc w (fR 6)) :: (rc w (fR 7)) :: (rc w (fR 8)) :: [])
  | 2 => .inr (2, (.int (fI 0)) :: (.int (fI 1)) :: (.int (fI 2)) :: (.int (fI 3)) :: (.int (fI 4)) :: (.int (fI 5)) :: (.int (fI 6)) :: (.int (fI 7)) :: (.int (fI 8)) :: (rc w (fR 9)) :: (rc w (fR 10)) :: (rc w (fR 11)) :: (rc w (fR 12)) :: [])
  | 3 => .inr (3, (.int (fI 0)) :: (rc w (fR 1)) :: (rc w (fR 2)) :: [])
  | 4 => .inr (4, (.int (fI 0)) :: (rc w (fR 1)) :: (rc w (fR 2)) :: (rc w (fR 3)) :: (rc w (fR 4)) :: (rc w (fR 5)) :: (.int (fI 6)) :: (rc w (fR 7)) :: (.int (fI 8)) :: (rc w (fR 9)) :: (rc w (fR 10)) :: (rc w (fR 11)) :: (rc w (fR 12)) :: (rc w (fR 13)) :: [])
  | 5 => .inr (5, (rc w (fR 0)) :: (rc w (fR 1)) :: (rc w (fR 2)) :: (.int (fI 3)) :: (.int (fI 4)) :: (.int (fI 5)) :: (rc w (fR 6)) :: (rc w (fR 7)) :: [])
  | 6 => .inr (6, (rc w (fR 0)) :: (rc w (fR 1)) :: (rc w (fR 2)) :: (rc w (fR 3)) :: [])
  | 7 => .inr (7, (rc w (fR 0)) :: (.int (fI 1)) :: (.int (fI 2)) :: (.int (fI 3)) :: [])
  | 8 => .inr (8, (.int (fI 0)) :: (rc w (fR 1)) :: (rc w (fR 2)) :: [])
  | 9 => .inr (9, (rc w (fR 0)) :: (.int (fI 1)) :: (.int (fI 2)) :: (.int (fI 3)) :: (.int (fI 4)) :: (.int (fI 5)) :: (rc w (fR 6)) :: [])
  | 10 => .inr (10, (rc w (fR 0)) :: (.int (fI 1)) :: (.int (fI 2)) :: (rc w (fR 3)) :: (rc w (fR 4)) :: (rc w (fR 5)) :: (rc w (fR 6)) :: (rc w (fR 7)) :: (rc w (fR 8)) :: (rc w (fR 9)) :: (rc w (fR 10)) :: (.int (fI 11)) :: (rc w (fR 12)) :: (rc w (fR 13)) :: (rc w (fR 14)) :: (rc w (fR 15)) :: [])
  | 11 => .inr (11, (.int (fI 0)) :: (.int (fI 1)) :: (.int (fI 2)) :: (.int (fI 3)) :: (.int (fI 4)) :: (.int (fI 5)) :: (.int (fI 6)) :: (.int (fI 7)) :: (rc w (fR 8)) :: (rc w (fR 9)) :: (rc w (fR 10)) :: (rc w (fR 11)) :: (rc w (fR 12)) :: (rc w (fR 13)) :: (rc w (fR 14)) :: (rc w (fR 15)) :: (rc w (fR 16)) :: (rc w (fR 17)) :: (rc w (fR 18)) :: (rc w (fR 19)) :: (rc w (fR 20)) :: (.int (fI 21)) :: (.int (fI 22)) :: (.int (fI 23)) :: (rc w (fR 24)) :: (.int (fI 25)) :: (.int (fI 26)) :: (.int (fI 27)) :: (.int (fI 28)) :: (.int (fI 29)) :: (.int (fI 30)) :: (.int (fI 31)) :: (.long (fL 32)) :: (.int (fI 33)) :: (.int (fI 34)) :: (.int (fI 35)) :: (.int (fI 36)) :: (.int (fI 37)) :: (.int (fI 38)) :: (.int (fI 39)) :: (.int (fI 40)) :: (.int (fI 41)) :: (.int (fI 42)) :: (.int (fI 43)) :: (.int (fI 44)) :: (.int (fI 45)) :: (.int (fI 46)) :: (rc w (fR 47)) :: (rc w (fR 48)) :: (rc w (fR 49)) :: (rc w (fR 50)) :: (rc w (fR 51)) :: (rc w (fR 52)) :: (rc w (fR 53)) :: (rc w (fR 54)) :: (rc w (fR 55)) :: (rc w (fR 56)) :: (rc w (fR 57)) :: (rc w (fR 58)) :: (rc w (fR 59)) :: (rc w (fR 60)) :: (rc w (fR 61)) :: (rc w (fR 62)) :: (rc w (fR 63)) :: (.int (fI 64)) :: (rc w (fR 65)) :: (rc w (fR 66)) :: (.int (fI 67)) :: (rc w (fR 68)) :: (.int (fI 69)) :: (rc w (fR 70)) :: (rc w (fR 71)) :: (rc w (fR 72)) :: (.int (fI 73)) :: (.int (fI 74)) :: (.int (fI 75)) :: (.int (fI 76)) :: (rc w (fR 77)) :: (rc w (fR 78)) :: (rc w (fR 79)) :: [])
  | 20 => .inl (w.2.2.2 0, ln k, .inl fI)
  | 21 => .inl (w.2.2.2 1, ln k, .inl fI)
  | 22 => .inl (w.2.2.2 2, ln k, .inr (.inl fL))
  | 23 => .inl (w.2.2.2 3, ln k, .inl fI)
  | _ => .inl (w.2.2.2 4, ln k, .inr (.inr (.inr (.inr fun j => if fR j = 0 then none else some (w.1 + (fR j - 1))))))
def entC (w : WX) (M : Mem) (k : Nat) : va_E := entCK w k (M.1 k) (M.2.1 k) (M.2.2 k)
def WLC (w : WX) (n : Nat) (M : Mem) : va_W := (List.range n).map fun k => (w.1 + k, entC w M k)
def WC (w : WX) (n : Nat) (M : Mem) (H : Heap) : Prop := va_P w.2.2.1 vwCl (WLC w n M) H ∧ H.size = w.1 + n ∧ n ≤ KN
theorem WLC_at {w : WX} {n : Nat} {M : Mem} {k : Nat} (h : k < n) : (WLC w n M)[k]? = some (w.1 + k, entC w M k) := by
  unfold WLC
  rw [List.getElem?_map, List.getElem?_range h]
  rfl
theorem WLC_get {w : WX} {n : Nat} {M : Mem} {k : Nat} {q : Nat × va_E} (h : (WLC w n M)[k]? = some q) : q.1 = w.1 + k ∧ k < n := by
  unfold WLC at h
  rw [List.getElem?_map] at h
  rcases Nat.lt_or_ge k n with z | z
  · rw [List.getElem?_range z] at h
    cases h
    exact ⟨rfl, z⟩
  · rw [List.getElem?_eq_none (by rw [List.length_range]; exact z)] at h
    cases h
theorem WLC_D (w : WX) (n : Nat) (M : Mem) : va_D (AA w) (WLC w n M) := by
  refine ⟨fun i j p q hi hj e => ?_, fun k q h => ?_⟩
  · have h1 := (WLC_get hi).1
    have h2 := (WLC_get hj).1
    omega
  · have h1 := (WLC_get h).1
    show w.1 ≤ q.1
    omega
theorem WLC_set {w : WX} {n : Nat} {M M' : Mem} {k : Nat} {e : va_E} (h : k < n) (he : entC w M' k = e) (ho : ∀ j, j ≠ k → entC w M' j = entC w M j) : (WLC w n M).set k (w.1 + k, e) = WLC w n M' := by
  refine List.ext_getElem? fun j => ?_
  rw [List.getElem?_set]
  by_cases hj : k = j
  · subst hj
    rw [if_pos rfl, WLC_at h, he, if_pos (by unfold WLC; rw [List.length_map, List.length_range]; exact h)]
  · rw [if_neg hj]
    unfold WLC
    rw [List.getElem?_map, List.getElem?_map]
    rcases Nat.lt_or_ge j n with z | z
    · rw [List.getElem?_range z]
      show some (w.1 + j, entC w M j) = some (w.1 + j, entC w M' j)
      rw [ho j (fun q => hj q.symm)]
    · rw [List.getElem?_eq_none (by rw [List.length_range]; exact z)]
      rfl
/-- the new one: all of it as the machine makes it -/
def z3 (M : Mem) (k : Nat) : Mem := aR (aL (aI M k (fun _ => 0)) k (fun _ => 0)) k (fun _ => 0)
theorem entC_z3 {w : WX} {M : Mem} {k j : Nat} (h : j ≠ k) : entC w (z3 M k) j = entC w M j := by
  show entCK w j (va_up M.1 k _ j) (va_up M.2.1 k _ j) (va_up M.2.2 k _ j) = _
  rw [va_up_ne _ _ h, va_up_ne _ _ h, va_up_ne _ _ h]
  rfl
theorem entC_z3s {w : WX} {M : Mem} {k : Nat} : entC w (z3 M k) k = entCK w k (fun _ => 0) (fun _ => 0) (fun _ => 0) := by
  show entCK w k (va_up M.1 k _ k) (va_up M.2.1 k _ k) (va_up M.2.2 k _ k) = _
  rw [va_up_self, va_up_self, va_up_self]
theorem WLC_push {w : WX} {n : Nat} {M : Mem} {e : va_E} (he : entCK w n (fun _ => 0) (fun _ => 0) (fun _ => 0) = e) : WLC w n M ++ [(w.1 + n, e)] = WLC w (n + 1) (z3 M n) := by
  unfold WLC
  rw [List.range_succ, List.map_append]
  have h1 : (List.range n).map (fun k => (w.1 + k, entC w M k)) = (List.range n).map (fun k => (w.1 + k, entC w (z3 M n) k)) := by
    refine List.map_congr_left fun k hk => ?_
    rw [entC_z3 (Nat.ne_of_lt (List.mem_range.mp hk))]
  rw [h1]
  show _ = _ ++ [(w.1 + n, entC w (z3 M n) n)]
  rw [entC_z3s, he]
def GC (G : GX) (Q : State → Prop) (nn kc ks pc : Nat) (lv : List (Nat × Value)) (st : List Value) (M : Mem) : Prop := match G with
  | (w, p, l, e, R, s, m, args, below, meth, c) => ∀ (H : Heap) (locs : List Loc) (ls : Array Slot), lv_has ls c.maxLocals lv → WC w nn M H → va_S (AA w) s.heap H locs → W p l e R s m args below meth c H locs kc ks Q (F0 m pc ls st)
theorem h_iconst {G : GX} {Q : State → Prop} {nn kc ks pc nL : Nat} {lv : List (Nat × Value)} {st : List Value} {M : Mem} {b : ByteArray} {own : String} {ret : Option FieldType} {rm : Room} (h : OKm G b own nL ret rm) (n : Int) {v : Int32} (hv : Int32.ofInt n = v) (hd : decode b pc = .ok (.iconst n, 1)) (k : GC G Q nn kc ks (pc + 1) lv (.int v :: st) M) : GC G Q nn kc ks pc lv (st) M := by
  obtain ⟨w, p, l, e, R, s, m, args, below, meth, c⟩ := G
  obtain ⟨hx, hb, hml, hown, hts, hSS, hlk, hret, hR⟩ := h
  intro H locs ls hl hP hS
  exact lv_iconst hx hb hd hv (k H locs ls hl hP hS)
theorem h_bipush {G : GX} {Q : State → Prop} {nn kc ks pc nL : Nat} {lv : List (Nat × Value)} {st : List Value} {M : Mem} {b : ByteArray} {own : String} {ret : Option FieldType} {rm : Room} (h : OKm G b own nL ret rm) (n : Int) {v : Int32} (hv : (Int8.ofInt n).toInt32 = v) (hd : decode b pc = .ok (.bipush n, 2)) (k : GC G Q nn kc ks (pc + 2) lv (.int v :: st) M) : GC G Q nn kc ks pc lv (st) M := by
  obtain ⟨w, p, l, e, R, s, m, args, below, meth, c⟩ := G
  obtain ⟨hx, hb, hml, hown, hts, hSS, hlk, hret, hR⟩ := h
  intro H locs ls hl hP hS
  exact lv_bipush hx hb hd hv (k H locs ls hl hP hS)
theorem h_sipush {G : GX} {Q : State → Prop} {nn kc ks pc nL : Nat} {lv : List (Nat × Value)} {st : List Value} {M : Mem} {b : ByteArray} {own : String} {ret : Option FieldType} {rm : Room} (h : OKm G b own nL ret rm) (n : Int) {v : Int32} (hv : (Int16.ofInt n).toInt32 = v) (hd : decode b pc = .ok (.sipush n, 3)) (k : GC G Q nn kc ks (pc + 3) lv (.int v :: st) M) : GC G Q nn kc ks pc lv (st) M := by
  obtain ⟨w, p, l, e, R, s, m, args, below, meth, c⟩ := G
  obtain ⟨hx, hb, hml, hown, hts, hSS, hlk, hret, hR⟩ := h
  intro H locs ls hl hP hS
  exact lv_sipush hx hb hd hv (k H locs ls hl hP hS)
theorem h_lconst {G : GX} {Q : State → Prop} {nn kc ks pc nL : Nat} {lv : List (Nat × Value)} {st : List Value} {M : Mem} {b : ByteArray} {own : String} {ret : Option FieldType} {rm : Room} (h : OKm G b own nL ret rm) (n : Fin 2) {v : Int64} (hv : Int64.ofNat (n : Nat) = v) (hd : decode b pc = .ok (.lconst n, 1)) (k : GC G Q nn kc ks (pc + 1) lv (.long v :: st) M) : GC G Q nn kc ks pc lv (st) M := by
  obtain ⟨w, p, l, e, R, s, m, args, below, meth, c⟩ := G
  obtain ⟨hx, hb, hml, hown, hts, hSS, hlk, hret, hR⟩ := h
  intro H locs ls hl hP hS
  exact lv_lconst hx hb hd hv (k H locs ls hl hP hS)
theorem h_iload_n {G : GX} {Q : State → Prop} {nn kc ks pc nL : Nat} {lv : List (Nat × Value)} {st : List Value} {M : Mem} {b : ByteArray} {own : String} {ret : Option FieldType} {rm : Room} (h : OKm G b own nL ret rm) (q : Nat) {k4 : Fin 4} {x : Int32} (hq : lv[q]? = some ((k4 : Nat), .int x)) (hd : decode b pc = .ok (.iload_n k4, 1)) (k : GC G Q nn kc ks (pc + 1) lv (.int x :: st) M) : GC G Q nn kc ks pc lv (st) M := by
  obtain ⟨w, p, l, e, R, s, m, args, below, meth, c⟩ := G
  obtain ⟨hx, hb, hml, hown, hts, hSS, hlk, hret, hR⟩ := h
  intro H locs ls hl hP hS
  exact lv_iload_n hx hb hd rfl (lv_at hl q hq) (k H locs ls hl hP hS)
theorem h_iload {G : GX} {Q : State → Prop} {nn kc ks pc nL : Nat} {lv : List (Nat × Value)} {st : List Value} {M : Mem} {b : ByteArray} {own : String} {ret : Option FieldType} {rm : Room} (h : OKm G b own nL ret rm) (q : Nat) {i : Nat} {x : Int32} (hq : lv[q]? = some (i, .int x)) (hd : decode b pc = .ok (.iload i, 2)) (k : GC G Q nn kc ks (pc + 2) lv (.int x :: st) M) : GC G Q nn kc ks pc lv (st) M := by
  obtain ⟨w, p, l, e, R, s, m, args, below, meth, c⟩ := G
  obtain ⟨hx, hb, hml, hown, hts, hSS, hlk, hret, hR⟩ := h
  intro H locs ls hl hP hS
  exact lv_iload hx hb hd (lv_at hl q hq) (k H locs ls hl hP hS)
theorem h_lload_n {G : GX} {Q : State → Prop} {nn kc ks pc nL : Nat} {lv : List (Nat × Value)} {st : List Value} {M : Mem} {b : ByteArray} {own : String} {ret : Option FieldType} {rm : Room} (h : OKm G b own nL ret rm) (q : Nat) {k4 : Fin 4} {x : Int64} (hq : lv[q]? = some ((k4 : Nat), .long x)) (hd : decode b pc = .ok (.lload_n k4, 1)) (k : GC G Q nn kc ks (pc + 1) lv (.long x :: st) M) : GC G Q nn kc ks pc lv (st) M := by
  obtain ⟨w, p, l, e, R, s, m, args, below, meth, c⟩ := G
  obtain ⟨hx, hb, hml, hown, hts, hSS, hlk, hret, hR⟩ := h
  intro H locs ls hl hP hS
  exact lv_lload_n hx hb hd rfl (lv_at hl q hq) (k H locs ls hl hP hS)
theorem h_lload {G : GX} {Q : State → Prop} {nn kc ks pc nL : Nat} {lv : List (Nat × Value)} {st : List Value} {M : Mem} {b : ByteArray} {own : String} {ret : Option FieldType} {rm : Room} (h : OKm G b own nL ret rm) (q : Nat) {i : Nat} {x : Int64} (hq : lv[q]? = some (i, .long x)) (hd : decode b pc = .ok (.lload i, 2)) (k : GC G Q nn kc ks (pc + 2) lv (.long x :: st) M) : GC G Q nn kc ks pc lv (st) M := by
  obtain ⟨w, p, l, e, R, s, m, args, below, meth, c⟩ := G
  obtain ⟨hx, hb, hml, hown, hts, hSS, hlk, hret, hR⟩ := h
  intro H locs ls hl hP hS
  exact lv_lload hx hb hd (lv_at hl q hq) (k H locs ls hl hP hS)
theorem h_aload_n {G : GX} {Q : State → Prop} {nn kc ks pc nL : Nat} {lv : List (Nat × Value)} {st : List Value} {M : Mem} {b : ByteArray} {own : String} {ret : Option FieldType} {rm : Room} (h : OKm G b own nL ret rm) (q : Nat) {k4 : Fin 4} {i : Nat} (hq : lv[q]? = some ((k4 : Nat), rv G.1 i)) (hd : decode b pc = .ok (.aload_n k4, 1)) (k : GC G Q nn kc ks (pc + 1) lv (rv G.1 i :: st) M) : GC G Q nn kc ks pc lv (st) M := by
  obtain ⟨w, p, l, e, R, s, m, args, below, meth, c⟩ := G
  obtain ⟨hx, hb, hml, hown, hts, hSS, hlk, hret, hR⟩ := h
  intro H locs ls hl hP hS
  exact lv_aload_n hx hb hd rfl (lv_at hl q hq) (k H locs ls hl hP hS)
theorem h_aload {G : GX} {Q : State → Prop} {nn kc ks pc nL : Nat} {lv : List (Nat × Value)} {st : List Value} {M : Mem} {b : ByteArray} {own : String} {ret : Option FieldType} {rm : Room} (h : OKm G b own nL ret rm) (q : Nat) {i j : Nat} (hq : lv[q]? = some (j, rv G.1 i)) (hd : decode b pc = .ok (.aload j, 2)) (k : GC G Q nn kc ks (pc + 2) lv (rv G.1 i :: st) M) : GC G Q nn kc ks pc lv (st) M := by
  obtain ⟨w, p, l, e, R, s, m, args, below, meth, c⟩ := G
  obtain ⟨hx, hb, hml, hown, hts, hSS, hlk, hret, hR⟩ := h
  intro H locs ls hl hP hS
  exact lv_aload hx hb hd (lv_at hl q hq) (k H locs ls hl hP hS)
theorem h_istore_n {G : GX} {Q : State → Prop} {nn kc ks pc nL : Nat} {lv : List (Nat × Value)} {st : List Value} {M : Mem} {b : ByteArray} {own : String} {ret : Option FieldType} {rm : Room} (h : OKm G b own nL ret rm) {k4 : Fin 4} {i : Nat} {x : Int32} (hi : (k4 : Nat) = i) (lv' : List (Nat × Value)) (hn : i < nL) (hv : (i, Value.int x) :: lv.filter (fun q => !(q.1 == i) && !(q.1 + 1 == i && q.2.category == 2)) = lv') (hd : decode b pc = .ok (.istore_n k4, 1)) (k : GC G Q nn kc ks (pc + 1) lv' st M) : GC G Q nn kc ks pc lv (Value.int x :: st) M := by
  obtain ⟨w, p, l, e, R, s, m, args, below, meth, c⟩ := G
  obtain ⟨hx, hb, hml, hown, hts, hSS, hlk, hret, hR⟩ := h
  intro H locs ls hl hP hS
  exact lv_istore_n hx hb hd hi hl (by rw [hml]; exact hn) hv (fun ls hl => k H locs ls hl hP hS)
theorem h_istore {G : GX} {Q : State → Prop} {nn kc ks pc nL : Nat} {lv : List (Nat × Value)} {st : List Value} {M : Mem} {b : ByteArray} {own : String} {ret : Option FieldType} {rm : Room} (h : OKm G b own nL ret rm) {i : Nat} {x : Int32} (lv' : List (Nat × Value)) (hn : i < nL) (hv : (i, Value.int x) :: lv.filter (fun q => !(q.1 == i) && !(q.1 + 1 == i && q.2.category == 2)) = lv') (hd : decode b pc = .ok (.istore i, 2)) (k : GC G Q nn kc ks (pc + 2) lv' st M) : GC G Q nn kc ks pc lv (Value.int x :: st) M := by
  obtain ⟨w, p, l, e, R, s, m, args, below, meth, c⟩ := G
  obtain ⟨hx, hb, hml, hown, hts, hSS, hlk, hret, hR⟩ := h
  intro H locs ls hl hP hS
  exact lv_istore hx hb hd hl (by rw [hml]; exact hn) hv (fun ls hl => k H locs ls hl hP hS)
theorem h_lstore_n {G : GX} {Q : State → Prop} {nn kc ks pc nL : Nat} {lv : List (Nat × Value)} {st : List Value} {M : Mem} {b : ByteArray} {own : String} {ret : Option FieldType} {rm : Room} (h : OKm G b own nL ret rm) {k4 : Fin 4} {i : Nat} {x : Int64} (hi : (k4 : Nat) = i) (lv' : List (Nat × Value)) (hn : i + 1 < nL) (hv : (i, Value.long x) :: lv.filter (fun q => !(q.1 == i) && (!(q.1 == i + 1) && !(q.1 + 1 == i && q.2.category == 2))) = lv') (hd : decode b pc = .ok (.lstore_n k4, 1)) (k : GC G Q nn kc ks (pc + 1) lv' st M) : GC G Q nn kc ks pc lv (Value.long x :: st) M := by
  obtain ⟨w, p, l, e, R, s, m, args, below, meth, c⟩ := G
  obtain ⟨hx, hb, hml, hown, hts, hSS, hlk, hret, hR⟩ := h
  intro H locs ls hl hP hS
  exact lv_lstore_n hx hb hd hi hl (by rw [hml]; exact hn) hv (fun ls hl => k H locs ls hl hP hS)
theorem h_lstore {G : GX} {Q : State → Prop} {nn kc ks pc nL : Nat} {lv : List (Nat × Value)} {st : List Value} {M : Mem} {b : ByteArray} {own : String} {ret : Option FieldType} {rm : Room} (h : OKm G b own nL ret rm) {i : Nat} {x : Int64} (lv' : List (Nat × Value)) (hn : i + 1 < nL) (hv : (i, Value.long x) :: lv.filter (fun q => !(q.1 == i) && (!(q.1 == i + 1) && !(q.1 + 1 == i && q.2.category == 2))) = lv') (hd : decode b pc = .ok (.lstore i, 2)) (k : GC G Q nn kc ks (pc + 2) lv' st M) : GC G Q nn kc ks pc lv (Value.long x :: st) M := by
  obtain ⟨w, p, l, e, R, s, m, args, below, meth, c⟩ := G
  obtain ⟨hx, hb, hml, hown, hts, hSS, hlk, hret, hR⟩ := h
  intro H locs ls hl hP hS
  exact lv_lstore hx hb hd hl (by rw [hml]; exact hn) hv (fun ls hl => k H locs ls hl hP hS)
theorem h_astore_n {G : GX} {Q : State → Prop} {nn kc ks pc nL : Nat} {lv : List (Nat × Value)} {st : List Value} {M : Mem} {b : ByteArray} {own : String} {ret : Option FieldType} {rm : Room} (h : OKm G b own nL ret rm) {k4 : Fin 4} {i z : Nat} (hi : (k4 : Nat) = i) (lv' : List (Nat × Value)) (hn : i < nL) (hv : (i, rv G.1 z) :: lv.filter (fun q => !(q.1 == i) && !(q.1 + 1 == i && q.2.category == 2)) = lv') (hd : decode b pc = .ok (.astore_n k4, 1)) (k : GC G Q nn kc ks (pc + 1) lv' st M) : GC G Q nn kc ks pc lv (rv G.1 z :: st) M := by
  obtain ⟨w, p, l, e, R, s, m, args, below, meth, c⟩ := G
  obtain ⟨hx, hb, hml, hown, hts, hSS, hlk, hret, hR⟩ := h
  intro H locs ls hl hP hS
  exact lv_astore_n hx hb hd hi hl (by rw [hml]; exact hn) hv (fun ls hl => k H locs ls hl hP hS)
theorem h_astore {G : GX} {Q : State → Prop} {nn kc ks pc nL : Nat} {lv : List (Nat × Value)} {st : List Value} {M : Mem} {b : ByteArray} {own : String} {ret : Option FieldType} {rm : Room} (h : OKm G b own nL ret rm) {i z : Nat} (lv' : List (Nat × Value)) (hn : i < nL) (hv : (i, rv G.1 z) :: lv.filter (fun q => !(q.1 == i) && !(q.1 + 1 == i && q.2.category == 2)) = lv') (hd : decode b pc = .ok (.astore i, 2)) (k : GC G Q nn kc ks (pc + 2) lv' st M) : GC G Q nn kc ks pc lv (rv G.1 z :: st) M := by
  obtain ⟨w, p, l, e, R, s, m, args, below, meth, c⟩ := G
  obtain ⟨hx, hb, hml, hown, hts, hSS, hlk, hret, hR⟩ := h
  intro H locs ls hl hP hS
  exact lv_astore hx hb hd hl (by rw [hml]; exact hn) hv (fun ls hl => k H locs ls hl hP hS)
theorem h_iinc {G : GX} {Q : State → Prop} {nn kc ks pc nL : Nat} {lv : List (Nat × Value)} {st : List Value} {M : Mem} {b : ByteArray} {own : String} {ret : Option FieldType} {rm : Room} (h : OKm G b own nL ret rm) (i q : Nat) {n : Int} {x v : Int32} (hq : lv[q]? = some (i, .int x)) (hv0 : x + Int32.ofInt n = v) (lv' : List (Nat × Value)) (hn : i < nL) (hv : (i, Value.int v) :: lv.filter (fun q => !(q.1 == i) && !(q.1 + 1 == i && q.2.category == 2)) = lv') (hd : decode b pc = .ok (.iinc i n, 3)) (k : GC G Q nn kc ks (pc + 3) lv' st M) : GC G Q nn kc ks pc lv (st) M := by
  obtain ⟨w, p, l, e, R, s, m, args, below, meth, c⟩ := G
  obtain ⟨hx, hb, hml, hown, hts, hSS, hlk, hret, hR⟩ := h
  intro H locs ls hl hP hS
  exact lv_iinc hx hb hd hl hq hv0 (by rw [hml]; exact hn) hv (fun ls hl => k H locs ls hl hP hS)
theorem h_iadd {G : GX} {Q : State → Prop} {nn kc ks pc nL : Nat} {lv : List (Nat × Value)} {st : List Value} {M : Mem} {b : ByteArray} {own : String} {ret : Option FieldType} {rm : Room} (h : OKm G b own nL ret rm) {x y : Int32} (hd : decode b pc = .ok (.iadd, 1)) (k : GC G Q nn kc ks (pc + 1) lv (.int (x + y) :: st) M) : GC G Q nn kc ks pc lv (.int y :: .int x :: st) M := by
  obtain ⟨w, p, l, e, R, s, m, args, below, meth, c⟩ := G
  obtain ⟨hx, hb, hml, hown, hts, hSS, hlk, hret, hR⟩ := h
  intro H locs ls hl hP hS
  exact lv_iadd hx hb hd (k H locs ls hl hP hS)
theorem h_isub {G : GX} {Q : State → Prop} {nn kc ks pc nL : Nat} {lv : List (Nat × Value)} {st : List Value} {M : Mem} {b : ByteArray} {own : String} {ret : Option FieldType} {rm : Room} (h : OKm G b own nL ret rm) {x y : Int32} (hd : decode b pc = .ok (.isub, 1)) (k : GC G Q nn kc ks (pc + 1) lv (.int (x - y) :: st) M) : GC G Q nn kc ks pc lv (.int y :: .int x :: st) M := by
  obtain ⟨w, p, l, e, R, s, m, args, below, meth, c⟩ := G
  obtain ⟨hx, hb, hml, hown, hts, hSS, hlk, hret, hR⟩ := h
  intro H locs ls hl hP hS
  exact lv_isub hx hb hd (k H locs ls hl hP hS)
theorem h_imul {G : GX} {Q : State → Prop} {nn kc ks pc nL : Nat} {lv : List (Nat × Value)} {st : List Value} {M : Mem} {b : ByteArray} {own : String} {ret : Option FieldType} {rm : Room} (h : OKm G b own nL ret rm) {x y : Int32} (hd : decode b pc = .ok (.imul, 1)) (k : GC G Q nn kc ks (pc + 1) lv (.int (x * y) :: st) M) : GC G Q nn kc ks pc lv (.int y :: .int x :: st) M := by
  obtain ⟨w, p, l, e, R, s, m, args, below, meth, c⟩ := G
  obtain ⟨hx, hb, hml, hown, hts, hSS, hlk, hret, hR⟩ := h
  intro H locs ls hl hP hS
  exact lv_imul hx hb hd (k H locs ls hl hP hS)
theorem h_iand {G : GX} {Q : State → Prop} {nn kc ks pc nL : Nat} {lv : List (Nat × Value)} {st : List Value} {M : Mem} {b : ByteArray} {own : String} {ret : Option FieldType} {rm : Room} (h : OKm G b own nL ret rm) {x y : Int32} (hd : decode b pc = .ok (.iand, 1)) (k : GC G Q nn kc ks (pc + 1) lv (.int (x &&& y) :: st) M) : GC G Q nn kc ks pc lv (.int y :: .int x :: st) M := by
  obtain ⟨w, p, l, e, R, s, m, args, below, meth, c⟩ := G
  obtain ⟨hx, hb, hml, hown, hts, hSS, hlk, hret, hR⟩ := h
  intro H locs ls hl hP hS
  exact lv_iand hx hb hd (k H locs ls hl hP hS)
theorem h_ior {G : GX} {Q : State → Prop} {nn kc ks pc nL : Nat} {lv : List (Nat × Value)} {st : List Value} {M : Mem} {b : ByteArray} {own : String} {ret : Option FieldType} {rm : Room} (h : OKm G b own nL ret rm) {x y : Int32} (hd : decode b pc = .ok (.ior, 1)) (k : GC G Q nn kc ks (pc + 1) lv (.int (x ||| y) :: st) M) : GC G Q nn kc ks pc lv (.int y :: .int x :: st) M := by
  obtain ⟨w, p, l, e, R, s, m, args, below, meth, c⟩ := G
  obtain ⟨hx, hb, hml, hown, hts, hSS, hlk, hret, hR⟩ := h
  intro H locs ls hl hP hS
  exact lv_ior hx hb hd (k H locs ls hl hP hS)
theorem h_ixor {G : GX} {Q : State → Prop} {nn kc ks pc nL : Nat} {lv : List (Nat × Value)} {st : List Value} {M : Mem} {b : ByteArray} {own : String} {ret : Option FieldType} {rm : Room} (h : OKm G b own nL ret rm) {x y : Int32} (hd : decode b pc = .ok (.ixor, 1)) (k : GC G Q nn kc ks (pc + 1) lv (.int (x ^^^ y) :: st) M) : GC G Q nn kc ks pc lv (.int y :: .int x :: st) M := by
  obtain ⟨w, p, l, e, R, s, m, args, below, meth, c⟩ := G
  obtain ⟨hx, hb, hml, hown, hts, hSS, hlk, hret, hR⟩ := h
  intro H locs ls hl hP hS
  exact lv_ixor hx hb hd (k H locs ls hl hP hS)
theorem h_ishl {G : GX} {Q : State → Prop} {nn kc ks pc nL : Nat} {lv : List (Nat × Value)} {st : List Value} {M : Mem} {b : ByteArray} {own : String} {ret : Option FieldType} {rm : Room} (h : OKm G b own nL ret rm) {x y : Int32} (hd : decode b pc = .ok (.ishl, 1)) (k : GC G Q nn kc ks (pc + 1) lv (.int (x <<< (y &&& 31)) :: st) M) : GC G Q nn kc ks pc lv (.int y :: .int x :: st) M := by
  obtain ⟨w, p, l, e, R, s, m, args, below, meth, c⟩ := G
  obtain ⟨hx, hb, hml, hown, hts, hSS, hlk, hret, hR⟩ := h
  intro H locs ls hl hP hS
  exact lv_ishl hx hb hd (k H locs ls hl hP hS)
theorem h_ishr {G : GX} {Q : State → Prop} {nn kc ks pc nL : Nat} {lv : List (Nat × Value)} {st : List Value} {M : Mem} {b : ByteArray} {own : String} {ret : Option FieldType} {rm : Room} (h : OKm G b own nL ret rm) {x y : Int32} (hd : decode b pc = .ok (.ishr, 1)) (k : GC G Q nn kc ks (pc + 1) lv (.int (x >>> (y &&& 31)) :: st) M) : GC G Q nn kc ks pc lv (.int y :: .int x :: st) M := by
  obtain ⟨w, p, l, e, R, s, m, args, below, meth, c⟩ := G
  obtain ⟨hx, hb, hml, hown, hts, hSS, hlk, hret, hR⟩ := h
  intro H locs ls hl hP hS
  exact lv_ishr hx hb hd (k H locs ls hl hP hS)
theorem h_ladd {G : GX} {Q : State → Prop} {nn kc ks pc nL : Nat} {lv : List (Nat × Value)} {st : List Value} {M : Mem} {b : ByteArray} {own : String} {ret : Option FieldType} {rm : Room} (h : OKm G b own nL ret rm) {x y : Int64} (hd : decode b pc = .ok (.ladd, 1)) (k : GC G Q nn kc ks (pc + 1) lv (.long (x + y) :: st) M) : GC G Q nn kc ks pc lv (.long y :: .long x :: st) M := by
  obtain ⟨w, p, l, e, R, s, m, args, below, meth, c⟩ := G
  obtain ⟨hx, hb, hml, hown, hts, hSS, hlk, hret, hR⟩ := h
  intro H locs ls hl hP hS
  exact lv_ladd hx hb hd (k H locs ls hl hP hS)
theorem h_lsub {G : GX} {Q : State → Prop} {nn kc ks pc nL : Nat} {lv : List (Nat × Value)} {st : List Value} {M : Mem} {b : ByteArray} {own : String} {ret : Option FieldType} {rm : Room} (h : OKm G b own nL ret rm) {x y : Int64} (hd : decode b pc = .ok (.lsub, 1)) (k : GC G Q nn kc ks (pc + 1) lv (.long (x - y) :: st) M) : GC G Q nn kc ks pc lv (.long y :: .long x :: st) M := by
  obtain ⟨w, p, l, e, R, s, m, args, below, meth, c⟩ := G
  obtain ⟨hx, hb, hml, hown, hts, hSS, hlk, hret, hR⟩ := h
  intro H locs ls hl hP hS
  exact lv_lsub hx hb hd (k H locs ls hl hP hS)
theorem h_lor {G : GX} {Q : State → Prop} {nn kc ks pc nL : Nat} {lv : List (Nat × Value)} {st : List Value} {M : Mem} {b : ByteArray} {own : String} {ret : Option FieldType} {rm : Room} (h : OKm G b own nL ret rm) {x y : Int64} (hd : decode b pc = .ok (.lor, 1)) (k : GC G Q nn kc ks (pc + 1) lv (.long (x ||| y) :: st) M) : GC G Q nn kc ks pc lv (.long y :: .long x :: st) M := by
  obtain ⟨w, p, l, e, R, s, m, args, below, meth, c⟩ := G
  obtain ⟨hx, hb, hml, hown, hts, hSS, hlk, hret, hR⟩ := h
  intro H locs ls hl hP hS
  exact lv_lor hx hb hd (k H locs ls hl hP hS)
theorem h_land {G : GX} {Q : State → Prop} {nn kc ks pc nL : Nat} {lv : List (Nat × Value)} {st : List Value} {M : Mem} {b : ByteArray} {own : String} {ret : Option FieldType} {rm : Room} (h : OKm G b own nL ret rm) {x y : Int64} (hd : decode b pc = .ok (.land, 1)) (k : GC G Q nn kc ks (pc + 1) lv (.long (x &&& y) :: st) M) : GC G Q nn kc ks pc lv (.long y :: .long x :: st) M := by
  obtain ⟨w, p, l, e, R, s, m, args, below, meth, c⟩ := G
  obtain ⟨hx, hb, hml, hown, hts, hSS, hlk, hret, hR⟩ := h
  intro H locs ls hl hP hS
  exact lv_land hx hb hd (k H locs ls hl hP hS)
theorem h_idiv {G : GX} {Q : State → Prop} {nn kc ks pc nL : Nat} {lv : List (Nat × Value)} {st : List Value} {M : Mem} {b : ByteArray} {own : String} {ret : Option FieldType} {rm : Room} (h : OKm G b own nL ret rm) {x y : Int32} (hne : ¬ y = 0) (hd : decode b pc = .ok (.idiv, 1)) (k : GC G Q nn kc ks (pc + 1) lv (.int (x / y) :: st) M) : GC G Q nn kc ks pc lv (.int y :: .int x :: st) M := by
  obtain ⟨w, p, l, e, R, s, m, args, below, meth, c⟩ := G
  obtain ⟨hx, hb, hml, hown, hts, hSS, hlk, hret, hR⟩ := h
  intro H locs ls hl hP hS
  exact lv_idiv hx hb hd hne (k H locs ls hl hP hS)
theorem h_irem {G : GX} {Q : State → Prop} {nn kc ks pc nL : Nat} {lv : List (Nat × Value)} {st : List Value} {M : Mem} {b : ByteArray} {own : String} {ret : Option FieldType} {rm : Room} (h : OKm G b own nL ret rm) {x y : Int32} (hne : ¬ y = 0) (hd : decode b pc = .ok (.irem, 1)) (k : GC G Q nn kc ks (pc + 1) lv (.int (x - x / y * y) :: st) M) : GC G Q nn kc ks pc lv (.int y :: .int x :: st) M := by
  obtain ⟨w, p, l, e, R, s, m, args, below, meth, c⟩ := G
  obtain ⟨hx, hb, hml, hown, hts, hSS, hlk, hret, hR⟩ := h
  intro H locs ls hl hP hS
  exact lv_irem hx hb hd hne (k H locs ls hl hP hS)
theorem h_iushr {G : GX} {Q : State → Prop} {nn kc ks pc nL : Nat} {lv : List (Nat × Value)} {st : List Value} {M : Mem} {b : ByteArray} {own : String} {ret : Option FieldType} {rm : Room} (h : OKm G b own nL ret rm) {x y : Int32} (hd : decode b pc = .ok (.iushr, 1)) (k : GC G Q nn kc ks (pc + 1) lv (.int (x.toUInt32 >>> (y.toUInt32 &&& Int32.toUInt32 31)).toInt32 :: st) M) : GC G Q nn kc ks pc lv (.int y :: .int x :: st) M := by
  obtain ⟨w, p, l, e, R, s, m, args, below, meth, c⟩ := G
  obtain ⟨hx, hb, hml, hown, hts, hSS, hlk, hret, hR⟩ := h
  intro H locs ls hl hP hS
  exact lv_iushr hx hb hd rfl (k H locs ls hl hP hS)
theorem h_lshl {G : GX} {Q : State → Prop} {nn kc ks pc nL : Nat} {lv : List (Nat × Value)} {st : List Value} {M : Mem} {b : ByteArray} {own : String} {ret : Option FieldType} {rm : Room} (h : OKm G b own nL ret rm) {x : Int64} {y : Int32} (hd : decode b pc = .ok (.lshl, 1)) (k : GC G Q nn kc ks (pc + 1) lv (.long (x <<< (y.toInt64 &&& 63)) :: st) M) : GC G Q nn kc ks pc lv (.int y :: .long x :: st) M := by
  obtain ⟨w, p, l, e, R, s, m, args, below, meth, c⟩ := G
  obtain ⟨hx, hb, hml, hown, hts, hSS, hlk, hret, hR⟩ := h
  intro H locs ls hl hP hS
  exact lv_lshl hx hb hd rfl (k H locs ls hl hP hS)
theorem h_lcmp {G : GX} {Q : State → Prop} {nn kc ks pc nL : Nat} {lv : List (Nat × Value)} {st : List Value} {M : Mem} {b : ByteArray} {own : String} {ret : Option FieldType} {rm : Room} (h : OKm G b own nL ret rm) {x y : Int64} (hd : decode b pc = .ok (.lcmp, 1)) (k : GC G Q nn kc ks (pc + 1) lv (.int (lg_cmp x y) :: st) M) : GC G Q nn kc ks pc lv (.long y :: .long x :: st) M := by
  obtain ⟨w, p, l, e, R, s, m, args, below, meth, c⟩ := G
  obtain ⟨hx, hb, hml, hown, hts, hSS, hlk, hret, hR⟩ := h
  intro H locs ls hl hP hS
  exact W.lcmp hx hb hd (k H locs ls hl hP hS)
theorem h_ineg {G : GX} {Q : State → Prop} {nn kc ks pc nL : Nat} {lv : List (Nat × Value)} {st : List Value} {M : Mem} {b : ByteArray} {own : String} {ret : Option FieldType} {rm : Room} (h : OKm G b own nL ret rm) {x : Int32} (hd : decode b pc = .ok (.ineg, 1)) (k : GC G Q nn kc ks (pc + 1) lv (.int (-x) :: st) M) : GC G Q nn kc ks pc lv (.int x :: st) M := by
  obtain ⟨w, p, l, e, R, s, m, args, below, meth, c⟩ := G
  obtain ⟨hx, hb, hml, hown, hts, hSS, hlk, hret, hR⟩ := h
  intro H locs ls hl hP hS
  exact lv_ineg hx hb hd (k H locs ls hl hP hS)
theorem h_i2l {G : GX} {Q : State → Prop} {nn kc ks pc nL : Nat} {lv : List (Nat × Value)} {st : List Value} {M : Mem} {b : ByteArray} {own : String} {ret : Option FieldType} {rm : Room} (h : OKm G b own nL ret rm) {x : Int32} (hd : decode b pc = .ok (.i2l, 1)) (k : GC G Q nn kc ks (pc + 1) lv (.long x.toInt64 :: st) M) : GC G Q nn kc ks pc lv (.int x :: st) M := by
  obtain ⟨w, p, l, e, R, s, m, args, below, meth, c⟩ := G
  obtain ⟨hx, hb, hml, hown, hts, hSS, hlk, hret, hR⟩ := h
  intro H locs ls hl hP hS
  exact lv_i2l hx hb hd rfl (k H locs ls hl hP hS)
theorem h_i2b {G : GX} {Q : State → Prop} {nn kc ks pc nL : Nat} {lv : List (Nat × Value)} {st : List Value} {M : Mem} {b : ByteArray} {own : String} {ret : Option FieldType} {rm : Room} (h : OKm G b own nL ret rm) {x : Int32} (hd : decode b pc = .ok (.i2b, 1)) (k : GC G Q nn kc ks (pc + 1) lv (.int x.toInt8.toInt32 :: st) M) : GC G Q nn kc ks pc lv (.int x :: st) M := by
  obtain ⟨w, p, l, e, R, s, m, args, below, meth, c⟩ := G
  obtain ⟨hx, hb, hml, hown, hts, hSS, hlk, hret, hR⟩ := h
  intro H locs ls hl hP hS
  exact lv_i2b hx hb hd rfl (k H locs ls hl hP hS)
theorem h_i2c {G : GX} {Q : State → Prop} {nn kc ks pc nL : Nat} {lv : List (Nat × Value)} {st : List Value} {M : Mem} {b : ByteArray} {own : String} {ret : Option FieldType} {rm : Room} (h : OKm G b own nL ret rm) {x : Int32} (hd : decode b pc = .ok (.i2c, 1)) (k : GC G Q nn kc ks (pc + 1) lv (.int (x.toUInt32 % 65536).toInt32 :: st) M) : GC G Q nn kc ks pc lv (.int x :: st) M := by
  obtain ⟨w, p, l, e, R, s, m, args, below, meth, c⟩ := G
  obtain ⟨hx, hb, hml, hown, hts, hSS, hlk, hret, hR⟩ := h
  intro H locs ls hl hP hS
  exact lv_i2c hx hb hd rfl (k H locs ls hl hP hS)
theorem h_dup {G : GX} {Q : State → Prop} {nn kc ks pc nL : Nat} {lv : List (Nat × Value)} {st : List Value} {M : Mem} {b : ByteArray} {own : String} {ret : Option FieldType} {rm : Room} (h : OKm G b own nL ret rm) {x : Value} (hc : x.category = 1) (hd : decode b pc = .ok (.dup, 1)) (k : GC G Q nn kc ks (pc + 1) lv (x :: x :: st) M) : GC G Q nn kc ks pc lv (x :: st) M := by
  obtain ⟨w, p, l, e, R, s, m, args, below, meth, c⟩ := G
  obtain ⟨hx, hb, hml, hown, hts, hSS, hlk, hret, hR⟩ := h
  intro H locs ls hl hP hS
  exact lv_dup hx hb hd hc (k H locs ls hl hP hS)
theorem h_dup2 {G : GX} {Q : State → Prop} {nn kc ks pc nL : Nat} {lv : List (Nat × Value)} {st : List Value} {M : Mem} {b : ByteArray} {own : String} {ret : Option FieldType} {rm : Room} (h : OKm G b own nL ret rm) {x y : Value} (hc : x.category = 1) (hc2 : y.category = 1) (hd : decode b pc = .ok (.dup2, 1)) (k : GC G Q nn kc ks (pc + 1) lv (x :: y :: x :: y :: st) M) : GC G Q nn kc ks pc lv (x :: y :: st) M := by
  obtain ⟨w, p, l, e, R, s, m, args, below, meth, c⟩ := G
  obtain ⟨hx, hb, hml, hown, hts, hSS, hlk, hret, hR⟩ := h
  intro H locs ls hl hP hS
  exact lv_dup2_11 hx hb hd hc hc2 (k H locs ls hl hP hS)
theorem h_pop {G : GX} {Q : State → Prop} {nn kc ks pc nL : Nat} {lv : List (Nat × Value)} {st : List Value} {M : Mem} {b : ByteArray} {own : String} {ret : Option FieldType} {rm : Room} (h : OKm G b own nL ret rm) {x : Value} (hc : x.category = 1) (hd : decode b pc = .ok (.pop, 1)) (k : GC G Q nn kc ks (pc + 1) lv (st) M) : GC G Q nn kc ks pc lv (x :: st) M := by
  obtain ⟨w, p, l, e, R, s, m, args, below, meth, c⟩ := G
  obtain ⟨hx, hb, hml, hown, hts, hSS, hlk, hret, hR⟩ := h
  intro H locs ls hl hP hS
  exact lv_pop hx hb hd hc (k H locs ls hl hP hS)
theorem h_goto {G : GX} {Q : State → Prop} {nn kc ks pc nL : Nat} {lv : List (Nat × Value)} {st : List Value} {M : Mem} {b : ByteArray} {own : String} {ret : Option FieldType} {rm : Room} (h : OKm G b own nL ret rm) {off : Int} (tgt : Nat) (ht : (pc : Int) + off = (tgt : Int)) (hd : decode b pc = .ok (.goto off, 3)) (k : GC G Q nn kc ks tgt lv st M) : GC G Q nn kc ks pc lv (st) M := by
  obtain ⟨w, p, l, e, R, s, m, args, below, meth, c⟩ := G
  obtain ⟨hx, hb, hml, hown, hts, hSS, hlk, hret, hR⟩ := h
  intro H locs ls hl hP hS
  exact lv_goto hx hb hd ht (k H locs ls hl hP hS)
theorem h_if_eq {G : GX} {Q : State → Prop} {nn kc ks pc nL : Nat} {lv : List (Nat × Value)} {st : List Value} {M : Mem} {b : ByteArray} {own : String} {ret : Option FieldType} {rm : Room} (h : OKm G b own nL ret rm) {x : Int32} {β : Type} {A B : Option β} {res : β} {off : Int} (tgt : Nat) (ht : (pc : Int) + off = (tgt : Int)) (hf : (if x = 0 then A else B) = some res) (hd : decode b pc = .ok (.ifCond .eq off, 3)) (kt : A = some res → GC G Q nn kc ks tgt lv st M) (kf : B = some res → GC G Q nn kc ks (pc + 3) lv st M) : GC G Q nn kc ks pc lv (.int x :: st) M := by
  obtain ⟨w, p, l, e, R, s, m, args, below, meth, c⟩ := G
  obtain ⟨hx, hb, hml, hown, hts, hSS, hlk, hret, hR⟩ := h
  intro H locs ls hl hP hS
  exact lv_if_eq hx hb hd ht (fun z => kt (by rw [if_pos z] at hf; exact hf) H locs ls hl hP hS) (fun z => kf (by rw [if_neg z] at hf; exact hf) H locs ls hl hP hS)
theorem h_if_ne {G : GX} {Q : State → Prop} {nn kc ks pc nL : Nat} {lv : List (Nat × Value)} {st : List Value} {M : Mem} {b : ByteArray} {own : String} {ret : Option FieldType} {rm : Room} (h : OKm G b own nL ret rm) {x : Int32} {β : Type} {A B : Option β} {res : β} {off : Int} (tgt : Nat) (ht : (pc : Int) + off = (tgt : Int)) (hf : (if x = 0 then A else B) = some res) (hd : decode b pc = .ok (.ifCond .ne off, 3)) (kt : B = some res → GC G Q nn kc ks tgt lv st M) (kf : A = some res → GC G Q nn kc ks (pc + 3) lv st M) : GC G Q nn kc ks pc lv (.int x :: st) M := by
  obtain ⟨w, p, l, e, R, s, m, args, below, meth, c⟩ := G
  obtain ⟨hx, hb, hml, hown, hts, hSS, hlk, hret, hR⟩ := h
  intro H locs ls hl hP hS
  exact lv_if_ne hx hb hd ht (fun z => kt (by rw [if_neg z] at hf; exact hf) H locs ls hl hP hS) (fun z => kf (by rw [if_pos z] at hf; exact hf) H locs ls hl hP hS)
theorem h_if_lt {G : GX} {Q : State → Prop} {nn kc ks pc nL : Nat} {lv : List (Nat × Value)} {st : List Value} {M : Mem} {b : ByteArray} {own : String} {ret : Option FieldType} {rm : Room} (h : OKm G b own nL ret rm) {x : Int32} {β : Type} {A B : Option β} {res : β} {off : Int} (tgt : Nat) (ht : (pc : Int) + off = (tgt : Int)) (hf : (if x < 0 then A else B) = some res) (hd : decode b pc = .ok (.ifCond .lt off, 3)) (kt : A = some res → GC G Q nn kc ks tgt lv st M) (kf : B = some res → GC G Q nn kc ks (pc + 3) lv st M) : GC G Q nn kc ks pc lv (.int x :: st) M := by
  obtain ⟨w, p, l, e, R, s, m, args, below, meth, c⟩ := G
  obtain ⟨hx, hb, hml, hown, hts, hSS, hlk, hret, hR⟩ := h
  intro H locs ls hl hP hS
  exact lv_if_lt hx hb hd ht (fun z => kt (by rw [if_pos z] at hf; exact hf) H locs ls hl hP hS) (fun z => kf (by rw [if_neg z] at hf; exact hf) H locs ls hl hP hS)
theorem h_if_ge {G : GX} {Q : State → Prop} {nn kc ks pc nL : Nat} {lv : List (Nat × Value)} {st : List Value} {M : Mem} {b : ByteArray} {own : String} {ret : Option FieldType} {rm : Room} (h : OKm G b own nL ret rm) {x : Int32} {β : Type} {A B : Option β} {res : β} {off : Int} (tgt : Nat) (ht : (pc : Int) + off = (tgt : Int)) (hf : (if x < 0 then A else B) = some res) (hd : decode b pc = .ok (.ifCond .ge off, 3)) (kt : B = some res → GC G Q nn kc ks tgt lv st M) (kf : A = some res → GC G Q nn kc ks (pc + 3) lv st M) : GC G Q nn kc ks pc lv (.int x :: st) M := by
  obtain ⟨w, p, l, e, R, s, m, args, below, meth, c⟩ := G
  obtain ⟨hx, hb, hml, hown, hts, hSS, hlk, hret, hR⟩ := h
  intro H locs ls hl hP hS
  exact lv_if_ge hx hb hd ht (fun z => kt (by rw [if_neg (Int32.not_lt.mpr z)] at hf; exact hf) H locs ls hl hP hS) (fun z => kf (by rw [if_pos (Int32.not_le.mp z)] at hf; exact hf) H locs ls hl hP hS)
theorem h_if_gt {G : GX} {Q : State → Prop} {nn kc ks pc nL : Nat} {lv : List (Nat × Value)} {st : List Value} {M : Mem} {b : ByteArray} {own : String} {ret : Option FieldType} {rm : Room} (h : OKm G b own nL ret rm) {x : Int32} {β : Type} {A B : Option β} {res : β} {off : Int} (tgt : Nat) (ht : (pc : Int) + off = (tgt : Int)) (hf : (if 0 < x then A else B) = some res) (hd : decode b pc = .ok (.ifCond .gt off, 3)) (kt : A = some res → GC G Q nn kc ks tgt lv st M) (kf : B = some res → GC G Q nn kc ks (pc + 3) lv st M) : GC G Q nn kc ks pc lv (.int x :: st) M := by
  obtain ⟨w, p, l, e, R, s, m, args, below, meth, c⟩ := G
  obtain ⟨hx, hb, hml, hown, hts, hSS, hlk, hret, hR⟩ := h
  intro H locs ls hl hP hS
  exact lv_if_gt hx hb hd ht (fun z => kt (by rw [if_pos z] at hf; exact hf) H locs ls hl hP hS) (fun z => kf (by rw [if_neg z] at hf; exact hf) H locs ls hl hP hS)
theorem h_if_le {G : GX} {Q : State → Prop} {nn kc ks pc nL : Nat} {lv : List (Nat × Value)} {st : List Value} {M : Mem} {b : ByteArray} {own : String} {ret : Option FieldType} {rm : Room} (h : OKm G b own nL ret rm) {x : Int32} {β : Type} {A B : Option β} {res : β} {off : Int} (tgt : Nat) (ht : (pc : Int) + off = (tgt : Int)) (hf : (if 0 < x then A else B) = some res) (hd : decode b pc = .ok (.ifCond .le off, 3)) (kt : B = some res → GC G Q nn kc ks tgt lv st M) (kf : A = some res → GC G Q nn kc ks (pc + 3) lv st M) : GC G Q nn kc ks pc lv (.int x :: st) M := by
  obtain ⟨w, p, l, e, R, s, m, args, below, meth, c⟩ := G
  obtain ⟨hx, hb, hml, hown, hts, hSS, hlk, hret, hR⟩ := h
  intro H locs ls hl hP hS
  exact lv_if_le hx hb hd ht (fun z => kt (by rw [if_neg (Int32.not_lt.mpr z)] at hf; exact hf) H locs ls hl hP hS) (fun z => kf (by rw [if_pos (Int32.not_le.mp z)] at hf; exact hf) H locs ls hl hP hS)
theorem h_ic_eq {G : GX} {Q : State → Prop} {nn kc ks pc nL : Nat} {lv : List (Nat × Value)} {st : List Value} {M : Mem} {b : ByteArray} {own : String} {ret : Option FieldType} {rm : Room} (h : OKm G b own nL ret rm) {x y : Int32} {β : Type} {A B : Option β} {res : β} {off : Int} (tgt : Nat) (ht : (pc : Int) + off = (tgt : Int)) (hf : (if x = y then A else B) = some res) (hd : decode b pc = .ok (.if_icmp .eq off, 3)) (kt : A = some res → GC G Q nn kc ks tgt lv st M) (kf : B = some res → GC G Q nn kc ks (pc + 3) lv st M) : GC G Q nn kc ks pc lv (.int y :: .int x :: st) M := by
  obtain ⟨w, p, l, e, R, s, m, args, below, meth, c⟩ := G
  obtain ⟨hx, hb, hml, hown, hts, hSS, hlk, hret, hR⟩ := h
  intro H locs ls hl hP hS
  exact lv_icmp_eq hx hb hd ht (fun z => kt (by rw [if_pos z] at hf; exact hf) H locs ls hl hP hS) (fun z => kf (by rw [if_neg z] at hf; exact hf) H locs ls hl hP hS)
theorem h_ic_ne {G : GX} {Q : State → Prop} {nn kc ks pc nL : Nat} {lv : List (Nat × Value)} {st : List Value} {M : Mem} {b : ByteArray} {own : String} {ret : Option FieldType} {rm : Room} (h : OKm G b own nL ret rm) {x y : Int32} {β : Type} {A B : Option β} {res : β} {off : Int} (tgt : Nat) (ht : (pc : Int) + off = (tgt : Int)) (hf : (if x = y then A else B) = some res) (hd : decode b pc = .ok (.if_icmp .ne off, 3)) (kt : B = some res → GC G Q nn kc ks tgt lv st M) (kf : A = some res → GC G Q nn kc ks (pc + 3) lv st M) : GC G Q nn kc ks pc lv (.int y :: .int x :: st) M := by
  obtain ⟨w, p, l, e, R, s, m, args, below, meth, c⟩ := G
  obtain ⟨hx, hb, hml, hown, hts, hSS, hlk, hret, hR⟩ := h
  intro H locs ls hl hP hS
  exact lv_icmp_ne hx hb hd ht (fun z => kt (by rw [if_neg z] at hf; exact hf) H locs ls hl hP hS) (fun z => kf (by rw [if_pos z] at hf; exact hf) H locs ls hl hP hS)
theorem h_ic_lt {G : GX} {Q : State → Prop} {nn kc ks pc nL : Nat} {lv : List (Nat × Value)} {st : List Value} {M : Mem} {b : ByteArray} {own : String} {ret : Option FieldType} {rm : Room} (h : OKm G b own nL ret rm) {x y : Int32} {β : Type} {A B : Option β} {res : β} {off : Int} (tgt : Nat) (ht : (pc : Int) + off = (tgt : Int)) (hf : (if x < y then A else B) = some res) (hd : decode b pc = .ok (.if_icmp .lt off, 3)) (kt : A = some res → GC G Q nn kc ks tgt lv st M) (kf : B = some res → GC G Q nn kc ks (pc + 3) lv st M) : GC G Q nn kc ks pc lv (.int y :: .int x :: st) M := by
  obtain ⟨w, p, l, e, R, s, m, args, below, meth, c⟩ := G
  obtain ⟨hx, hb, hml, hown, hts, hSS, hlk, hret, hR⟩ := h
  intro H locs ls hl hP hS
  exact lv_icmp_lt hx hb hd ht (fun z => kt (by rw [if_pos z] at hf; exact hf) H locs ls hl hP hS) (fun z => kf (by rw [if_neg z] at hf; exact hf) H locs ls hl hP hS)
theorem h_ic_ge {G : GX} {Q : State → Prop} {nn kc ks pc nL : Nat} {lv : List (Nat × Value)} {st : List Value} {M : Mem} {b : ByteArray} {own : String} {ret : Option FieldType} {rm : Room} (h : OKm G b own nL ret rm) {x y : Int32} {β : Type} {A B : Option β} {res : β} {off : Int} (tgt : Nat) (ht : (pc : Int) + off = (tgt : Int)) (hf : (if x < y then A else B) = some res) (hd : decode b pc = .ok (.if_icmp .ge off, 3)) (kt : B = some res → GC G Q nn kc ks tgt lv st M) (kf : A = some res → GC G Q nn kc ks (pc + 3) lv st M) : GC G Q nn kc ks pc lv (.int y :: .int x :: st) M := by
  obtain ⟨w, p, l, e, R, s, m, args, below, meth, c⟩ := G
  obtain ⟨hx, hb, hml, hown, hts, hSS, hlk, hret, hR⟩ := h
  intro H locs ls hl hP hS
  exact lv_icmp_ge hx hb hd ht (fun z => kt (by rw [if_neg (Int32.not_lt.mpr z)] at hf; exact hf) H locs ls hl hP hS) (fun z => kf (by rw [if_pos (Int32.not_le.mp z)] at hf; exact hf) H locs ls hl hP hS)
theorem h_ic_gt {G : GX} {Q : State → Prop} {nn kc ks pc nL : Nat} {lv : List (Nat × Value)} {st : List Value} {M : Mem} {b : ByteArray} {own : String} {ret : Option FieldType} {rm : Room} (h : OKm G b own nL ret rm) {x y : Int32} {β : Type} {A B : Option β} {res : β} {off : Int} (tgt : Nat) (ht : (pc : Int) + off = (tgt : Int)) (hf : (if y < x then A else B) = some res) (hd : decode b pc = .ok (.if_icmp .gt off, 3)) (kt : A = some res → GC G Q nn kc ks tgt lv st M) (kf : B = some res → GC G Q nn kc ks (pc + 3) lv st M) : GC G Q nn kc ks pc lv (.int y :: .int x :: st) M := by
  obtain ⟨w, p, l, e, R, s, m, args, below, meth, c⟩ := G
  obtain ⟨hx, hb, hml, hown, hts, hSS, hlk, hret, hR⟩ := h
  intro H locs ls hl hP hS
  exact lv_icmp_gt hx hb hd ht (fun z => kt (by rw [if_pos z] at hf; exact hf) H locs ls hl hP hS) (fun z => kf (by rw [if_neg z] at hf; exact hf) H locs ls hl hP hS)
theorem h_ic_le {G : GX} {Q : State → Prop} {nn kc ks pc nL : Nat} {lv : List (Nat × Value)} {st : List Value} {M : Mem} {b : ByteArray} {own : String} {ret : Option FieldType} {rm : Room} (h : OKm G b own nL ret rm) {x y : Int32} {β : Type} {A B : Option β} {res : β} {off : Int} (tgt : Nat) (ht : (pc : Int) + off = (tgt : Int)) (hf : (if y < x then A else B) = some res) (hd : decode b pc = .ok (.if_icmp .le off, 3)) (kt : B = some res → GC G Q nn kc ks tgt lv st M) (kf : A = some res → GC G Q nn kc ks (pc + 3) lv st M) : GC G Q nn kc ks pc lv (.int y :: .int x :: st) M := by
  obtain ⟨w, p, l, e, R, s, m, args, below, meth, c⟩ := G
  obtain ⟨hx, hb, hml, hown, hts, hSS, hlk, hret, hR⟩ := h
  intro H locs ls hl hP hS
  exact lv_icmp_le hx hb hd ht (fun z => kt (by rw [if_neg (Int32.not_lt.mpr z)] at hf; exact hf) H locs ls hl hP hS) (fun z => kf (by rw [if_pos (Int32.not_le.mp z)] at hf; exact hf) H locs ls hl hP hS)
theorem h_tabIn {G : GX} {Q : State → Prop} {nn kc ks pc nL : Nat} {lv : List (Nat × Value)} {st : List Value} {M : Mem} {b : ByteArray} {own : String} {ret : Option FieldType} {rm : Room} (h : OKm G b own nL ret rm) {x : Int32} {dflt lo hi : Int} {offs : Array Int} {len : Nat} {off : Int} (tgt : Nat) (h1 : ¬ x.toInt < lo) (h2 : ¬ hi < x.toInt) (ho : offs[(x.toInt - lo).toNat]? = some off) (ht : (pc : Int) + off = (tgt : Int)) (hd : decode b pc = .ok (.tableswitch dflt lo hi offs, len)) (k : GC G Q nn kc ks tgt lv st M) : GC G Q nn kc ks pc lv (.int x :: st) M := by
  obtain ⟨w, p, l, e, R, s, m, args, below, meth, c⟩ := G
  obtain ⟨hx, hb, hml, hown, hts, hSS, hlk, hret, hR⟩ := h
  intro H locs ls hl hP hS
  exact lv_tableIn hx hb hd h1 h2 ho ht (k H locs ls hl hP hS)
theorem h_tabOut {G : GX} {Q : State → Prop} {nn kc ks pc nL : Nat} {lv : List (Nat × Value)} {st : List Value} {M : Mem} {b : ByteArray} {own : String} {ret : Option FieldType} {rm : Room} (h : OKm G b own nL ret rm) {x : Int32} {dflt lo hi : Int} {offs : Array Int} {len : Nat} (tgt : Nat) (h1 : x.toInt < lo ∨ hi < x.toInt) (ht : (pc : Int) + dflt = (tgt : Int)) (hd : decode b pc = .ok (.tableswitch dflt lo hi offs, len)) (k : GC G Q nn kc ks tgt lv st M) : GC G Q nn kc ks pc lv (.int x :: st) M := by
  obtain ⟨w, p, l, e, R, s, m, args, below, meth, c⟩ := G
  obtain ⟨hx, hb, hml, hown, hts, hSS, hlk, hret, hR⟩ := h
  intro H locs ls hl hP hS
  exact lv_tableOut hx hb hd h1 ht (k H locs ls hl hP hS)
theorem h_lookup {G : GX} {Q : State → Prop} {nn kc ks pc nL : Nat} {lv : List (Nat × Value)} {st : List Value} {M : Mem} {b : ByteArray} {own : String} {ret : Option FieldType} {rm : Room} (h : OKm G b own nL ret rm) {x : Int32} {dflt : Int} {ps : Array (Int × Int)} {len : Nat} {off : Int} (tgt : Nat) (hp : (ps.toList.zip (ps.toList.drop 1)).all (fun (a, next) => a.1 < next.1) = true) (ho : Op.lookupswitch.offset ps.toList dflt x.toInt = off) (ht : (pc : Int) + off = (tgt : Int)) (hd : decode b pc = .ok (.lookupswitch dflt ps, len)) (k : GC G Q nn kc ks tgt lv st M) : GC G Q nn kc ks pc lv (.int x :: st) M := by
  obtain ⟨w, p, l, e, R, s, m, args, below, meth, c⟩ := G
  obtain ⟨hx, hb, hml, hown, hts, hSS, hlk, hret, hR⟩ := h
  intro H locs ls hl hP hS
  exact lv_lookup hx hb hd hp ho ht (k H locs ls hl hP hS)
theorem h_sub {G : GX} {Q : State → Prop} {nn kc ks pc nL : Nat} {lv : List (Nat × Value)} {st : List Value} {M : Mem} {b : ByteArray} {own : String} {ret : Option FieldType} {rm : Room} (h : OKm G b own nL ret rm) (is : List Nat) {lv' : List (Nat × Value)} (hv : lv_pick lv is = lv') (k : GC G Q nn kc ks pc lv' st M) : GC G Q nn kc ks pc lv (st) M := by
  obtain ⟨w, p, l, e, R, s, m, args, below, meth, c⟩ := G
  obtain ⟨hx, hb, hml, hown, hts, hSS, hlk, hret, hR⟩ := h
  intro H locs ls hl hP hS
  exact k H locs ls (lv_sub hl is hv) hP hS
theorem h_cs {G : GX} {Q : State → Prop} {nn kc ks pc nL : Nat} {lv : List (Nat × Value)} {st : List Value} {M : Mem} {b : ByteArray} {own : String} {ret : Option FieldType} {rm : Room} (h : OKm G b own nL ret rm) {kc' ks' : Nat} (hk : kc ≤ kc') (hk2 : ks ≤ ks') (k : GC G Q nn kc' ks' pc lv st M) : GC G Q nn kc ks pc lv (st) M := by
  obtain ⟨w, p, l, e, R, s, m, args, below, meth, c⟩ := G
  obtain ⟨hx, hb, hml, hown, hts, hSS, hlk, hret, hR⟩ := h
  intro H locs ls hl hP hS
  exact W.widen hk hk2 (k H locs ls hl hP hS)
theorem h_ldc {G : GX} {Q : State → Prop} {nn kc ks pc nL : Nat} {lv : List (Nat × Value)} {st : List Value} {M : Mem} {b : ByteArray} {own : String} {ret : Option FieldType} {rm : Room} (h : OKm G b own nL ret rm) (idx : Nat) {v : Int32} (hc : Cond.constant own idx v ∈ LW) (hd : decode b pc = .ok (.ldc idx, 2)) (k : GC G Q nn kc ks (pc + 2) lv (.int v :: st) M) : GC G Q nn kc ks pc lv (st) M := by
  obtain ⟨w, p, l, e, R, s, m, args, below, meth, c⟩ := G
  obtain ⟨hx, hb, hml, hown, hts, hSS, hlk, hret, hR⟩ := h
  intro H locs ls hl hP hS
  exact lv_ldc hx hb hown (hts _ hc) hd (k H locs ls hl hP hS)
theorem h_ldcw {G : GX} {Q : State → Prop} {nn kc ks pc nL : Nat} {lv : List (Nat × Value)} {st : List Value} {M : Mem} {b : ByteArray} {own : String} {ret : Option FieldType} {rm : Room} (h : OKm G b own nL ret rm) (idx : Nat) {v : Int32} (hc : Cond.constant own idx v ∈ LW) (hd : decode b pc = .ok (.ldc_w idx, 3)) (k : GC G Q nn kc ks (pc + 3) lv (.int v :: st) M) : GC G Q nn kc ks pc lv (st) M := by
  obtain ⟨w, p, l, e, R, s, m, args, below, meth, c⟩ := G
  obtain ⟨hx, hb, hml, hown, hts, hSS, hlk, hret, hR⟩ := h
  intro H locs ls hl hP hS
  exact lv_ldcw hx hb hown (hts _ hc) hd (k H locs ls hl hP hS)
theorem h_ldc2 {G : GX} {Q : State → Prop} {nn kc ks pc nL : Nat} {lv : List (Nat × Value)} {st : List Value} {M : Mem} {b : ByteArray} {own : String} {ret : Option FieldType} {rm : Room} (h : OKm G b own nL ret rm) (idx : Nat) {v : Int64} (hc : Cond.constantLong own idx v ∈ LW) (hd : decode b pc = .ok (.ldc2_w idx, 3)) (k : GC G Q nn kc ks (pc + 3) lv (.long v :: st) M) : GC G Q nn kc ks pc lv (st) M := by
  obtain ⟨w, p, l, e, R, s, m, args, below, meth, c⟩ := G
  obtain ⟨hx, hb, hml, hown, hts, hSS, hlk, hret, hR⟩ := h
  intro H locs ls hl hP hS
  exact lv_ldc2 hx hb hown (hts _ hc) hd (k H locs ls hl hP hS)

