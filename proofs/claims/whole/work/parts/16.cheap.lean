theorem h_new {G : GX} {Q : State → Prop} {nn kc ks pc nL : Nat} {lv : List (Nat × Value)} {st : List Value} {M : Mem} {b : ByteArray} {own : String} {ret : Option FieldType} {rm : Room} (h : OKm G b own nL ret rm) {C : String} {T : u_T} {N ci idx : Nat} (hin : ∀ x ∈ u_ws C T N, x ∈ LW) {tyf : Nat → FieldType} (hty : ∀ k, k < N → parseFieldDescriptor (T k).2.2.1 = some (tyf k)) (hcl : Cond.classLink own idx C ∈ LW) (hinst : Cond.instantiable C N ∈ LW) (hini : Cond.initialized C ∈ LW) (hc : vwCl[ci]? = some (C, T, N)) {fs : List Value} (hfs : ∀ j, j < N → defaultValue (tyf j) = vp_V fs j) (hn : nn < KN) (he : entCK G.1 nn (fun _ => 0) (fun _ => 0) (fun _ => 0) = .inr (ci, fs)) (hcells : kc + 1 ≤ rm.cells) (hslots : ks + N ≤ rm.slots) (hd : decode b pc = .ok (.new idx, 3))
    (k : GC G Q (nn + 1) (kc + 1) (ks + N) (pc + 3) lv (rv G.1 nn :: st) (z3 M nn)) : GC G Q nn kc ks pc lv st M := by
  obtain ⟨w, p, l, e, R, s, m, args, below, meth, c⟩ := G
  obtain ⟨hx, hb, hml, hown, hts, hSS, hlk, hret, hR⟩ := h
  intro H locs ls hl hP hS
  obtain ⟨hP, hz, hle⟩ := hP
  subst hR
  have hKn := hSS.1.1 ci _ hc
  refine W.newcK hx hb hown (hts _ hcl) (hts _ hinst) (hts _ hini) rfl hd hcells hslots hKn.2.1 hz fun H1 kC hkC e1 z1 o1 => ?_
  have hk : ∀ (k : Nat) (x : Nat × va_E), (WLC w nn M)[k]? = some x → H1[x.1]? = H[x.1]? := fun k x hx9 => o1 x.1 (by have := (hP k x hx9).lt; omega)
  have hnew : va_P w.2.2.1 vwCl (WLC w nn M ++ [(w.1 + nn, .inr (ci, fs))]) H1 := (hP.kept hk).app (fun k x hx9 => by
    have hz9 : k < 1 := (List.getElem?_eq_some_iff.mp hx9).1
    rw [show k = 0 by omega] at hx9
    cases hx9
    exact ⟨_, hc, (u_born tyf hts hin hKn hkC e1 hty).to hfs⟩)
  rw [WLC_push he] at hnew
  have k9 := k H1 locs ls hl ⟨hnew, by omega, hn⟩ ⟨Nat.le_trans hS.1 (by omega), fun x h1 h2 => (o1 x (by have := hS.1; omega)).trans (hS.2.1 x h1 h2), hS.2.2⟩
  rw [rv_lt hn] at k9
  exact k9
theorem h_newI {G : GX} {Q : State → Prop} {nn kc ks pc nL : Nat} {lv : List (Nat × Value)} {st : List Value} {M : Mem} {b : ByteArray} {own : String} {ret : Option FieldType} {rm : Room} (h : OKm G b own nL ret rm) (N : Nat) {v : Int32} (hn : nn < KN) (hk2 : kd nn = 20) (hl2 : ln nn = N) (h0 : ¬ v < 0) (hN : v.toNatClampNeg = N) (hN2 : N ≤ 3000) (har : Cond.arrayClass .int ∈ LW) (hcells : kc + 1 ≤ rm.cells) (hslots : ks + N ≤ rm.slots) (hd : decode b pc = .ok (.newarray .int, 2))
    (k : GC G Q (nn + 1) (kc + 1) (ks + N) (pc + 2) lv (rv G.1 nn :: st) (z3 M nn)) : GC G Q nn kc ks pc lv (.int v :: st) M := by
  obtain ⟨w, p, l, e, R, s, m, args, below, meth, c⟩ := G
  obtain ⟨hx, hb, hml, hown, hts, hSS, hlk, hret, hR⟩ := h
  intro H locs ls hl hP hS
  obtain ⟨hP, hz, hle⟩ := hP
  subst hR
  refine va_newaK (atype := .int) hx hb (hts _ har) rfl hd rfl h0 hN (Nat.le_trans (Nat.mul_le_mul hN2 (by decide : componentBytes .int ≤ 8)) (by decide)) hcells hslots hz fun H1 cA e1 z1 o1 hAr hNm => ?_
  have hcA : cA = w.2.2.2 0 := Option.some.inj (hNm.symm.trans (hSS.1.2 0 _ rfl).2)
  subst hcA
  have hk : ∀ (k : Nat) (x : Nat × va_E), (WLC w nn M)[k]? = some x → H1[x.1]? = H[x.1]? := fun k x hx9 => o1 x.1 (by have := (hP k x hx9).lt; omega)
  have hnew : va_P w.2.2.1 vwCl (WLC w nn M ++ [(w.1 + nn, .inl (w.2.2.2 0, N, .inl (fun _ => 0)))]) H1 := (hP.kept hk).app (fun k x hx9 => by
    have hz9 : k < 1 := (List.getElem?_eq_some_iff.mp hx9).1
    rw [show k = 0 by omega] at hx9
    cases hx9
    exact e1)
  rw [WLC_push (by unfold entCK; rw [hk2, hl2]; rfl)] at hnew
  have k9 := k H1 locs ls hl ⟨hnew, by omega, hn⟩ ⟨Nat.le_trans hS.1 (by omega), fun x h1 h2 => (o1 x (by have := hS.1; omega)).trans (hS.2.1 x h1 h2), hS.2.2⟩
  rw [rv_lt hn] at k9
  exact k9
theorem h_newB {G : GX} {Q : State → Prop} {nn kc ks pc nL : Nat} {lv : List (Nat × Value)} {st : List Value} {M : Mem} {b : ByteArray} {own : String} {ret : Option FieldType} {rm : Room} (h : OKm G b own nL ret rm) (N : Nat) {v : Int32} (hn : nn < KN) (hk2 : kd nn = 21) (hl2 : ln nn = N) (h0 : ¬ v < 0) (hN : v.toNatClampNeg = N) (hN2 : N ≤ 3000) (har : Cond.arrayClass .byte ∈ LW) (hcells : kc + 1 ≤ rm.cells) (hslots : ks + N ≤ rm.slots) (hd : decode b pc = .ok (.newarray .byte, 2))
    (k : GC G Q (nn + 1) (kc + 1) (ks + N) (pc + 2) lv (rv G.1 nn :: st) (z3 M nn)) : GC G Q nn kc ks pc lv (.int v :: st) M := by
  obtain ⟨w, p, l, e, R, s, m, args, below, meth, c⟩ := G
  obtain ⟨hx, hb, hml, hown, hts, hSS, hlk, hret, hR⟩ := h
  intro H locs ls hl hP hS
  obtain ⟨hP, hz, hle⟩ := hP
  subst hR
  refine va_newaK (atype := .byte) hx hb (hts _ har) rfl hd rfl h0 hN (Nat.le_trans (Nat.mul_le_mul hN2 (by decide : componentBytes .byte ≤ 8)) (by decide)) hcells hslots hz fun H1 cA e1 z1 o1 hAr hNm => ?_
  have hcA : cA = w.2.2.2 1 := Option.some.inj (hNm.symm.trans (hSS.1.2 1 _ rfl).2)
  subst hcA
  have hk : ∀ (k : Nat) (x : Nat × va_E), (WLC w nn M)[k]? = some x → H1[x.1]? = H[x.1]? := fun k x hx9 => o1 x.1 (by have := (hP k x hx9).lt; omega)
  have hnew : va_P w.2.2.1 vwCl (WLC w nn M ++ [(w.1 + nn, .inl (w.2.2.2 1, N, .inl (fun _ => 0)))]) H1 := (hP.kept hk).app (fun k x hx9 => by
    have hz9 : k < 1 := (List.getElem?_eq_some_iff.mp hx9).1
    rw [show k = 0 by omega] at hx9
    cases hx9
    exact e1)
  rw [WLC_push (by unfold entCK; rw [hk2, hl2]; rfl)] at hnew
  have k9 := k H1 locs ls hl ⟨hnew, by omega, hn⟩ ⟨Nat.le_trans hS.1 (by omega), fun x h1 h2 => (o1 x (by have := hS.1; omega)).trans (hS.2.1 x h1 h2), hS.2.2⟩
  rw [rv_lt hn] at k9
  exact k9
theorem h_newJ {G : GX} {Q : State → Prop} {nn kc ks pc nL : Nat} {lv : List (Nat × Value)} {st : List Value} {M : Mem} {b : ByteArray} {own : String} {ret : Option FieldType} {rm : Room} (h : OKm G b own nL ret rm) (N : Nat) {v : Int32} (hn : nn < KN) (hk2 : kd nn = 22) (hl2 : ln nn = N) (h0 : ¬ v < 0) (hN : v.toNatClampNeg = N) (hN2 : N ≤ 3000) (har : Cond.arrayClass .long ∈ LW) (hcells : kc + 1 ≤ rm.cells) (hslots : ks + N ≤ rm.slots) (hd : decode b pc = .ok (.newarray .long, 2))
    (k : GC G Q (nn + 1) (kc + 1) (ks + N) (pc + 2) lv (rv G.1 nn :: st) (z3 M nn)) : GC G Q nn kc ks pc lv (.int v :: st) M := by
  obtain ⟨w, p, l, e, R, s, m, args, below, meth, c⟩ := G
  obtain ⟨hx, hb, hml, hown, hts, hSS, hlk, hret, hR⟩ := h
  intro H locs ls hl hP hS
  obtain ⟨hP, hz, hle⟩ := hP
  subst hR
  refine va_newaK (atype := .long) hx hb (hts _ har) rfl hd rfl h0 hN (Nat.le_trans (Nat.mul_le_mul hN2 (by decide : componentBytes .long ≤ 8)) (by decide)) hcells hslots hz fun H1 cA e1 z1 o1 hAr hNm => ?_
  have hcA : cA = w.2.2.2 2 := Option.some.inj (hNm.symm.trans (hSS.1.2 2 _ rfl).2)
  subst hcA
  have hk : ∀ (k : Nat) (x : Nat × va_E), (WLC w nn M)[k]? = some x → H1[x.1]? = H[x.1]? := fun k x hx9 => o1 x.1 (by have := (hP k x hx9).lt; omega)
  have hnew : va_P w.2.2.1 vwCl (WLC w nn M ++ [(w.1 + nn, .inl (w.2.2.2 2, N, .inr (.inl (fun _ => 0))))]) H1 := (hP.kept hk).app (fun k x hx9 => by
    have hz9 : k < 1 := (List.getElem?_eq_some_iff.mp hx9).1
    rw [show k = 0 by omega] at hx9
    cases hx9
    exact e1)
  rw [WLC_push (by unfold entCK; rw [hk2, hl2]; rfl)] at hnew
  have k9 := k H1 locs ls hl ⟨hnew, by omega, hn⟩ ⟨Nat.le_trans hS.1 (by omega), fun x h1 h2 => (o1 x (by have := hS.1; omega)).trans (hS.2.1 x h1 h2), hS.2.2⟩
  rw [rv_lt hn] at k9
  exact k9
theorem h_newZ {G : GX} {Q : State → Prop} {nn kc ks pc nL : Nat} {lv : List (Nat × Value)} {st : List Value} {M : Mem} {b : ByteArray} {own : String} {ret : Option FieldType} {rm : Room} (h : OKm G b own nL ret rm) (N : Nat) {v : Int32} (hn : nn < KN) (hk2 : kd nn = 23) (hl2 : ln nn = N) (h0 : ¬ v < 0) (hN : v.toNatClampNeg = N) (hN2 : N ≤ 3000) (har : Cond.arrayClass .boolean ∈ LW) (hcells : kc + 1 ≤ rm.cells) (hslots : ks + N ≤ rm.slots) (hd : decode b pc = .ok (.newarray .boolean, 2))
    (k : GC G Q (nn + 1) (kc + 1) (ks + N) (pc + 2) lv (rv G.1 nn :: st) (z3 M nn)) : GC G Q nn kc ks pc lv (.int v :: st) M := by
  obtain ⟨w, p, l, e, R, s, m, args, below, meth, c⟩ := G
  obtain ⟨hx, hb, hml, hown, hts, hSS, hlk, hret, hR⟩ := h
  intro H locs ls hl hP hS
  obtain ⟨hP, hz, hle⟩ := hP
  subst hR
  refine va_newaK (atype := .boolean) hx hb (hts _ har) rfl hd rfl h0 hN (Nat.le_trans (Nat.mul_le_mul hN2 (by decide : componentBytes .boolean ≤ 8)) (by decide)) hcells hslots hz fun H1 cA e1 z1 o1 hAr hNm => ?_
  have hcA : cA = w.2.2.2 3 := Option.some.inj (hNm.symm.trans (hSS.1.2 3 _ rfl).2)
  subst hcA
  have hk : ∀ (k : Nat) (x : Nat × va_E), (WLC w nn M)[k]? = some x → H1[x.1]? = H[x.1]? := fun k x hx9 => o1 x.1 (by have := (hP k x hx9).lt; omega)
  have hnew : va_P w.2.2.1 vwCl (WLC w nn M ++ [(w.1 + nn, .inl (w.2.2.2 3, N, .inl (fun _ => 0)))]) H1 := (hP.kept hk).app (fun k x hx9 => by
    have hz9 : k < 1 := (List.getElem?_eq_some_iff.mp hx9).1
    rw [show k = 0 by omega] at hx9
    cases hx9
    exact e1)
  rw [WLC_push (by unfold entCK; rw [hk2, hl2]; rfl)] at hnew
  have k9 := k H1 locs ls hl ⟨hnew, by omega, hn⟩ ⟨Nat.le_trans hS.1 (by omega), fun x h1 h2 => (o1 x (by have := hS.1; omega)).trans (hS.2.1 x h1 h2), hS.2.2⟩
  rw [rv_lt hn] at k9
  exact k9
theorem h_get {G : GX} {Q : State → Prop} {nn kc ks pc nL : Nat} {lv : List (Nat × Value)} {st : List Value} {M : Mem} {b : ByteArray} {own : String} {ret : Option FieldType} {rm : Room} (h : OKm G b own nL ret rm) {o : Nat} {C : String} {T : u_T} {N ci idx : Nat} (hin : ∀ x ∈ u_ws C T N, x ∈ LW) (hc : vwCl[ci]? = some (C, T, N)) (j : Nat) (hj : j < N) (hlink : Cond.fieldLink own idx (T j).1 (T j).2.1 (T j).2.2.1 ∈ LW) {z : Value} {fs : List Value} (ho : o < nn) (he : entC G.1 M o = .inr (ci, fs)) (hv : fs[j]? = some z) (hd : decode b pc = .ok (.getfield idx, 3)) (k : GC G Q nn kc ks (pc + 3) lv (z :: st) M) : GC G Q nn kc ks pc lv (rv G.1 o :: st) M := by
  obtain ⟨w, p, l, e, R, s, m, args, below, meth, c⟩ := G
  obtain ⟨hx, hb, hml, hown, hts, hSS, hlk, hret, hR⟩ := h
  intro H locs ls hl hP hS
  obtain ⟨hP, hz, hle⟩ := hP
  rw [rv_lt (by omega)]
  have hw := WLC_at (w := w) (M := M) ho
  rw [show entC w M o = _ from he] at hw
  exact va_get (T := T) hx hb hts hin hown hSS.1 hP o hw hc j hj (hts _ hlink) (fun _ q => q) hv hd (k H locs ls hl ⟨hP, hz, hle⟩ hS)
theorem h_put {G : GX} {Q : State → Prop} {nn kc ks pc nL : Nat} {lv : List (Nat × Value)} {st : List Value} {M : Mem} {b : ByteArray} {own : String} {ret : Option FieldType} {rm : Room} (h : OKm G b own nL ret rm) {o : Nat} {C : String} {T : u_T} {N ci idx : Nat} (hin : ∀ x ∈ u_ws C T N, x ∈ LW) (hc : vwCl[ci]? = some (C, T, N)) (j : Nat) (hj : j < N) (hlink : Cond.fieldLink own idx (T j).1 (T j).2.1 (T j).2.2.1 ∈ LW) {tyf : Nat → FieldType} (hty : ∀ k, k < N → parseFieldDescriptor (T k).2.2.1 = some (tyf k)) (hnm : ∀ a, a < N → ∀ b, b < N → a ≠ b → (T a).2.1 ≠ (T b).2.1) (hfin : (T j).2.2.2 = false) {z : Value} {M1 : Mem} {fs : List Value} {ft : FieldType} (ho : o < nn) (he : entC G.1 M o = .inr (ci, fs)) (hlen : j < fs.length) (he1 : entC G.1 M1 o = .inr (ci, fs.set j z)) (hoth : ∀ k, k ≠ o → entC G.1 M1 k = entC G.1 M k) (hdt : parseFieldDescriptor (T j).2.2.1 = some ft) (hn : narrow ft z = z) (hfit : fits ft z = true) (hd : decode b pc = .ok (.putfield idx, 3)) (k : GC G Q nn kc ks (pc + 3) lv st M1) : GC G Q nn kc ks pc lv (z :: rv G.1 o :: st) M := by
  obtain ⟨w, p, l, e, R, s, m, args, below, meth, c⟩ := G
  obtain ⟨hx, hb, hml, hown, hts, hSS, hlk, hret, hR⟩ := h
  intro H locs ls hl hP hS
  obtain ⟨hP, hz, hle⟩ := hP
  subst hR
  rw [rv_lt (by omega)]
  have hw := WLC_at (w := w) (M := M) ho
  rw [show entC w M o = _ from he] at hw
  have hap := va_apart (own := own) hts hin tyf hty hnm hSS.1 hc
  obtain ⟨r9, g1, cell, q1, q2, q3, q4⟩ := hP o _ hw
  have hr9 : r9 = (C, T, N) := Option.some.inj (g1.symm.trans hc)
  subst hr9
  obtain ⟨hSl, hfc, kC, hkC, hkind⟩ := hSS.1.1 ci _ hc
  obtain ⟨cf, kf, fi, f, hi, hsl⟩ := hSl j hj
  have hlay := hts _ (hin _ (u_in_lay hj))
  unfold u_lay at hlay
  rw [if_neg (by rw [hfin]; decide)] at hlay
  have hst := (u_facts hfc hkC (u_lays hts hin hj) hi).1
  have h6 := u_store hfc hkC hkind hlay hi hdt hn hfit
  refine W.putK hx hb (f := f) ⟨hown, hts _ hlink, ⟨_, _, _, hi⟩, hst⟩ (by rw [q2]; exact h6) q1 q3 (by rw [hsl]; exact k2_hasslot (q4 j hj)) rfl rfl hd fun H1 e1 e2 e3 => ?_
  rw [hsl] at e1 ⊢
  have hat9 : va_at w.2.2.1 vwCl (w.1 + o, .inr (ci, fs.set j z)) H1 := ⟨_, hc, t_OB.to (V := updV (vp_V fs) j z) ⟨_, e1, q2, q3, t_set q4 hap hj z⟩ (fun i _ => vp_updV_set hlen z i)⟩
  have hP1 := va_P.set (e := .inr (ci, fs.set j z)) hP (WLC_D w nn M) hw hat9 e3
  rw [WLC_set ho he1 hoth] at hP1
  exact k H1 _ ls hl ⟨hP1, by rw [e2]; exact hz, hle⟩ (hS.put e2 e3 ((WLC_D w nn M).2 o _ hw))
theorem h_putF {G : GX} {Q : State → Prop} {nn kc ks pc nL : Nat} {lv : List (Nat × Value)} {st : List Value} {M : Mem} {b : ByteArray} {own : String} {ret : Option FieldType} {rm : Room} (h : OKm G b own nL ret rm) {o : Nat} {C : String} {T : u_T} {N ci idx : Nat} (hin : ∀ x ∈ u_ws C T N, x ∈ LW) (hc : vwCl[ci]? = some (C, T, N)) (j : Nat) (hj : j < N) (hlink : Cond.fieldLink own idx (T j).1 (T j).2.1 (T j).2.2.1 ∈ LW) {tyf : Nat → FieldType} (hty : ∀ k, k < N → parseFieldDescriptor (T k).2.2.1 = some (tyf k)) (hnm : ∀ a, a < N → ∀ b, b < N → a ≠ b → (T a).2.1 ≠ (T b).2.1) (hfin : (T j).2.2.2 = true) (hin2 : G.2.2.2.2.2.2.2.2.2.1.name = "<init>") (hdecl : (T j).1 = own) {z : Value} {M1 : Mem} {fs : List Value} {ft : FieldType} (ho : o < nn) (he : entC G.1 M o = .inr (ci, fs)) (hlen : j < fs.length) (he1 : entC G.1 M1 o = .inr (ci, fs.set j z)) (hoth : ∀ k, k ≠ o → entC G.1 M1 k = entC G.1 M k) (hdt : parseFieldDescriptor (T j).2.2.1 = some ft) (hn : narrow ft z = z) (hfit : fits ft z = true) (hd : decode b pc = .ok (.putfield idx, 3)) (k : GC G Q nn kc ks (pc + 3) lv st M1) : GC G Q nn kc ks pc lv (z :: rv G.1 o :: st) M := by
  obtain ⟨w, p, l, e, R, s, m, args, below, meth, c⟩ := G
  obtain ⟨hx, hb, hml, hown, hts, hSS, hlk, hret, hR⟩ := h
  intro H locs ls hl hP hS
  obtain ⟨hP, hz, hle⟩ := hP
  subst hR
  rw [rv_lt (by omega)]
  have hw := WLC_at (w := w) (M := M) ho
  rw [show entC w M o = _ from he] at hw
  have hap := va_apart (own := own) hts hin tyf hty hnm hSS.1 hc
  obtain ⟨r9, g1, cell, q1, q2, q3, q4⟩ := hP o _ hw
  have hr9 : r9 = (C, T, N) := Option.some.inj (g1.symm.trans hc)
  subst hr9
  obtain ⟨hSl, hfc, kC, hkC, hkind⟩ := hSS.1.1 ci _ hc
  obtain ⟨cf, kf, fi, f, hi, hsl⟩ := hSl j hj
  have hlay := hts _ (hin _ (u_in_lay hj))
  unfold u_lay at hlay
  rw [if_pos hfin] at hlay
  have hst := (u_facts hfc hkC (u_lays hts hin hj) hi).1
  have hcf : m.cls = cf := by
    obtain ⟨_, _, c', _, _, _, -, -, hf', -, -, -, hown2, -⟩ := Cond.laysFinal_spec hlay
    have e1 : c' = cf := by have := hi.symm.trans hf'; simp at this; exact this.1.symm
    rw [hdecl] at hown2
    rw [← e1]; exact Option.some.inj (hown.symm.trans hown2)
  have h6 := u_fits hfc hkC hkind (Or.inr hlay) hi hdt hn hfit
  refine W.putFinK hx hb hown (hts _ hlink) hi hst hcf hin2 (by rw [q2]; exact h6) q1 q3 (by rw [hsl]; exact k2_hasslot (q4 j hj)) rfl rfl hd fun H1 e1 e2 e3 => ?_
  rw [hsl] at e1 ⊢
  have hat9 : va_at w.2.2.1 vwCl (w.1 + o, .inr (ci, fs.set j z)) H1 := ⟨_, hc, t_OB.to (V := updV (vp_V fs) j z) ⟨_, e1, q2, q3, t_set q4 hap hj z⟩ (fun i _ => vp_updV_set hlen z i)⟩
  have hP1 := va_P.set (e := .inr (ci, fs.set j z)) hP (WLC_D w nn M) hw hat9 e3
  rw [WLC_set ho he1 hoth] at hP1
  exact k H1 _ ls hl ⟨hP1, by rw [e2]; exact hz, hle⟩ (hS.put e2 e3 ((WLC_D w nn M).2 o _ hw))
theorem entC_20 {w : WX} {M : Mem} {k : Nat} (h : kd k = 20) : entC w M k = .inl (w.2.2.2 0, ln k, .inl (M.1 k)) := by
  unfold entC entCK
  rw [h]
  rfl
theorem entC_aI {w : WX} {M : Mem} {a k : Nat} {f : Nat → Int32} (h : k ≠ a) : entC w (aI M a f) k = entC w M k := by
  show entCK w k (va_up M.1 a f k) (M.2.1 k) (M.2.2 k) = _
  rw [va_up_ne _ _ h]
  rfl
theorem entC_aR {w : WX} {M : Mem} {a k : Nat} {f : Nat → Nat} (h : k ≠ a) : entC w (aR M a f) k = entC w M k := by
  show entCK w k (M.1 k) (M.2.1 k) (va_up M.2.2 a f k) = _
  rw [va_up_ne _ _ h]
  rfl
theorem entC_aI_s {w : WX} {M : Mem} {a : Nat} {f : Nat → Int32} : entC w (aI M a f) a = entCK w a f (M.2.1 a) (M.2.2 a) := by
  show entCK w a (va_up M.1 a f a) (M.2.1 a) (M.2.2 a) = _
  rw [va_up_self]
theorem entC_aR_s {w : WX} {M : Mem} {a : Nat} {f : Nat → Nat} : entC w (aR M a f) a = entCK w a (M.1 a) (M.2.1 a) f := by
  show entCK w a (M.1 a) (M.2.1 a) (va_up M.2.2 a f a) = _
  rw [va_up_self]
theorem h_iast {G : GX} {Q : State → Prop} {nn kc ks pc nL : Nat} {lv : List (Nat × Value)} {st : List Value} {M : Mem} {b : ByteArray} {own : String} {ret : Option FieldType} {rm : Room} (h : OKm G b own nL ret rm) {o : Nat} (n : Nat) {i x : Int32} {β : Type} {kf : Mem → Option β} {res : β} (ho : kd o = 20) (hon : o < nn) (hn : ln o = n) (hf : stI M o n i x kf = some res) (hd : decode b pc = .ok (.iastore, 1)) (kk : ∀ M1, kf M1 = some res → GC G Q nn kc ks (pc + 1) lv st M1) : GC G Q nn kc ks pc lv (.int x :: .int i :: rv G.1 o :: st) M := by
  obtain ⟨w, p, l, e, R, s, m, args, below, meth, c⟩ := G
  obtain ⟨hx, hb, hml, hown, hts, hSS, hlk, hret, hR⟩ := h
  intro H locs ls hl hP hS
  obtain ⟨hP, hz, hle⟩ := hP
  rw [rv_lt (by omega)]
  have hw := WLC_at (w := w) (M := M) hon
  rw [entC_20 ho] at hw
  obtain ⟨hin, hk⟩ := pre_if hf
  subst hn
  refine W.iast hx hb (hP o _ hw) ((hSS.1.2 0 _ rfl).1 (ln o) (fun j => .int (M.1 o j))) (fun q => by cases q) (by show ¬ (i < 0 ∨ (arrV _ _ _).slots.size ≤ _); rw [arrV_size]; exact hin) rfl rfl hd fun H1 e1 z1 oq => ?_
  have hat9 : va_at w.2.2.1 vwCl (w.1 + o, .inl (w.2.2.2 0, ln o, .inl (upd (M.1 o) i.toNatClampNeg x))) H1 := by
    show H1[w.1 + o]? = some (vp_cell _ _)
    rw [e1]
    rw [vp_cell_i, vp_cell_i, arrV_store]
    congr 2
    funext q
    by_cases hq : q = i.toNatClampNeg
    · subst hq
      simp [updV, upd]
    · simp [updV, upd, hq]
  have hP1 := va_P.set (e := .inl (w.2.2.2 0, ln o, .inl (upd (M.1 o) i.toNatClampNeg x))) hP (WLC_D w nn M) hw hat9 oq
  rw [WLC_set (M' := sI M o i.toNatClampNeg x) hon (by unfold sI; rw [entC_aI_s]; unfold entCK; rw [ho]; rfl) (fun j hj => entC_aI hj)] at hP1
  exact kk _ hk H1 _ ls hl ⟨hP1, by rw [z1]; exact hz, hle⟩ (hS.put z1 oq ((WLC_D w nn M).2 o _ hw))
theorem h_ilen {G : GX} {Q : State → Prop} {nn kc ks pc nL : Nat} {lv : List (Nat × Value)} {st : List Value} {M : Mem} {b : ByteArray} {own : String} {ret : Option FieldType} {rm : Room} (h : OKm G b own nL ret rm) {o : Nat} (n : Nat) {z : Int32} (ho : kd o = 20) (hon : o < nn) (hn : ln o = n) (hz9 : Int32.ofNat n = z) (hd : decode b pc = .ok (.arraylength, 1)) (k : GC G Q nn kc ks (pc + 1) lv (.int z :: st) M) : GC G Q nn kc ks pc lv (rv G.1 o :: st) M := by
  obtain ⟨w, p, l, e, R, s, m, args, below, meth, c⟩ := G
  obtain ⟨hx, hb, hml, hown, hts, hSS, hlk, hret, hR⟩ := h
  intro H locs ls hl hP hS
  obtain ⟨hP, hz, hle⟩ := hP
  rw [rv_lt (by omega)]
  have hw := WLC_at (w := w) (M := M) hon
  rw [entC_20 ho] at hw
  subst hn
  exact va_alen hx hb hSS.1 hP o 0 hw rfl hz9 hd (k H locs ls hl ⟨hP, hz, hle⟩ hS)
