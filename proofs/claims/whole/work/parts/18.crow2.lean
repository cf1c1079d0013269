def b3 {β : Type} (o : Option (Nat × Mem)) (k : Nat → Mem → Option β) : Option β := Option.bind o fun q => k q.1 q.2
theorem b3_some {β : Type} {o : Option (Nat × Mem)} {k : Nat → Mem → Option β} {res : β} (h : b3 o k = some res) : ∃ (r : Nat) (M1 : Mem), o = some (r, M1) ∧ k r M1 = some res := by
  obtain ⟨q, h1, h2⟩ := bd_some h
  exact ⟨q.1, q.2, h1, h2⟩
def Pcc (n1 : Nat) (M1 : Mem) : Nat → Mem → Prop := fun n' M' => n' = n1 ∧ M' = M1
def ldR {β : Type} (M : Mem) (o j : Nat) (kf : Nat → Option β) : Option β := if M.2.2 o j = 0 then none else kf (M.2.2 o j - 1)
def stA {β : Type} (M : Mem) (a n : Nat) (i : Int32) (v : Nat) (k : Mem → Option β) : Option β := if i < 0 ∨ n ≤ i.toNatClampNeg then none else k (sR M a i.toNatClampNeg (v + 1))
theorem vpV_range {f : Nat → FieldType} {N j : Nat} (h : j < N) : defaultValue (f j) = vp_V ((List.range N).map fun j => defaultValue (f j)) j := by
  unfold vp_V
  rw [List.getD_eq_getElem?_getD, List.getElem?_map, List.getElem?_range h]
  rfl
theorem h_nmM {G : GX} {Q : State → Prop} {nn kc ks pc : Nat} {lv : List (Nat × Value)} {st : List Value}  {e : Mem} {β : Type} {kf : Mem → Option β} {res : β} (hf : pu e kf = some res) (kk : ∀ M1, kf M1 = some res → GC G Q nn kc ks pc lv st M1) : GC G Q nn kc ks pc lv st e := kk e hf
theorem h_nmV {G : GX} {Q : State → Prop} {nn kc ks pc : Nat} {lv : List (Nat × Value)} {st : List Value} {M : Mem} {i : Nat} {e : Int32} {β : Type} {kf : Int32 → Option β} {res : β} (hf : pu e kf = some res) (kk : ∀ x, kf x = some res → GC G Q nn kc ks pc ((i, .int x) :: lv) st M) : GC G Q nn kc ks pc ((i, .int e) :: lv) st M := kk e hf
theorem entC_0 {w : WX} {M : Mem} {k : Nat} (h : kd k = 0) : entC w M k = .inr (0, (.int (M.1 k 0)) :: (rc w (M.2.2 k 1)) :: []) := by
  unfold entC entCK
  rw [h]
  rfl
theorem entC_1 {w : WX} {M : Mem} {k : Nat} (h : kd k = 1) : entC w M k = .inr (1, (rc w (M.2.2 k 0)) :: (rc w (M.2.2 k 1)) :: (rc w (M.2.2 k 2)) :: (.int (M.1 k 3)) :: (rc w (M.2.2 k 4)) :: (rc w (M.2.2 k 5)) :: (rc w (M.2.2 k 6)) :: (rc w (M.2.2 k 7)) :: (rc w (M.2.2 k 8)) :: []) := by
  unfold entC entCK
  rw [h]
  rfl
theorem entC_2 {w : WX} {M : Mem} {k : Nat} (h : kd k = 2) : entC w M k = .inr (2, (.int (M.1 k 0)) :: (.int (M.1 k 1)) :: (.int (M.1 k 2)) :: (.int (M.1 k 3)) :: (.int (M.1 k 4)) :: (.int (M.1 k 5)) :: (.int (M.1 k 6)) :: (.int (M.1 k 7)) :: (.int (M.1 k 8)) :: (rc w (M.2.2 k 9)) :: (rc w (M.2.2 k 10)) :: (rc w (M.2.2 k 11)) :: (rc w (M.2.2 k 12)) :: []) := by
  unfold entC entCK
  rw [h]
  rfl
theorem entC_3 {w : WX} {M : Mem} {k : Nat} (h : kd k = 3) : entC w M k = .inr (3, (.int (M.1 k 0)) :: (rc w (M.2.2 k 1)) :: (rc w (M.2.2 k 2)) :: []) := by
  unfold entC entCK
  rw [h]
  rfl
theorem entC_4 {w : WX} {M : Mem} {k : Nat} (h : kd k = 4) : entC w M k = .inr (4, (.int (M.1 k 0)) :: (rc w (M.2.2 k 1)) :: (rc w (M.2.2 k 2)) :: (rc w (M.2.2 k 3)) :: (rc w (M.2.2 k 4)) :: (rc w (M.2.2 k 5)) :: (.int (M.1 k 6)) :: (rc w (M.2.2 k 7)) :: (.int (M.1 k 8)) :: (rc w (M.2.2 k 9)) :: (rc w (M.2.2 k 10)) :: (rc w (M.2.2 k 11)) :: (rc w (M.2.2 k 12)) :: (rc w (M.2.2 k 13)) :: []) := by
  unfold entC entCK
  rw [h]
  rfl
theorem entC_5 {w : WX} {M : Mem} {k : Nat} (h : kd k = 5) : entC w M k = .inr (5, (rc w (M.2.2 k 0)) :: (rc w (M.2.2 k 1)) :: (rc w (M.2.2 k 2)) :: (.int (M.1 k 3)) :: (.int (M.1 k 4)) :: (.int (M.1 k 5)) :: (rc w (M.2.2 k 6)) :: (rc w (M.2.2 k 7)) :: []) := by
  unfold entC entCK
  rw [h]
  rfl
theorem entC_6 {w : WX} {M : Mem} {k : Nat} (h : kd k = 6) : entC w M k = .inr (6, (rc w (M.2.2 k 0)) :: (rc w (M.2.2 k 1)) :: (rc w (M.2.2 k 2)) :: (rc w (M.2.2 k 3)) :: []) := by
  unfold entC entCK
  rw [h]
  rfl
theorem entC_7 {w : WX} {M : Mem} {k : Nat} (h : kd k = 7) : entC w M k = .inr (7, (rc w (M.2.2 k 0)) :: (.int (M.1 k 1)) :: (.int (M.1 k 2)) :: (.int (M.1 k 3)) :: []) := by
  unfold entC entCK
  rw [h]
  rfl
theorem entC_8 {w : WX} {M : Mem} {k : Nat} (h : kd k = 8) : entC w M k = .inr (8, (.int (M.1 k 0)) :: (rc w (M.2.2 k 1)) :: (rc w (M.2.2 k 2)) :: []) := by
  unfold entC entCK
  rw [h]
  rfl
theorem entC_9 {w : WX} {M : Mem} {k : Nat} (h : kd k = 9) : entC w M k = .inr (9, (rc w (M.2.2 k 0)) :: (.int (M.1 k 1)) :: (.int (M.1 k 2)) :: (.int (M.1 k 3)) :: (.int (M.1 k 4)) :: (.int (M.1 k 5)) :: (rc w (M.2.2 k 6)) :: []) := by
  unfold entC entCK
  rw [h]
  rfl
theorem entC_10 {w : WX} {M : Mem} {k : Nat} (h : kd k = 10) : entC w M k = .inr (10, (rc w (M.2.2 k 0)) :: (.int (M.1 k 1)) :: (.int (M.1 k 2)) :: (rc w (M.2.2 k 3)) :: (rc w (M.2.2 k 4)) :: (rc w (M.2.2 k 5)) :: (rc w (M.2.2 k 6)) :: (rc w (M.2.2 k 7)) :: (rc w (M.2.2 k 8)) :: (rc w (M.2.2 k 9)) :: (rc w (M.2.2 k 10)) :: (.int (M.1 k 11)) :: (rc w (M.2.2 k 12)) :: (rc w (M.2.2 k 13)) :: (rc w (M.2.2 k 14)) :: (rc w (M.2.2 k 15)) :: []) := by
  unfold entC entCK
  rw [h]
  rfl
theorem entC_11 {w : WX} {M : Mem} {k : Nat} (h : kd k = 11) : entC w M k = .inr (11, (.int (M.1 k 0)) :: (.int (M.1 k 1)) :: (.int (M.1 k 2)) :: (.int (M.1 k 3)) :: (.int (M.1 k 4)) :: (.int (M.1 k 5)) :: (.int (M.1 k 6)) :: (.int (M.1 k 7)) :: (rc w (M.2.2 k 8)) :: (rc w (M.2.2 k 9)) :: (rc w (M.2.2 k 10)) :: (rc w (M.2.2 k 11)) :: (rc w (M.2.2 k 12)) :: (rc w (M.2.2 k 13)) :: (rc w (M.2.2 k 14)) :: (rc w (M.2.2 k 15)) :: (rc w (M.2.2 k 16)) :: (rc w (M.2.2 k 17)) :: (rc w (M.2.2 k 18)) :: (rc w (M.2.2 k 19)) :: (rc w (M.2.2 k 20)) :: (.int (M.1 k 21)) :: (.int (M.1 k 22)) :: (.int (M.1 k 23)) :: (rc w (M.2.2 k 24)) :: (.int (M.1 k 25)) :: (.int (M.1 k 26)) :: (.int (M.1 k 27)) :: (.int (M.1 k 28)) :: (.int (M.1 k 29)) :: (.int (M.1 k 30)) :: (.int (M.1 k 31)) :: (.long (M.2.1 k 32)) :: (.int (M.1 k 33)) :: (.int (M.1 k 34)) :: (.int (M.1 k 35)) :: (.int (M.1 k 36)) :: (.int (M.1 k 37)) :: (.int (M.1 k 38)) :: (.int (M.1 k 39)) :: (.int (M.1 k 40)) :: (.int (M.1 k 41)) :: (.int (M.1 k 42)) :: (.int (M.1 k 43)) :: (.int (M.1 k 44)) :: (.int (M.1 k 45)) :: (.int (M.1 k 46)) :: (rc w (M.2.2 k 47)) :: (rc w (M.2.2 k 48)) :: (rc w (M.2.2 k 49)) :: (rc w (M.2.2 k 50)) :: (rc w (M.2.2 k 51)) :: (rc w (M.2.2 k 52)) :: (rc w (M.2.2 k 53)) :: (rc w (M.2.2 k 54)) :: (rc w (M.2.2 k 55)) :: (rc w (M.2.2 k 56)) :: (rc w (M.2.2 k 57)) :: (rc w (M.2.2 k 58)) :: (rc w (M.2.2 k 59)) :: (rc w (M.2.2 k 60)) :: (rc w (M.2.2 k 61)) :: (rc w (M.2.2 k 62)) :: (rc w (M.2.2 k 63)) :: (.int (M.1 k 64)) :: (rc w (M.2.2 k 65)) :: (rc w (M.2.2 k 66)) :: (.int (M.1 k 67)) :: (rc w (M.2.2 k 68)) :: (.int (M.1 k 69)) :: (rc w (M.2.2 k 70)) :: (rc w (M.2.2 k 71)) :: (rc w (M.2.2 k 72)) :: (.int (M.1 k 73)) :: (.int (M.1 k 74)) :: (.int (M.1 k 75)) :: (.int (M.1 k 76)) :: (rc w (M.2.2 k 77)) :: (rc w (M.2.2 k 78)) :: (rc w (M.2.2 k 79)) :: []) := by
  unfold entC entCK
  rw [h]
  rfl
theorem entC_24 {w : WX} {M : Mem} {k : Nat} (h : kd k = 24) : entC w M k = .inl (w.2.2.2 4, ln k, .inr (.inr (.inr (.inr fun j => if M.2.2 k j = 0 then none else some (w.1 + (M.2.2 k j - 1)))))) := by
  unfold entC entCK
  rw [h]
  rfl
theorem h_newq {G : GX} {Q : State → Prop} {nn kc ks pc nL : Nat} {lv : List (Nat × Value)} {st : List Value} {M : Mem} {b : ByteArray} {own : String} {ret : Option FieldType} {rm : Room} (h : OKm G b own nL ret rm) (N : Nat) {idx : Nat} {v : Int32} (hn : nn < KN) (hk2 : kd nn = 24) (hl2 : ln nn = N) (h0 : ¬ v < 0) (hN : v.toNatClampNeg = N) (hN2 : N ≤ 3000) (hcl : Cond.classLink own idx "TurnBrothers$City" ∈ LW) (hcells : kc + 1 ≤ rm.cells) (hslots : ks + N ≤ rm.slots) (hd : decode b pc = .ok (.anewarray idx, 3))
    (k : GC G Q (nn + 1) (kc + 1) (ks + N) (pc + 3) lv (rv G.1 nn :: st) (z3 M nn)) : GC G Q nn kc ks pc lv (.int v :: st) M := by
  obtain ⟨w, p, l, e, R, s, m, args, below, meth, c⟩ := G
  obtain ⟨hx, hb, hml, hown, hts, hSS, hlk, hret, hR⟩ := h
  intro H locs ls hl hP hS
  obtain ⟨hP, hz, hle⟩ := hP
  subst hR
  subst hN
  refine W.anew hx hb hown (hts _ hcl) (va_AO.use hSS.2.2.2.2.2.2.2.2.2.2) rfl hd rfl h0 (Nat.le_trans (Nat.mul_le_mul_right 4 hN2) (by decide)) hcells hslots fun cA kA comp f1 f2 f3 f4 => ?_
  have hcA : cA = w.2.2.2 4 := by
    obtain ⟨_, _, _, _, _, q⟩ := (hSS.1.2 4 _ rfl).2
    exact Option.some.inj (f1.symm.trans q)
  subst hcA
  generalize hH1 : H.push ({ cls := w.2.2.2 4, slots := Array.replicate v.toNatClampNeg .null, vm := .none } : Cell) = H1
  have z1 : H1.size = H.size + 1 := by rw [← hH1, Array.size_push]
  have e1 : H1[H.size]? = some (arrV (w.2.2.2 4) v.toNatClampNeg (fun _ => .null)) := by rw [← hH1, Array.getElem?_push_size, ← arrV_new]
  have o1 : ∀ q : Nat, q < H.size → H1[q]? = H[q]? := fun q hq => by rw [← hH1, Array.getElem?_push, if_neg (Nat.ne_of_lt hq)]
  have hk : ∀ (k : Nat) (x : Nat × va_E), (WLC w nn M)[k]? = some x → H1[x.1]? = H[x.1]? := fun k x hx9 => o1 x.1 ((hP k x hx9).lt)
  have hnew : va_P w.2.2.1 vwCl (WLC w nn M ++ [(w.1 + nn, .inl (w.2.2.2 4, v.toNatClampNeg, .inr (.inr (.inr (.inr (fun _ => none))))))]) H1 := (hP.kept hk).app (fun k x hx9 => by
    have hz9 : k < 1 := (List.getElem?_eq_some_iff.mp hx9).1
    rw [show k = 0 by omega] at hx9
    cases hx9
    show H1[w.1 + nn]? = some (vp_cell _ _)
    rw [vp_cell_q, ← hz]
    exact e1)
  rw [WLC_push (by unfold entCK; rw [hk2, hl2]; rfl)] at hnew
  have k9 := k H1 locs ls hl ⟨hnew, by omega, hn⟩ ⟨Nat.le_trans hS.1 (by omega), fun x h1 h2 => (o1 x (by have := hS.1; omega)).trans (hS.2.1 x h1 h2), hS.2.2⟩
  rw [rv_lt hn] at k9
  rw [hz]
  exact k9
theorem h_aast {G : GX} {Q : State → Prop} {nn kc ks pc nL : Nat} {lv : List (Nat × Value)} {st : List Value} {M : Mem} {b : ByteArray} {own : String} {ret : Option FieldType} {rm : Room} (h : OKm G b own nL ret rm) {o : Nat} {v : Nat} (n : Nat) {i : Int32} {β : Type} {kf : Mem → Option β} {res : β} (ho : kd o = 24) (hon : o < nn) (hn : ln o = n) (hv : kd v = 2) (hvn : v < nn) (hf : stA M o n i v kf = some res) (hd : decode b pc = .ok (.aastore, 1)) (kk : ∀ M1, kf M1 = some res → GC G Q nn kc ks (pc + 1) lv st M1) : GC G Q nn kc ks pc lv (rv G.1 v :: .int i :: rv G.1 o :: st) M := by
  obtain ⟨w, p, l, e, R, s, m, args, below, meth, c⟩ := G
  obtain ⟨hx, hb, hml, hown, hts, hSS, hlk, hret, hR⟩ := h
  intro H locs ls hl hP hS
  obtain ⟨hP, hz, hle⟩ := hP
  rw [rv_lt (by omega), rv_lt (by omega)]
  have hw := WLC_at (w := w) (M := M) hon
  rw [entC_24 ho] at hw
  have hwv := WLC_at (w := w) (M := M) hvn
  rw [entC_2 hv] at hwv
  obtain ⟨hin, hk⟩ := pre_if hf
  subst hn
  have hlt : i.toNatClampNeg < ln o := Nat.not_le.mp fun q => hin (Or.inr q)
  have h0 : ¬ i < 0 := fun q => hin (Or.inl q)
  obtain ⟨r', hr', cellV, g1, g2, g3, -⟩ := hP v _ hwv
  have hcls := (hSS.1.1 2 _ rfl).2
  obtain ⟨kA, comp, k1, k2, k3, -⟩ := (hSS.1.2 4 _ rfl).2
  have hcomp : comp = w.2.2.1.1 2 := Option.some.inj (k3.symm.trans hcls.1)
  subst hcomp
  obtain ⟨kC, hkC, -⟩ := hcls.2
  refine W.aast hx hb (hP o _ hw) (fun q h => by cases h) (fun h => by cases h) k1 k2 rfl hkC ⟨h0, by show _ < (arrV _ _ _).slots.size; rw [arrV_size]; exact hlt⟩ g1 (fun q h => by rw [g3] at h; cases h) (by rw [g2]; exact hkC) (by rw [g2]; exact va_assign hcls) rfl rfl hd fun H1 e1 z1 oq => ?_
  have hat9 : va_at w.2.2.1 vwCl (w.1 + o, .inl (w.2.2.2 4, ln o, .inr (.inr (.inr (.inr fun j => if va_up (M.2.2 o) i.toNatClampNeg (v + 1) j = 0 then none else some (w.1 + (va_up (M.2.2 o) i.toNatClampNeg (v + 1) j - 1))))))) H1 := by
    show H1[w.1 + o]? = some (vp_cell _ _)
    rw [e1]
    rw [vp_cell_q, vp_cell_q, arrV_store]
    congr 2
    funext q
    by_cases hq : q = i.toNatClampNeg
    · subst hq
      simp [updV, va_up, va_rf]
    · simp [updV, va_up, hq]
  have hP1 := va_P.set hP (WLC_D w nn M) hw hat9 oq
  rw [WLC_set (M' := sR M o i.toNatClampNeg (v + 1)) hon (by unfold sR; rw [entC_aR_s]; unfold entCK; rw [ho]; rfl) (fun j hj => entC_aR hj)] at hP1
  exact kk _ hk H1 _ ls hl ⟨hP1, by rw [z1]; exact hz, hle⟩ (hS.put z1 oq ((WLC_D w nn M).2 o _ hw))
theorem h_qlen {G : GX} {Q : State → Prop} {nn kc ks pc nL : Nat} {lv : List (Nat × Value)} {st : List Value} {M : Mem} {b : ByteArray} {own : String} {ret : Option FieldType} {rm : Room} (h : OKm G b own nL ret rm) {o : Nat} (n : Nat) {z : Int32} (ho : kd o = 24) (hon : o < nn) (hn : ln o = n) (hz9 : Int32.ofNat n = z) (hd : decode b pc = .ok (.arraylength, 1)) (k : GC G Q nn kc ks (pc + 1) lv (.int z :: st) M) : GC G Q nn kc ks pc lv (rv G.1 o :: st) M := by
  obtain ⟨w, p, l, e, R, s, m, args, below, meth, c⟩ := G
  obtain ⟨hx, hb, hml, hown, hts, hSS, hlk, hret, hR⟩ := h
  intro H locs ls hl hP hS
  obtain ⟨hP, hz, hle⟩ := hP
  rw [rv_lt (by omega)]
  have hw := WLC_at (w := w) (M := M) hon
  rw [entC_24 ho] at hw
  subst hn
  exact va_alen hx hb hSS.1 hP o 4 hw rfl hz9 hd (k H locs ls hl ⟨hP, hz, hle⟩ hS)
theorem h_callIN {G : GX} {Q : State → Prop} {nn kc ks pc nL : Nat} {lv : List (Nat × Value)} {st : List Value} {M : Mem} {b : ByteArray} {own : String} {ret : Option FieldType} {rm : Room} (h : OKm G b own nL ret rm) {o : Nat} {idx n maxL mc ms : Nat} {y : MethodName} {bytes : ByteArray} {rm1 : Room} {As rest : List Value} {post : Nat → Mem → Prop} (hce : CE y bytes maxL none n) (host : String) (hne : (own, idx, y, host) ∈ wNe) (hin : Cond.instanceMethod y ∈ LW) (hyn : y.name = "<init>") (ho : o < KN) (hrc : rm1.cells = mc) (hrs : rm1.slots = ms) (hRR : rm1.frames + 1 ≤ rm.frames ∧ 8 + (maxL + 11) + rm1.locals ≤ rm.locals) (hroom : kc + mc ≤ rm.cells ∧ ks + ms ≤ rm.slots) (hn : As.length = n) (hd : decode b pc = .ok (.invokespecial idx, 3)) (hst : st = As.reverse ++ rv G.1 o :: rest) (hcat : (rest.map fun v => v.category).sum ≤ 8) (cm : CC G.2.2.1 G.1 y bytes maxL rm1 mc ms (rv G.1 o :: As) nn M post) (kk : ∀ (n1 : Nat) (M1 : Mem), post n1 M1 → GC G Q n1 (kc + mc) (ks + ms) (pc + 3) lv rest M1) : GC G Q nn kc ks pc lv st M := by
  obtain ⟨w, p, l, e, R, s, m, args, below, meth, c⟩ := G
  obtain ⟨hx, hb, hml, hown, hts, hSS, hlk, hret, hR⟩ := h
  obtain ⟨hco, hini, hy1, hy2, hpar⟩ := hce
  intro H locs ls hl hP hS
  subst hR
  subst hst
  have cw : va_CN R s args own idx y host bytes maxL none (Cond.code y bytes maxL none :: LW) rm1 mc ms n := va_cnB n hts (LW_in hco) rfl hrc hrs (hSS.2.2.2.2.2.2.2.2.2.1 _ hne) (hts _ hini) ⟨hy1, hy2, hpar⟩ hRR
  exact h_back (va_runIN (As := As) (rest := rest) (b := w.1 + o) ⟨hx, hb, hml, hown, hts⟩ cm ⟨cw, hyn, hts _ hin⟩ ⟨CC_blind, fun U hU hW => ⟨by rw [rv_lt ho], by rw [hU]; exact hP, hSS.to hW hS hU⟩⟩ rfl hn (hl.1.trans hml) (by rw [rv_lt ho]) (lv_room hcat) hd hroom) hS hl kk
theorem h_gsE {G : GX} {Q : State → Prop} {nn kc ks pc nL : Nat} {lv : List (Nat × Value)} {st : List Value} {M : Mem} {b : ByteArray} {own : String} {ret : Option FieldType} {rm : Room} (h : OKm G b own nL ret rm) (i : Nat) {idx : Nat} (hi : i < 23) (hlink : Cond.fieldLink own idx "TurnBrothers$Word" (wNm.getD i "") "LTurnBrothers$Word;" ∈ LW) (hd : decode b pc = .ok (.getstatic idx, 3)) (k : GC G Q nn kc ks (pc + 3) lv (rv G.1 (1000 + i) :: st) M) : GC G Q nn kc ks pc lv st M := by
  obtain ⟨w, p, l, e, R, s, m, args, below, meth, c⟩ := G
  obtain ⟨hx, hb, hml, hown, hts, hSS, hlk, hret, hR⟩ := h
  intro H locs ls hl hP hS
  have k := k H locs ls hl hP hS
  rw [rv_hi] at k
  exact va_gets hx hb (hSS.2.1.1.1 i hi).1 hS hown (hts _ hlink) (fun _ q => q) hd k
theorem instX12 : Cond.instantiable RX12 16 ∈ LW := List.mem_filter.mpr ⟨(List.mem_append_right _ (List.mem_append_left _ (List.mem_of_getElem? (i := 29) rfl))), rfl⟩
theorem iniX12 : Cond.initialized RX12 ∈ LW := List.mem_filter.mpr ⟨(List.mem_append_right _ (List.mem_append_left _ (List.mem_of_getElem? (i := 1) rfl))), rfl⟩
theorem instX6 : Cond.instantiable RX6 8 ∈ LW := List.mem_filter.mpr ⟨(List.mem_append_right _ (List.mem_append_left _ (List.mem_of_getElem? (i := 37) rfl))), rfl⟩
theorem iniX6 : Cond.initialized RX6 ∈ LW := List.mem_filter.mpr ⟨(List.mem_append_right _ (List.mem_append_left _ (List.mem_of_getElem? (i := 2) rfl))), rfl⟩
theorem instX5 : Cond.instantiable RX5 14 ∈ LW := List.mem_filter.mpr ⟨(List.mem_append_right _ (List.mem_append_left _ (List.mem_of_getElem? (i := 43) rfl))), rfl⟩
theorem iniX5 : Cond.initialized RX5 ∈ LW := List.mem_filter.mpr ⟨(List.mem_append_right _ (List.mem_append_left _ (List.mem_of_getElem? (i := 3) rfl))), rfl⟩
theorem instX4 : Cond.instantiable RX4 3 ∈ LW := List.mem_filter.mpr ⟨(List.mem_append_right _ (List.mem_append_left _ (List.mem_of_getElem? (i := 49) rfl))), rfl⟩
theorem iniX4 : Cond.initialized RX4 ∈ LW := List.mem_filter.mpr ⟨(List.mem_append_right _ (List.mem_append_left _ (List.mem_of_getElem? (i := 4) rfl))), rfl⟩
theorem instX8 : Cond.instantiable RX8 4 ∈ LW := List.mem_filter.mpr ⟨(List.mem_append_right _ (List.mem_append_left _ (List.mem_of_getElem? (i := 74) rfl))), rfl⟩
theorem iniX8 : Cond.initialized RX8 ∈ LW := List.mem_filter.mpr ⟨(List.mem_append_right _ (List.mem_append_left _ (List.mem_of_getElem? (i := 5) rfl))), rfl⟩
theorem instX3 : Cond.instantiable RX3 13 ∈ LW := List.mem_filter.mpr ⟨(List.mem_append_right _ (List.mem_append_left _ (List.mem_of_getElem? (i := 178) rfl))), rfl⟩
theorem iniX3 : Cond.initialized RX3 ∈ LW := List.mem_filter.mpr ⟨(List.mem_append_right _ (List.mem_append_left _ (List.mem_of_getElem? (i := 6) rfl))), rfl⟩
theorem instX10 : Cond.instantiable RX10 7 ∈ LW := List.mem_filter.mpr ⟨(List.mem_append_right _ (List.mem_append_right _ (List.mem_append_left _ (List.mem_of_getElem? (i := 26) rfl)))), rfl⟩
theorem iniX10 : Cond.initialized RX10 ∈ LW := List.mem_filter.mpr ⟨(List.mem_append_right _ (List.mem_append_left _ (List.mem_of_getElem? (i := 7) rfl))), rfl⟩
theorem instX7 : Cond.instantiable RX7 4 ∈ LW := List.mem_filter.mpr ⟨(List.mem_append_right _ (List.mem_append_right _ (List.mem_append_left _ (List.mem_of_getElem? (i := 88) rfl)))), rfl⟩
theorem iniX7 : Cond.initialized RX7 ∈ LW := List.mem_filter.mpr ⟨(List.mem_append_right _ (List.mem_append_left _ (List.mem_of_getElem? (i := 10) rfl))), rfl⟩
theorem instX2 : Cond.instantiable RX2 9 ∈ LW := List.mem_filter.mpr ⟨(List.mem_append_right _ (List.mem_append_right _ (List.mem_append_left _ (List.mem_of_getElem? (i := 111) rfl)))), rfl⟩
theorem iniX2 : Cond.initialized RX2 ∈ LW := List.mem_filter.mpr ⟨(List.mem_append_right _ (List.mem_append_left _ (List.mem_of_getElem? (i := 11) rfl))), rfl⟩
theorem instX1 : Cond.instantiable RX1 2 ∈ LW := List.mem_filter.mpr ⟨(List.mem_append_right _ (List.mem_append_right _ (List.mem_append_left _ (List.mem_of_getElem? (i := 153) rfl)))), rfl⟩
theorem iniX1 : Cond.initialized RX1 ∈ LW := List.mem_filter.mpr ⟨(List.mem_append_right _ (List.mem_append_left _ (List.mem_of_getElem? (i := 12) rfl))), rfl⟩
theorem instX9 : Cond.instantiable RX9 3 ∈ LW := List.mem_filter.mpr ⟨(List.mem_append_right _ (List.mem_append_right _ (List.mem_append_left _ (List.mem_of_getElem? (i := 167) rfl)))), rfl⟩
theorem iniX9 : Cond.initialized RX9 ∈ LW := List.mem_filter.mpr ⟨(List.mem_append_right _ (List.mem_append_left _ (List.mem_of_getElem? (i := 13) rfl))), rfl⟩
theorem instX13 : Cond.instantiable RX13 80 ∈ LW := List.mem_filter.mpr ⟨(List.mem_append_right _ (List.mem_append_right _ (List.mem_append_right _ (List.mem_append_right _ (List.mem_append_right _ (List.mem_append_right _ (List.mem_append_left _ (List.mem_of_getElem? (i := 47) rfl)))))))), rfl⟩
theorem iniX13 : Cond.initialized RX13 ∈ LW := List.mem_filter.mpr ⟨(List.mem_append_right _ (List.mem_append_left _ (List.mem_of_getElem? (i := 14) rfl))), rfl⟩
theorem arr_byte : Cond.arrayClass .byte ∈ LW := List.mem_filter.mpr ⟨(List.mem_append_right _ (List.mem_append_left _ (List.mem_of_getElem? (i := 71) rfl))), rfl⟩
theorem arr_int : Cond.arrayClass .int ∈ LW := List.mem_filter.mpr ⟨(List.mem_append_right _ (List.mem_append_left _ (List.mem_of_getElem? (i := 72) rfl))), rfl⟩
theorem arr_long : Cond.arrayClass .long ∈ LW := List.mem_filter.mpr ⟨(List.mem_append_right _ (List.mem_append_right _ (List.mem_append_left _ (List.mem_of_getElem? (i := 149) rfl)))), rfl⟩
theorem arr_boolean : Cond.arrayClass .boolean ∈ LW := List.mem_filter.mpr ⟨(List.mem_append_right _ (List.mem_append_right _ (List.mem_append_right _ (List.mem_append_right _ (List.mem_append_right _ (List.mem_append_right _ (List.mem_append_right _ (List.mem_append_left _ (List.mem_of_getElem? (i := 53) rfl))))))))), rfl⟩
theorem imObj : Cond.instanceMethod objectInit ∈ LW := List.mem_filter.mpr ⟨(List.mem_append_right _ (List.mem_append_left _ (List.mem_of_getElem? (i := 34) rfl))), rfl⟩
theorem ceObj : Cond.code objectInit ⟨#[0xb1]⟩ 1 none ∈ LW := List.mem_filter.mpr ⟨(List.mem_append_right _ (List.mem_append_left _ (List.mem_of_getElem? (i := 35) rfl))), rfl⟩
theorem hpX12_9 {G : GX} {Q : State → Prop} {nn kc ks pc nL : Nat} {lv : List (Nat × Value)} {st : List Value} {M : Mem} {b : ByteArray} {ret : Option FieldType} {rm : Room} (h : OKm G b RX12 nL ret rm) {o : Nat} {x : Nat} (hk : kd o = 10) (hon : o < nn) (hin2 : G.2.2.2.2.2.2.2.2.2.1.name = "<init>") (hd : decode b pc = .ok (.putfield 9, 3)) (k : GC G Q nn kc ks (pc + 3) lv st (sR M o 0 (x + 1))) : GC G Q nn kc ks pc lv (rv G.1 x :: rv G.1 o :: st) M := by
  refine h_putF h inW12 rfl 0 (by decide) flX12_9 tyX12_ok nmX12 rfl hin2 rfl hon (entC_10 hk) (Nat.le_of_ble_eq_true rfl) ?_ (fun q hq => entC_aR hq) rfl rfl rfl hd k
  show entC G.1 (sR M o 0 (x + 1)) o = _
  unfold sR
  rw [entC_aR_s]
  unfold entCK
  rw [hk]
  rfl
theorem hpX12_13 {G : GX} {Q : State → Prop} {nn kc ks pc nL : Nat} {lv : List (Nat × Value)} {st : List Value} {M : Mem} {b : ByteArray} {ret : Option FieldType} {rm : Room} (h : OKm G b RX12 nL ret rm) {o : Nat} {x : Int32} (hk : kd o = 10) (hon : o < nn) (hd : decode b pc = .ok (.putfield 13, 3)) (k : GC G Q nn kc ks (pc + 3) lv st (sI M o 1 x)) : GC G Q nn kc ks pc lv (.int x :: rv G.1 o :: st) M := by
  refine h_put h inW12 rfl 1 (by decide) flX12_13 tyX12_ok nmX12 rfl hon (entC_10 hk) (Nat.le_of_ble_eq_true rfl) ?_ (fun q hq => entC_aI hq) rfl rfl rfl hd k
  show entC G.1 (sI M o 1 x) o = _
  unfold sI
  rw [entC_aI_s]
  unfold entCK
  rw [hk]
  rfl
theorem hpX12_17 {G : GX} {Q : State → Prop} {nn kc ks pc nL : Nat} {lv : List (Nat × Value)} {st : List Value} {M : Mem} {b : ByteArray} {ret : Option FieldType} {rm : Room} (h : OKm G b RX12 nL ret rm) {o : Nat} {x : Int32} (hk : kd o = 10) (hon : o < nn) (hd : decode b pc = .ok (.putfield 17, 3)) (k : GC G Q nn kc ks (pc + 3) lv st (sI M o 2 x)) : GC G Q nn kc ks pc lv (.int x :: rv G.1 o :: st) M := by
  refine h_put h inW12 rfl 2 (by decide) flX12_17 tyX12_ok nmX12 rfl hon (entC_10 hk) (Nat.le_of_ble_eq_true rfl) ?_ (fun q hq => entC_aI hq) rfl rfl rfl hd k
  show entC G.1 (sI M o 2 x) o = _
  unfold sI
  rw [entC_aI_s]
  unfold entCK
  rw [hk]
  rfl
theorem hpX12_20 {G : GX} {Q : State → Prop} {nn kc ks pc nL : Nat} {lv : List (Nat × Value)} {st : List Value} {M : Mem} {b : ByteArray} {ret : Option FieldType} {rm : Room} (h : OKm G b RX12 nL ret rm) {o : Nat} {x : Nat} (hk : kd o = 10) (hon : o < nn) (hin2 : G.2.2.2.2.2.2.2.2.2.1.name = "<init>") (hd : decode b pc = .ok (.putfield 20, 3)) (k : GC G Q nn kc ks (pc + 3) lv st (sR M o 3 (x + 1))) : GC G Q nn kc ks pc lv (rv G.1 x :: rv G.1 o :: st) M := by
  refine h_putF h inW12 rfl 3 (by decide) flX12_20 tyX12_ok nmX12 rfl hin2 rfl hon (entC_10 hk) (Nat.le_of_ble_eq_true rfl) ?_ (fun q hq => entC_aR hq) rfl rfl rfl hd k
  show entC G.1 (sR M o 3 (x + 1)) o = _
  unfold sR
  rw [entC_aR_s]
  unfold entCK
  rw [hk]
  rfl
theorem hnX12_24 {G : GX} {Q : State → Prop} {nn kc ks pc nL : Nat} {lv : List (Nat × Value)} {st : List Value} {M : Mem} {b : ByteArray} {ret : Option FieldType} {rm : Room} (h : OKm G b RX12 nL ret rm) (hn : nn < KN) (hk2 : kd nn = 5) (hcells : kc + 1 ≤ rm.cells) (hslots : ks + 8 ≤ rm.slots) (hd : decode b pc = .ok (.new 24, 3)) (k : GC G Q (nn + 1) (kc + 1) (ks + 8) (pc + 3) lv (rv G.1 nn :: st) (z3 M nn)) : GC G Q nn kc ks pc lv st M :=
  h_new h inW6 tyX6_ok clX12_24 instX6 iniX6 rfl (fun j hj => vpV_range hj) hn (by unfold entCK; rw [hk2]; rfl) hcells hslots hd k
theorem hgX12_9 {G : GX} {Q : State → Prop} {nn kc ks pc nL : Nat} {lv : List (Nat × Value)} {st : List Value} {M : Mem} {b : ByteArray} {ret : Option FieldType} {rm : Room} (h : OKm G b RX12 nL ret rm) {o : Nat} {β : Type} {kf : Nat → Option β} {res : β} (hk : kd o = 10) (hon : o < nn) (hf : ldR M o 0 kf = some res) (hd : decode b pc = .ok (.getfield 9, 3)) (kk : ∀ x, kf x = some res → GC G Q nn kc ks (pc + 3) lv (rv G.1 x :: st) M) : GC G Q nn kc ks pc lv (rv G.1 o :: st) M := by
  obtain ⟨h9, hk9⟩ := pre_if hf
  exact h_get (z := rv G.1 (M.2.2 o 0 - 1)) h inW12 rfl 0 (by decide) flX12_9 hon (entC_10 hk) (by show some (rc G.1 (M.2.2 o 0)) = _; unfold rc; rw [if_neg h9]) hd (kk _ hk9)
theorem hpX12_29 {G : GX} {Q : State → Prop} {nn kc ks pc nL : Nat} {lv : List (Nat × Value)} {st : List Value} {M : Mem} {b : ByteArray} {ret : Option FieldType} {rm : Room} (h : OKm G b RX12 nL ret rm) {o : Nat} {x : Nat} (hk : kd o = 10) (hon : o < nn) (hin2 : G.2.2.2.2.2.2.2.2.2.1.name = "<init>") (hd : decode b pc = .ok (.putfield 29, 3)) (k : GC G Q nn kc ks (pc + 3) lv st (sR M o 4 (x + 1))) : GC G Q nn kc ks pc lv (rv G.1 x :: rv G.1 o :: st) M := by
  refine h_putF h inW12 rfl 4 (by decide) flX12_29 tyX12_ok nmX12 rfl hin2 rfl hon (entC_10 hk) (Nat.le_of_ble_eq_true rfl) ?_ (fun q hq => entC_aR hq) rfl rfl rfl hd k
  show entC G.1 (sR M o 4 (x + 1)) o = _
  unfold sR
  rw [entC_aR_s]
  unfold entCK
  rw [hk]
  rfl
theorem hnX12_33 {G : GX} {Q : State → Prop} {nn kc ks pc nL : Nat} {lv : List (Nat × Value)} {st : List Value} {M : Mem} {b : ByteArray} {ret : Option FieldType} {rm : Room} (h : OKm G b RX12 nL ret rm) (hn : nn < KN) (hk2 : kd nn = 6) (hcells : kc + 1 ≤ rm.cells) (hslots : ks + 4 ≤ rm.slots) (hd : decode b pc = .ok (.new 33, 3)) (k : GC G Q (nn + 1) (kc + 1) (ks + 4) (pc + 3) lv (rv G.1 nn :: st) (z3 M nn)) : GC G Q nn kc ks pc lv st M :=
  h_new h inW7 tyX7_ok clX12_33 instX7 iniX7 rfl (fun j hj => vpV_range hj) hn (by unfold entCK; rw [hk2]; rfl) hcells hslots hd k
theorem hpX12_36 {G : GX} {Q : State → Prop} {nn kc ks pc nL : Nat} {lv : List (Nat × Value)} {st : List Value} {M : Mem} {b : ByteArray} {ret : Option FieldType} {rm : Room} (h : OKm G b RX12 nL ret rm) {o : Nat} {x : Nat} (hk : kd o = 10) (hon : o < nn) (hin2 : G.2.2.2.2.2.2.2.2.2.1.name = "<init>") (hd : decode b pc = .ok (.putfield 36, 3)) (k : GC G Q nn kc ks (pc + 3) lv st (sR M o 5 (x + 1))) : GC G Q nn kc ks pc lv (rv G.1 x :: rv G.1 o :: st) M := by
  refine h_putF h inW12 rfl 5 (by decide) flX12_36 tyX12_ok nmX12 rfl hin2 rfl hon (entC_10 hk) (Nat.le_of_ble_eq_true rfl) ?_ (fun q hq => entC_aR hq) rfl rfl rfl hd k
  show entC G.1 (sR M o 5 (x + 1)) o = _
  unfold sR
  rw [entC_aR_s]
  unfold entCK
  rw [hk]
  rfl
theorem hnX12_40 {G : GX} {Q : State → Prop} {nn kc ks pc nL : Nat} {lv : List (Nat × Value)} {st : List Value} {M : Mem} {b : ByteArray} {ret : Option FieldType} {rm : Room} (h : OKm G b RX12 nL ret rm) (hn : nn < KN) (hk2 : kd nn = 1) (hcells : kc + 1 ≤ rm.cells) (hslots : ks + 9 ≤ rm.slots) (hd : decode b pc = .ok (.new 40, 3)) (k : GC G Q (nn + 1) (kc + 1) (ks + 9) (pc + 3) lv (rv G.1 nn :: st) (z3 M nn)) : GC G Q nn kc ks pc lv st M :=
  h_new h inW2 tyX2_ok clX12_40 instX2 iniX2 rfl (fun j hj => vpV_range hj) hn (by unfold entCK; rw [hk2]; rfl) hcells hslots hd k
theorem hgX12_36 {G : GX} {Q : State → Prop} {nn kc ks pc nL : Nat} {lv : List (Nat × Value)} {st : List Value} {M : Mem} {b : ByteArray} {ret : Option FieldType} {rm : Room} (h : OKm G b RX12 nL ret rm) {o : Nat} {β : Type} {kf : Nat → Option β} {res : β} (hk : kd o = 10) (hon : o < nn) (hf : ldR M o 5 kf = some res) (hd : decode b pc = .ok (.getfield 36, 3)) (kk : ∀ x, kf x = some res → GC G Q nn kc ks (pc + 3) lv (rv G.1 x :: st) M) : GC G Q nn kc ks pc lv (rv G.1 o :: st) M := by
  obtain ⟨h9, hk9⟩ := pre_if hf
  exact h_get (z := rv G.1 (M.2.2 o 5 - 1)) h inW12 rfl 5 (by decide) flX12_36 hon (entC_10 hk) (by show some (rc G.1 (M.2.2 o 5)) = _; unfold rc; rw [if_neg h9]) hd (kk _ hk9)
theorem hpX12_45 {G : GX} {Q : State → Prop} {nn kc ks pc nL : Nat} {lv : List (Nat × Value)} {st : List Value} {M : Mem} {b : ByteArray} {ret : Option FieldType} {rm : Room} (h : OKm G b RX12 nL ret rm) {o : Nat} {x : Nat} (hk : kd o = 10) (hon : o < nn) (hin2 : G.2.2.2.2.2.2.2.2.2.1.name = "<init>") (hd : decode b pc = .ok (.putfield 45, 3)) (k : GC G Q nn kc ks (pc + 3) lv st (sR M o 6 (x + 1))) : GC G Q nn kc ks pc lv (rv G.1 x :: rv G.1 o :: st) M := by
  refine h_putF h inW12 rfl 6 (by decide) flX12_45 tyX12_ok nmX12 rfl hin2 rfl hon (entC_10 hk) (Nat.le_of_ble_eq_true rfl) ?_ (fun q hq => entC_aR hq) rfl rfl rfl hd k
  show entC G.1 (sR M o 6 (x + 1)) o = _
  unfold sR
  rw [entC_aR_s]
  unfold entCK
  rw [hk]
  rfl
theorem hnX12_49 {G : GX} {Q : State → Prop} {nn kc ks pc nL : Nat} {lv : List (Nat × Value)} {st : List Value} {M : Mem} {b : ByteArray} {ret : Option FieldType} {rm : Room} (h : OKm G b RX12 nL ret rm) (hn : nn < KN) (hk2 : kd nn = 2) (hcells : kc + 1 ≤ rm.cells) (hslots : ks + 13 ≤ rm.slots) (hd : decode b pc = .ok (.new 49, 3)) (k : GC G Q (nn + 1) (kc + 1) (ks + 13) (pc + 3) lv (rv G.1 nn :: st) (z3 M nn)) : GC G Q nn kc ks pc lv st M :=
  h_new h inW3 tyX3_ok clX12_49 instX3 iniX3 rfl (fun j hj => vpV_range hj) hn (by unfold entCK; rw [hk2]; rfl) hcells hslots hd k
theorem hpX12_52 {G : GX} {Q : State → Prop} {nn kc ks pc nL : Nat} {lv : List (Nat × Value)} {st : List Value} {M : Mem} {b : ByteArray} {ret : Option FieldType} {rm : Room} (h : OKm G b RX12 nL ret rm) {o : Nat} {x : Nat} (hk : kd o = 10) (hon : o < nn) (hin2 : G.2.2.2.2.2.2.2.2.2.1.name = "<init>") (hd : decode b pc = .ok (.putfield 52, 3)) (k : GC G Q nn kc ks (pc + 3) lv st (sR M o 7 (x + 1))) : GC G Q nn kc ks pc lv (rv G.1 x :: rv G.1 o :: st) M := by
  refine h_putF h inW12 rfl 7 (by decide) flX12_52 tyX12_ok nmX12 rfl hin2 rfl hon (entC_10 hk) (Nat.le_of_ble_eq_true rfl) ?_ (fun q hq => entC_aR hq) rfl rfl rfl hd k
  show entC G.1 (sR M o 7 (x + 1)) o = _
  unfold sR
  rw [entC_aR_s]
  unfold entCK
  rw [hk]
  rfl
theorem hpX12_56 {G : GX} {Q : State → Prop} {nn kc ks pc nL : Nat} {lv : List (Nat × Value)} {st : List Value} {M : Mem} {b : ByteArray} {ret : Option FieldType} {rm : Room} (h : OKm G b RX12 nL ret rm) {o : Nat} {x : Nat} (hk : kd o = 10) (hon : o < nn) (hin2 : G.2.2.2.2.2.2.2.2.2.1.name = "<init>") (hd : decode b pc = .ok (.putfield 56, 3)) (k : GC G Q nn kc ks (pc + 3) lv st (sR M o 8 (x + 1))) : GC G Q nn kc ks pc lv (rv G.1 x :: rv G.1 o :: st) M := by
  refine h_putF h inW12 rfl 8 (by decide) flX12_56 tyX12_ok nmX12 rfl hin2 rfl hon (entC_10 hk) (Nat.le_of_ble_eq_true rfl) ?_ (fun q hq => entC_aR hq) rfl rfl rfl hd k
  show entC G.1 (sR M o 8 (x + 1)) o = _
  unfold sR
  rw [entC_aR_s]
  unfold entCK
  rw [hk]
  rfl
theorem hnX12_59 {G : GX} {Q : State → Prop} {nn kc ks pc nL : Nat} {lv : List (Nat × Value)} {st : List Value} {M : Mem} {b : ByteArray} {ret : Option FieldType} {rm : Room} (h : OKm G b RX12 nL ret rm) (hn : nn < KN) (hk2 : kd nn = 0) (hcells : kc + 1 ≤ rm.cells) (hslots : ks + 2 ≤ rm.slots) (hd : decode b pc = .ok (.new 59, 3)) (k : GC G Q (nn + 1) (kc + 1) (ks + 2) (pc + 3) lv (rv G.1 nn :: st) (z3 M nn)) : GC G Q nn kc ks pc lv st M :=
  h_new h inW1 tyX1_ok clX12_59 instX1 iniX1 rfl (fun j hj => vpV_range hj) hn (by unfold entCK; rw [hk2]; rfl) hcells hslots hd k
theorem hpX12_62 {G : GX} {Q : State → Prop} {nn kc ks pc nL : Nat} {lv : List (Nat × Value)} {st : List Value} {M : Mem} {b : ByteArray} {ret : Option FieldType} {rm : Room} (h : OKm G b RX12 nL ret rm) {o : Nat} {x : Nat} (hk : kd o = 10) (hon : o < nn) (hin2 : G.2.2.2.2.2.2.2.2.2.1.name = "<init>") (hd : decode b pc = .ok (.putfield 62, 3)) (k : GC G Q nn kc ks (pc + 3) lv st (sR M o 9 (x + 1))) : GC G Q nn kc ks pc lv (rv G.1 x :: rv G.1 o :: st) M := by
  refine h_putF h inW12 rfl 9 (by decide) flX12_62 tyX12_ok nmX12 rfl hin2 rfl hon (entC_10 hk) (Nat.le_of_ble_eq_true rfl) ?_ (fun q hq => entC_aR hq) rfl rfl rfl hd k
  show entC G.1 (sR M o 9 (x + 1)) o = _
  unfold sR
  rw [entC_aR_s]
  unfold entCK
  rw [hk]
  rfl
theorem hnX12_66 {G : GX} {Q : State → Prop} {nn kc ks pc nL : Nat} {lv : List (Nat × Value)} {st : List Value} {M : Mem} {b : ByteArray} {ret : Option FieldType} {rm : Room} (h : OKm G b RX12 nL ret rm) (hn : nn < KN) (hk2 : kd nn = 8) (hcells : kc + 1 ≤ rm.cells) (hslots : ks + 3 ≤ rm.slots) (hd : decode b pc = .ok (.new 66, 3)) (k : GC G Q (nn + 1) (kc + 1) (ks + 3) (pc + 3) lv (rv G.1 nn :: st) (z3 M nn)) : GC G Q nn kc ks pc lv st M :=
  h_new h inW9 tyX9_ok clX12_66 instX9 iniX9 rfl (fun j hj => vpV_range hj) hn (by unfold entCK; rw [hk2]; rfl) hcells hslots hd k
theorem hpX12_69 {G : GX} {Q : State → Prop} {nn kc ks pc nL : Nat} {lv : List (Nat × Value)} {st : List Value} {M : Mem} {b : ByteArray} {ret : Option FieldType} {rm : Room} (h : OKm G b RX12 nL ret rm) {o : Nat} {x : Nat} (hk : kd o = 10) (hon : o < nn) (hin2 : G.2.2.2.2.2.2.2.2.2.1.name = "<init>") (hd : decode b pc = .ok (.putfield 69, 3)) (k : GC G Q nn kc ks (pc + 3) lv st (sR M o 10 (x + 1))) : GC G Q nn kc ks pc lv (rv G.1 x :: rv G.1 o :: st) M := by
  refine h_putF h inW12 rfl 10 (by decide) flX12_69 tyX12_ok nmX12 rfl hin2 rfl hon (entC_10 hk) (Nat.le_of_ble_eq_true rfl) ?_ (fun q hq => entC_aR hq) rfl rfl rfl hd k
  show entC G.1 (sR M o 10 (x + 1)) o = _
  unfold sR
  rw [entC_aR_s]
  unfold entCK
  rw [hk]
  rfl
theorem hpX12_73 {G : GX} {Q : State → Prop} {nn kc ks pc nL : Nat} {lv : List (Nat × Value)} {st : List Value} {M : Mem} {b : ByteArray} {ret : Option FieldType} {rm : Room} (h : OKm G b RX12 nL ret rm) {o : Nat} {x : Int32} (hk : kd o = 10) (hon : o < nn) (hz : x = 0 ∨ x = 1) (hd : decode b pc = .ok (.putfield 73, 3)) (k : GC G Q nn kc ks (pc + 3) lv st (sI M o 11 x)) : GC G Q nn kc ks pc lv (.int x :: rv G.1 o :: st) M := by
  refine h_put h inW12 rfl 11 (by decide) flX12_73 tyX12_ok nmX12 rfl hon (entC_10 hk) (Nat.le_of_ble_eq_true rfl) ?_ (fun q hq => entC_aI hq) rfl (by rcases hz with rfl | rfl <;> rfl) (by rcases hz with rfl | rfl <;> rfl) hd k
  show entC G.1 (sI M o 11 x) o = _
  unfold sI
  rw [entC_aI_s]
  unfold entCK
  rw [hk]
  rfl
theorem hpX12_77 {G : GX} {Q : State → Prop} {nn kc ks pc nL : Nat} {lv : List (Nat × Value)} {st : List Value} {M : Mem} {b : ByteArray} {ret : Option FieldType} {rm : Room} (h : OKm G b RX12 nL ret rm) {o : Nat} {x : Nat} (hk : kd o = 10) (hon : o < nn) (hin2 : G.2.2.2.2.2.2.2.2.2.1.name = "<init>") (hd : decode b pc = .ok (.putfield 77, 3)) (k : GC G Q nn kc ks (pc + 3) lv st (sR M o 12 (x + 1))) : GC G Q nn kc ks pc lv (rv G.1 x :: rv G.1 o :: st) M := by
  refine h_putF h inW12 rfl 12 (by decide) flX12_77 tyX12_ok nmX12 rfl hin2 rfl hon (entC_10 hk) (Nat.le_of_ble_eq_true rfl) ?_ (fun q hq => entC_aR hq) rfl rfl rfl hd k
  show entC G.1 (sR M o 12 (x + 1)) o = _
  unfold sR
  rw [entC_aR_s]
  unfold entCK
  rw [hk]
  rfl
theorem hpX12_80 {G : GX} {Q : State → Prop} {nn kc ks pc nL : Nat} {lv : List (Nat × Value)} {st : List Value} {M : Mem} {b : ByteArray} {ret : Option FieldType} {rm : Room} (h : OKm G b RX12 nL ret rm) {o : Nat} {x : Nat} (hk : kd o = 10) (hon : o < nn) (hin2 : G.2.2.2.2.2.2.2.2.2.1.name = "<init>") (hd : decode b pc = .ok (.putfield 80, 3)) (k : GC G Q nn kc ks (pc + 3) lv st (sR M o 13 (x + 1))) : GC G Q nn kc ks pc lv (rv G.1 x :: rv G.1 o :: st) M := by
  refine h_putF h inW12 rfl 13 (by decide) flX12_80 tyX12_ok nmX12 rfl hin2 rfl hon (entC_10 hk) (Nat.le_of_ble_eq_true rfl) ?_ (fun q hq => entC_aR hq) rfl rfl rfl hd k
  show entC G.1 (sR M o 13 (x + 1)) o = _
  unfold sR
  rw [entC_aR_s]
  unfold entCK
  rw [hk]
  rfl
theorem hpX12_83 {G : GX} {Q : State → Prop} {nn kc ks pc nL : Nat} {lv : List (Nat × Value)} {st : List Value} {M : Mem} {b : ByteArray} {ret : Option FieldType} {rm : Room} (h : OKm G b RX12 nL ret rm) {o : Nat} {x : Nat} (hk : kd o = 10) (hon : o < nn) (hin2 : G.2.2.2.2.2.2.2.2.2.1.name = "<init>") (hd : decode b pc = .ok (.putfield 83, 3)) (k : GC G Q nn kc ks (pc + 3) lv st (sR M o 14 (x + 1))) : GC G Q nn kc ks pc lv (rv G.1 x :: rv G.1 o :: st) M := by
  refine h_putF h inW12 rfl 14 (by decide) flX12_83 tyX12_ok nmX12 rfl hin2 rfl hon (entC_10 hk) (Nat.le_of_ble_eq_true rfl) ?_ (fun q hq => entC_aR hq) rfl rfl rfl hd k
  show entC G.1 (sR M o 14 (x + 1)) o = _
  unfold sR
  rw [entC_aR_s]
  unfold entCK
  rw [hk]
  rfl
theorem hpX12_86 {G : GX} {Q : State → Prop} {nn kc ks pc nL : Nat} {lv : List (Nat × Value)} {st : List Value} {M : Mem} {b : ByteArray} {ret : Option FieldType} {rm : Room} (h : OKm G b RX12 nL ret rm) {o : Nat} {x : Nat} (hk : kd o = 10) (hon : o < nn) (hin2 : G.2.2.2.2.2.2.2.2.2.1.name = "<init>") (hd : decode b pc = .ok (.putfield 86, 3)) (k : GC G Q nn kc ks (pc + 3) lv st (sR M o 15 (x + 1))) : GC G Q nn kc ks pc lv (rv G.1 x :: rv G.1 o :: st) M := by
  refine h_putF h inW12 rfl 15 (by decide) flX12_86 tyX12_ok nmX12 rfl hin2 rfl hon (entC_10 hk) (Nat.le_of_ble_eq_true rfl) ?_ (fun q hq => entC_aR hq) rfl rfl rfl hd k
  show entC G.1 (sR M o 15 (x + 1)) o = _
  unfold sR
  rw [entC_aR_s]
  unfold entCK
  rw [hk]
  rfl
theorem hnX6_9 {G : GX} {Q : State → Prop} {nn kc ks pc nL : Nat} {lv : List (Nat × Value)} {st : List Value} {M : Mem} {b : ByteArray} {ret : Option FieldType} {rm : Room} (h : OKm G b RX6 nL ret rm) (hn : nn < KN) (hk2 : kd nn = 4) (hcells : kc + 1 ≤ rm.cells) (hslots : ks + 14 ≤ rm.slots) (hd : decode b pc = .ok (.new 9, 3)) (k : GC G Q (nn + 1) (kc + 1) (ks + 14) (pc + 3) lv (rv G.1 nn :: st) (z3 M nn)) : GC G Q nn kc ks pc lv st M :=
  h_new h inW5 tyX5_ok clX6_9 instX5 iniX5 rfl (fun j hj => vpV_range hj) hn (by unfold entCK; rw [hk2]; rfl) hcells hslots hd k
theorem hpX6_12 {G : GX} {Q : State → Prop} {nn kc ks pc nL : Nat} {lv : List (Nat × Value)} {st : List Value} {M : Mem} {b : ByteArray} {ret : Option FieldType} {rm : Room} (h : OKm G b RX6 nL ret rm) {o : Nat} {x : Nat} (hk : kd o = 5) (hon : o < nn) (hd : decode b pc = .ok (.putfield 12, 3)) (k : GC G Q nn kc ks (pc + 3) lv st (sR M o 1 (x + 1))) : GC G Q nn kc ks pc lv (rv G.1 x :: rv G.1 o :: st) M := by
  refine h_put h inW6 rfl 1 (by decide) flX6_12 tyX6_ok nmX6 rfl hon (entC_5 hk) (Nat.le_of_ble_eq_true rfl) ?_ (fun q hq => entC_aR hq) rfl rfl rfl hd k
  show entC G.1 (sR M o 1 (x + 1)) o = _
  unfold sR
  rw [entC_aR_s]
  unfold entCK
  rw [hk]
  rfl
theorem hnX6_18 {G : GX} {Q : State → Prop} {nn kc ks pc nL : Nat} {lv : List (Nat × Value)} {st : List Value} {M : Mem} {b : ByteArray} {ret : Option FieldType} {rm : Room} (h : OKm G b RX6 nL ret rm) (hn : nn < KN) (hk2 : kd nn = 2) (hcells : kc + 1 ≤ rm.cells) (hslots : ks + 13 ≤ rm.slots) (hd : decode b pc = .ok (.new 18, 3)) (k : GC G Q (nn + 1) (kc + 1) (ks + 13) (pc + 3) lv (rv G.1 nn :: st) (z3 M nn)) : GC G Q nn kc ks pc lv st M :=
  h_new h inW3 tyX3_ok clX6_18 instX3 iniX3 rfl (fun j hj => vpV_range hj) hn (by unfold entCK; rw [hk2]; rfl) hcells hslots hd k
theorem hpX6_21 {G : GX} {Q : State → Prop} {nn kc ks pc nL : Nat} {lv : List (Nat × Value)} {st : List Value} {M : Mem} {b : ByteArray} {ret : Option FieldType} {rm : Room} (h : OKm G b RX6 nL ret rm) {o : Nat} {x : Nat} (hk : kd o = 5) (hon : o < nn) (hin2 : G.2.2.2.2.2.2.2.2.2.1.name = "<init>") (hd : decode b pc = .ok (.putfield 21, 3)) (k : GC G Q nn kc ks (pc + 3) lv st (sR M o 2 (x + 1))) : GC G Q nn kc ks pc lv (rv G.1 x :: rv G.1 o :: st) M := by
  refine h_putF h inW6 rfl 2 (by decide) flX6_21 tyX6_ok nmX6 rfl hin2 rfl hon (entC_5 hk) (Nat.le_of_ble_eq_true rfl) ?_ (fun q hq => entC_aR hq) rfl rfl rfl hd k
  show entC G.1 (sR M o 2 (x + 1)) o = _
  unfold sR
  rw [entC_aR_s]
  unfold entCK
  rw [hk]
  rfl
theorem hpX6_25 {G : GX} {Q : State → Prop} {nn kc ks pc nL : Nat} {lv : List (Nat × Value)} {st : List Value} {M : Mem} {b : ByteArray} {ret : Option FieldType} {rm : Room} (h : OKm G b RX6 nL ret rm) {o : Nat} {x : Int32} (hk : kd o = 5) (hon : o < nn) (hd : decode b pc = .ok (.putfield 25, 3)) (k : GC G Q nn kc ks (pc + 3) lv st (sI M o 3 x)) : GC G Q nn kc ks pc lv (.int x :: rv G.1 o :: st) M := by
  refine h_put h inW6 rfl 3 (by decide) flX6_25 tyX6_ok nmX6 rfl hon (entC_5 hk) (Nat.le_of_ble_eq_true rfl) ?_ (fun q hq => entC_aI hq) rfl rfl rfl hd k
  show entC G.1 (sI M o 3 x) o = _
  unfold sI
  rw [entC_aI_s]
  unfold entCK
  rw [hk]
  rfl
theorem hpX6_29 {G : GX} {Q : State → Prop} {nn kc ks pc nL : Nat} {lv : List (Nat × Value)} {st : List Value} {M : Mem} {b : ByteArray} {ret : Option FieldType} {rm : Room} (h : OKm G b RX6 nL ret rm) {o : Nat} {x : Int32} (hk : kd o = 5) (hon : o < nn) (hd : decode b pc = .ok (.putfield 29, 3)) (k : GC G Q nn kc ks (pc + 3) lv st (sI M o 4 x)) : GC G Q nn kc ks pc lv (.int x :: rv G.1 o :: st) M := by
  refine h_put h inW6 rfl 4 (by decide) flX6_29 tyX6_ok nmX6 rfl hon (entC_5 hk) (Nat.le_of_ble_eq_true rfl) ?_ (fun q hq => entC_aI hq) rfl rfl rfl hd k
  show entC G.1 (sI M o 4 x) o = _
  unfold sI
  rw [entC_aI_s]
  unfold entCK
  rw [hk]
  rfl
theorem hpX6_32 {G : GX} {Q : State → Prop} {nn kc ks pc nL : Nat} {lv : List (Nat × Value)} {st : List Value} {M : Mem} {b : ByteArray} {ret : Option FieldType} {rm : Room} (h : OKm G b RX6 nL ret rm) {o : Nat} {x : Int32} (hk : kd o = 5) (hon : o < nn) (hd : decode b pc = .ok (.putfield 32, 3)) (k : GC G Q nn kc ks (pc + 3) lv st (sI M o 5 x)) : GC G Q nn kc ks pc lv (.int x :: rv G.1 o :: st) M := by
  refine h_put h inW6 rfl 5 (by decide) flX6_32 tyX6_ok nmX6 rfl hon (entC_5 hk) (Nat.le_of_ble_eq_true rfl) ?_ (fun q hq => entC_aI hq) rfl rfl rfl hd k
  show entC G.1 (sI M o 5 x) o = _
  unfold sI
  rw [entC_aI_s]
  unfold entCK
  rw [hk]
  rfl
theorem hpX6_35 {G : GX} {Q : State → Prop} {nn kc ks pc nL : Nat} {lv : List (Nat × Value)} {st : List Value} {M : Mem} {b : ByteArray} {ret : Option FieldType} {rm : Room} (h : OKm G b RX6 nL ret rm) {o : Nat} {x : Nat} (hk : kd o = 5) (hon : o < nn) (hin2 : G.2.2.2.2.2.2.2.2.2.1.name = "<init>") (hd : decode b pc = .ok (.putfield 35, 3)) (k : GC G Q nn kc ks (pc + 3) lv st (sR M o 6 (x + 1))) : GC G Q nn kc ks pc lv (rv G.1 x :: rv G.1 o :: st) M := by
  refine h_putF h inW6 rfl 6 (by decide) flX6_35 tyX6_ok nmX6 rfl hin2 rfl hon (entC_5 hk) (Nat.le_of_ble_eq_true rfl) ?_ (fun q hq => entC_aR hq) rfl rfl rfl hd k
  show entC G.1 (sR M o 6 (x + 1)) o = _
  unfold sR
  rw [entC_aR_s]
  unfold entCK
  rw [hk]
  rfl
theorem hnX6_39 {G : GX} {Q : State → Prop} {nn kc ks pc nL : Nat} {lv : List (Nat × Value)} {st : List Value} {M : Mem} {b : ByteArray} {ret : Option FieldType} {rm : Room} (h : OKm G b RX6 nL ret rm) (hn : nn < KN) (hk2 : kd nn = 9) (hcells : kc + 1 ≤ rm.cells) (hslots : ks + 7 ≤ rm.slots) (hd : decode b pc = .ok (.new 39, 3)) (k : GC G Q (nn + 1) (kc + 1) (ks + 7) (pc + 3) lv (rv G.1 nn :: st) (z3 M nn)) : GC G Q nn kc ks pc lv st M :=
  h_new h inW10 tyX10_ok clX6_39 instX10 iniX10 rfl (fun j hj => vpV_range hj) hn (by unfold entCK; rw [hk2]; rfl) hcells hslots hd k
theorem hpX6_44 {G : GX} {Q : State → Prop} {nn kc ks pc nL : Nat} {lv : List (Nat × Value)} {st : List Value} {M : Mem} {b : ByteArray} {ret : Option FieldType} {rm : Room} (h : OKm G b RX6 nL ret rm) {o : Nat} {x : Nat} (hk : kd o = 5) (hon : o < nn) (hin2 : G.2.2.2.2.2.2.2.2.2.1.name = "<init>") (hd : decode b pc = .ok (.putfield 44, 3)) (k : GC G Q nn kc ks (pc + 3) lv st (sR M o 0 (x + 1))) : GC G Q nn kc ks pc lv (rv G.1 x :: rv G.1 o :: st) M := by
  refine h_putF h inW6 rfl 0 (by decide) flX6_44 tyX6_ok nmX6 rfl hin2 rfl hon (entC_5 hk) (Nat.le_of_ble_eq_true rfl) ?_ (fun q hq => entC_aR hq) rfl rfl rfl hd k
  show entC G.1 (sR M o 0 (x + 1)) o = _
  unfold sR
  rw [entC_aR_s]
  unfold entCK
  rw [hk]
  rfl
theorem hgX6_12 {G : GX} {Q : State → Prop} {nn kc ks pc nL : Nat} {lv : List (Nat × Value)} {st : List Value} {M : Mem} {b : ByteArray} {ret : Option FieldType} {rm : Room} (h : OKm G b RX6 nL ret rm) {o : Nat} {β : Type} {kf : Nat → Option β} {res : β} (hk : kd o = 5) (hon : o < nn) (hf : ldR M o 1 kf = some res) (hd : decode b pc = .ok (.getfield 12, 3)) (kk : ∀ x, kf x = some res → GC G Q nn kc ks (pc + 3) lv (rv G.1 x :: st) M) : GC G Q nn kc ks pc lv (rv G.1 o :: st) M := by
  obtain ⟨h9, hk9⟩ := pre_if hf
  exact h_get (z := rv G.1 (M.2.2 o 1 - 1)) h inW6 rfl 1 (by decide) flX6_12 hon (entC_5 hk) (by show some (rc G.1 (M.2.2 o 1)) = _; unfold rc; rw [if_neg h9]) hd (kk _ hk9)
theorem hgX6_48 {G : GX} {Q : State → Prop} {nn kc ks pc nL : Nat} {lv : List (Nat × Value)} {st : List Value} {M : Mem} {b : ByteArray} {ret : Option FieldType} {rm : Room} (h : OKm G b RX6 nL ret rm) {o : Nat} {β : Type} {kf : Nat → Option β} {res : β} (hk : kd o = 4) (hon : o < nn) (hf : ldR M o 12 kf = some res) (hd : decode b pc = .ok (.getfield 48, 3)) (kk : ∀ x, kf x = some res → GC G Q nn kc ks (pc + 3) lv (rv G.1 x :: st) M) : GC G Q nn kc ks pc lv (rv G.1 o :: st) M := by
  obtain ⟨h9, hk9⟩ := pre_if hf
  exact h_get (z := rv G.1 (M.2.2 o 12 - 1)) h inW5 rfl 12 (by decide) flX6_48 hon (entC_4 hk) (by show some (rc G.1 (M.2.2 o 12)) = _; unfold rc; rw [if_neg h9]) hd (kk _ hk9)
theorem hpX6_52 {G : GX} {Q : State → Prop} {nn kc ks pc nL : Nat} {lv : List (Nat × Value)} {st : List Value} {M : Mem} {b : ByteArray} {ret : Option FieldType} {rm : Room} (h : OKm G b RX6 nL ret rm) {o : Nat} {x : Nat} (hk : kd o = 5) (hon : o < nn) (hd : decode b pc = .ok (.putfield 52, 3)) (k : GC G Q nn kc ks (pc + 3) lv st (sR M o 7 (x + 1))) : GC G Q nn kc ks pc lv (rv G.1 x :: rv G.1 o :: st) M := by
  refine h_put h inW6 rfl 7 (by decide) flX6_52 tyX6_ok nmX6 rfl hon (entC_5 hk) (Nat.le_of_ble_eq_true rfl) ?_ (fun q hq => entC_aR hq) rfl rfl rfl hd k
  show entC G.1 (sR M o 7 (x + 1)) o = _
  unfold sR
  rw [entC_aR_s]
  unfold entCK
  rw [hk]
  rfl
theorem hpX5_9 {G : GX} {Q : State → Prop} {nn kc ks pc nL : Nat} {lv : List (Nat × Value)} {st : List Value} {M : Mem} {b : ByteArray} {ret : Option FieldType} {rm : Room} (h : OKm G b RX5 nL ret rm) {o : Nat} {x : Int32} (hk : kd o = 4) (hon : o < nn) (hd : decode b pc = .ok (.putfield 9, 3)) (k : GC G Q nn kc ks (pc + 3) lv st (sI M o 0 x)) : GC G Q nn kc ks pc lv (.int x :: rv G.1 o :: st) M := by
  refine h_put h inW5 rfl 0 (by decide) flX5_9 tyX5_ok nmX5 rfl hon (entC_4 hk) (Nat.le_of_ble_eq_true rfl) ?_ (fun q hq => entC_aI hq) rfl rfl rfl hd k
  show entC G.1 (sI M o 0 x) o = _
  unfold sI
  rw [entC_aI_s]
  unfold entCK
  rw [hk]
  rfl
theorem hpX5_15 {G : GX} {Q : State → Prop} {nn kc ks pc nL : Nat} {lv : List (Nat × Value)} {st : List Value} {M : Mem} {b : ByteArray} {ret : Option FieldType} {rm : Room} (h : OKm G b RX5 nL ret rm) {o : Nat} {x : Nat} (hk : kd o = 4) (hon : o < nn) (hin2 : G.2.2.2.2.2.2.2.2.2.1.name = "<init>") (hd : decode b pc = .ok (.putfield 15, 3)) (k : GC G Q nn kc ks (pc + 3) lv st (sR M o 1 (x + 1))) : GC G Q nn kc ks pc lv (rv G.1 x :: rv G.1 o :: st) M := by
  refine h_putF h inW5 rfl 1 (by decide) flX5_15 tyX5_ok nmX5 rfl hin2 rfl hon (entC_4 hk) (Nat.le_of_ble_eq_true rfl) ?_ (fun q hq => entC_aR hq) rfl rfl rfl hd k
  show entC G.1 (sR M o 1 (x + 1)) o = _
  unfold sR
  rw [entC_aR_s]
  unfold entCK
  rw [hk]
  rfl
theorem hpX5_19 {G : GX} {Q : State → Prop} {nn kc ks pc nL : Nat} {lv : List (Nat × Value)} {st : List Value} {M : Mem} {b : ByteArray} {ret : Option FieldType} {rm : Room} (h : OKm G b RX5 nL ret rm) {o : Nat} {x : Nat} (hk : kd o = 4) (hon : o < nn) (hin2 : G.2.2.2.2.2.2.2.2.2.1.name = "<init>") (hd : decode b pc = .ok (.putfield 19, 3)) (k : GC G Q nn kc ks (pc + 3) lv st (sR M o 2 (x + 1))) : GC G Q nn kc ks pc lv (rv G.1 x :: rv G.1 o :: st) M := by
  refine h_putF h inW5 rfl 2 (by decide) flX5_19 tyX5_ok nmX5 rfl hin2 rfl hon (entC_4 hk) (Nat.le_of_ble_eq_true rfl) ?_ (fun q hq => entC_aR hq) rfl rfl rfl hd k
  show entC G.1 (sR M o 2 (x + 1)) o = _
  unfold sR
  rw [entC_aR_s]
  unfold entCK
  rw [hk]
  rfl
theorem hpX5_22 {G : GX} {Q : State → Prop} {nn kc ks pc nL : Nat} {lv : List (Nat × Value)} {st : List Value} {M : Mem} {b : ByteArray} {ret : Option FieldType} {rm : Room} (h : OKm G b RX5 nL ret rm) {o : Nat} {x : Nat} (hk : kd o = 4) (hon : o < nn) (hin2 : G.2.2.2.2.2.2.2.2.2.1.name = "<init>") (hd : decode b pc = .ok (.putfield 22, 3)) (k : GC G Q nn kc ks (pc + 3) lv st (sR M o 3 (x + 1))) : GC G Q nn kc ks pc lv (rv G.1 x :: rv G.1 o :: st) M := by
  refine h_putF h inW5 rfl 3 (by decide) flX5_22 tyX5_ok nmX5 rfl hin2 rfl hon (entC_4 hk) (Nat.le_of_ble_eq_true rfl) ?_ (fun q hq => entC_aR hq) rfl rfl rfl hd k
  show entC G.1 (sR M o 3 (x + 1)) o = _
  unfold sR
  rw [entC_aR_s]
  unfold entCK
  rw [hk]
  rfl
theorem hpX5_25 {G : GX} {Q : State → Prop} {nn kc ks pc nL : Nat} {lv : List (Nat × Value)} {st : List Value} {M : Mem} {b : ByteArray} {ret : Option FieldType} {rm : Room} (h : OKm G b RX5 nL ret rm) {o : Nat} {x : Nat} (hk : kd o = 4) (hon : o < nn) (hin2 : G.2.2.2.2.2.2.2.2.2.1.name = "<init>") (hd : decode b pc = .ok (.putfield 25, 3)) (k : GC G Q nn kc ks (pc + 3) lv st (sR M o 4 (x + 1))) : GC G Q nn kc ks pc lv (rv G.1 x :: rv G.1 o :: st) M := by
  refine h_putF h inW5 rfl 4 (by decide) flX5_25 tyX5_ok nmX5 rfl hin2 rfl hon (entC_4 hk) (Nat.le_of_ble_eq_true rfl) ?_ (fun q hq => entC_aR hq) rfl rfl rfl hd k
  show entC G.1 (sR M o 4 (x + 1)) o = _
  unfold sR
  rw [entC_aR_s]
  unfold entCK
  rw [hk]
  rfl
theorem hpX5_28 {G : GX} {Q : State → Prop} {nn kc ks pc nL : Nat} {lv : List (Nat × Value)} {st : List Value} {M : Mem} {b : ByteArray} {ret : Option FieldType} {rm : Room} (h : OKm G b RX5 nL ret rm) {o : Nat} {x : Nat} (hk : kd o = 4) (hon : o < nn) (hin2 : G.2.2.2.2.2.2.2.2.2.1.name = "<init>") (hd : decode b pc = .ok (.putfield 28, 3)) (k : GC G Q nn kc ks (pc + 3) lv st (sR M o 5 (x + 1))) : GC G Q nn kc ks pc lv (rv G.1 x :: rv G.1 o :: st) M := by
  refine h_putF h inW5 rfl 5 (by decide) flX5_28 tyX5_ok nmX5 rfl hin2 rfl hon (entC_4 hk) (Nat.le_of_ble_eq_true rfl) ?_ (fun q hq => entC_aR hq) rfl rfl rfl hd k
  show entC G.1 (sR M o 5 (x + 1)) o = _
  unfold sR
  rw [entC_aR_s]
  unfold entCK
  rw [hk]
  rfl
theorem hpX5_31 {G : GX} {Q : State → Prop} {nn kc ks pc nL : Nat} {lv : List (Nat × Value)} {st : List Value} {M : Mem} {b : ByteArray} {ret : Option FieldType} {rm : Room} (h : OKm G b RX5 nL ret rm) {o : Nat} {x : Int32} (hk : kd o = 4) (hon : o < nn) (hd : decode b pc = .ok (.putfield 31, 3)) (k : GC G Q nn kc ks (pc + 3) lv st (sI M o 6 x)) : GC G Q nn kc ks pc lv (.int x :: rv G.1 o :: st) M := by
  refine h_put h inW5 rfl 6 (by decide) flX5_31 tyX5_ok nmX5 rfl hon (entC_4 hk) (Nat.le_of_ble_eq_true rfl) ?_ (fun q hq => entC_aI hq) rfl rfl rfl hd k
  show entC G.1 (sI M o 6 x) o = _
  unfold sI
  rw [entC_aI_s]
  unfold entCK
  rw [hk]
  rfl
theorem hpX5_34 {G : GX} {Q : State → Prop} {nn kc ks pc nL : Nat} {lv : List (Nat × Value)} {st : List Value} {M : Mem} {b : ByteArray} {ret : Option FieldType} {rm : Room} (h : OKm G b RX5 nL ret rm) {o : Nat} {x : Nat} (hk : kd o = 4) (hon : o < nn) (hin2 : G.2.2.2.2.2.2.2.2.2.1.name = "<init>") (hd : decode b pc = .ok (.putfield 34, 3)) (k : GC G Q nn kc ks (pc + 3) lv st (sR M o 7 (x + 1))) : GC G Q nn kc ks pc lv (rv G.1 x :: rv G.1 o :: st) M := by
  refine h_putF h inW5 rfl 7 (by decide) flX5_34 tyX5_ok nmX5 rfl hin2 rfl hon (entC_4 hk) (Nat.le_of_ble_eq_true rfl) ?_ (fun q hq => entC_aR hq) rfl rfl rfl hd k
  show entC G.1 (sR M o 7 (x + 1)) o = _
  unfold sR
  rw [entC_aR_s]
  unfold entCK
  rw [hk]
  rfl
theorem hpX5_37 {G : GX} {Q : State → Prop} {nn kc ks pc nL : Nat} {lv : List (Nat × Value)} {st : List Value} {M : Mem} {b : ByteArray} {ret : Option FieldType} {rm : Room} (h : OKm G b RX5 nL ret rm) {o : Nat} {x : Int32} (hk : kd o = 4) (hon : o < nn) (hd : decode b pc = .ok (.putfield 37, 3)) (k : GC G Q nn kc ks (pc + 3) lv st (sI M o 8 x)) : GC G Q nn kc ks pc lv (.int x :: rv G.1 o :: st) M := by
  refine h_put h inW5 rfl 8 (by decide) flX5_37 tyX5_ok nmX5 rfl hon (entC_4 hk) (Nat.le_of_ble_eq_true rfl) ?_ (fun q hq => entC_aI hq) rfl rfl rfl hd k
  show entC G.1 (sI M o 8 x) o = _
  unfold sI
  rw [entC_aI_s]
  unfold entCK
  rw [hk]
  rfl
theorem hpX5_40 {G : GX} {Q : State → Prop} {nn kc ks pc nL : Nat} {lv : List (Nat × Value)} {st : List Value} {M : Mem} {b : ByteArray} {ret : Option FieldType} {rm : Room} (h : OKm G b RX5 nL ret rm) {o : Nat} {x : Nat} (hk : kd o = 4) (hon : o < nn) (hin2 : G.2.2.2.2.2.2.2.2.2.1.name = "<init>") (hd : decode b pc = .ok (.putfield 40, 3)) (k : GC G Q nn kc ks (pc + 3) lv st (sR M o 9 (x + 1))) : GC G Q nn kc ks pc lv (rv G.1 x :: rv G.1 o :: st) M := by
  refine h_putF h inW5 rfl 9 (by decide) flX5_40 tyX5_ok nmX5 rfl hin2 rfl hon (entC_4 hk) (Nat.le_of_ble_eq_true rfl) ?_ (fun q hq => entC_aR hq) rfl rfl rfl hd k
  show entC G.1 (sR M o 9 (x + 1)) o = _
  unfold sR
  rw [entC_aR_s]
  unfold entCK
  rw [hk]
  rfl
theorem hnX5_43 {G : GX} {Q : State → Prop} {nn kc ks pc nL : Nat} {lv : List (Nat × Value)} {st : List Value} {M : Mem} {b : ByteArray} {ret : Option FieldType} {rm : Room} (h : OKm G b RX5 nL ret rm) (hn : nn < KN) (hk2 : kd nn = 3) (hcells : kc + 1 ≤ rm.cells) (hslots : ks + 3 ≤ rm.slots) (hd : decode b pc = .ok (.new 43, 3)) (k : GC G Q (nn + 1) (kc + 1) (ks + 3) (pc + 3) lv (rv G.1 nn :: st) (z3 M nn)) : GC G Q nn kc ks pc lv st M :=
  h_new h inW4 tyX4_ok clX5_43 instX4 iniX4 rfl (fun j hj => vpV_range hj) hn (by unfold entCK; rw [hk2]; rfl) hcells hslots hd k
theorem hpX5_46 {G : GX} {Q : State → Prop} {nn kc ks pc nL : Nat} {lv : List (Nat × Value)} {st : List Value} {M : Mem} {b : ByteArray} {ret : Option FieldType} {rm : Room} (h : OKm G b RX5 nL ret rm) {o : Nat} {x : Nat} (hk : kd o = 4) (hon : o < nn) (hin2 : G.2.2.2.2.2.2.2.2.2.1.name = "<init>") (hd : decode b pc = .ok (.putfield 46, 3)) (k : GC G Q nn kc ks (pc + 3) lv st (sR M o 10 (x + 1))) : GC G Q nn kc ks pc lv (rv G.1 x :: rv G.1 o :: st) M := by
  refine h_putF h inW5 rfl 10 (by decide) flX5_46 tyX5_ok nmX5 rfl hin2 rfl hon (entC_4 hk) (Nat.le_of_ble_eq_true rfl) ?_ (fun q hq => entC_aR hq) rfl rfl rfl hd k
  show entC G.1 (sR M o 10 (x + 1)) o = _
  unfold sR
  rw [entC_aR_s]
  unfold entCK
  rw [hk]
  rfl
theorem hpX5_50 {G : GX} {Q : State → Prop} {nn kc ks pc nL : Nat} {lv : List (Nat × Value)} {st : List Value} {M : Mem} {b : ByteArray} {ret : Option FieldType} {rm : Room} (h : OKm G b RX5 nL ret rm) {o : Nat} {x : Nat} (hk : kd o = 4) (hon : o < nn) (hin2 : G.2.2.2.2.2.2.2.2.2.1.name = "<init>") (hd : decode b pc = .ok (.putfield 50, 3)) (k : GC G Q nn kc ks (pc + 3) lv st (sR M o 11 (x + 1))) : GC G Q nn kc ks pc lv (rv G.1 x :: rv G.1 o :: st) M := by
  refine h_putF h inW5 rfl 11 (by decide) flX5_50 tyX5_ok nmX5 rfl hin2 rfl hon (entC_4 hk) (Nat.le_of_ble_eq_true rfl) ?_ (fun q hq => entC_aR hq) rfl rfl rfl hd k
  show entC G.1 (sR M o 11 (x + 1)) o = _
  unfold sR
  rw [entC_aR_s]
  unfold entCK
  rw [hk]
  rfl
theorem hnX5_53 {G : GX} {Q : State → Prop} {nn kc ks pc nL : Nat} {lv : List (Nat × Value)} {st : List Value} {M : Mem} {b : ByteArray} {ret : Option FieldType} {rm : Room} (h : OKm G b RX5 nL ret rm) (hn : nn < KN) (hk2 : kd nn = 7) (hcells : kc + 1 ≤ rm.cells) (hslots : ks + 4 ≤ rm.slots) (hd : decode b pc = .ok (.new 53, 3)) (k : GC G Q (nn + 1) (kc + 1) (ks + 4) (pc + 3) lv (rv G.1 nn :: st) (z3 M nn)) : GC G Q nn kc ks pc lv st M :=
  h_new h inW8 tyX8_ok clX5_53 instX8 iniX8 rfl (fun j hj => vpV_range hj) hn (by unfold entCK; rw [hk2]; rfl) hcells hslots hd k
theorem hpX5_58 {G : GX} {Q : State → Prop} {nn kc ks pc nL : Nat} {lv : List (Nat × Value)} {st : List Value} {M : Mem} {b : ByteArray} {ret : Option FieldType} {rm : Room} (h : OKm G b RX5 nL ret rm) {o : Nat} {x : Nat} (hk : kd o = 4) (hon : o < nn) (hin2 : G.2.2.2.2.2.2.2.2.2.1.name = "<init>") (hd : decode b pc = .ok (.putfield 58, 3)) (k : GC G Q nn kc ks (pc + 3) lv st (sR M o 12 (x + 1))) : GC G Q nn kc ks pc lv (rv G.1 x :: rv G.1 o :: st) M := by
  refine h_putF h inW5 rfl 12 (by decide) flX5_58 tyX5_ok nmX5 rfl hin2 rfl hon (entC_4 hk) (Nat.le_of_ble_eq_true rfl) ?_ (fun q hq => entC_aR hq) rfl rfl rfl hd k
  show entC G.1 (sR M o 12 (x + 1)) o = _
  unfold sR
  rw [entC_aR_s]
  unfold entCK
  rw [hk]
  rfl
theorem hpX5_62 {G : GX} {Q : State → Prop} {nn kc ks pc nL : Nat} {lv : List (Nat × Value)} {st : List Value} {M : Mem} {b : ByteArray} {ret : Option FieldType} {rm : Room} (h : OKm G b RX5 nL ret rm) {o : Nat} {x : Nat} (hk : kd o = 4) (hon : o < nn) (hin2 : G.2.2.2.2.2.2.2.2.2.1.name = "<init>") (hd : decode b pc = .ok (.putfield 62, 3)) (k : GC G Q nn kc ks (pc + 3) lv st (sR M o 13 (x + 1))) : GC G Q nn kc ks pc lv (rv G.1 x :: rv G.1 o :: st) M := by
  refine h_putF h inW5 rfl 13 (by decide) flX5_62 tyX5_ok nmX5 rfl hin2 rfl hon (entC_4 hk) (Nat.le_of_ble_eq_true rfl) ?_ (fun q hq => entC_aR hq) rfl rfl rfl hd k
  show entC G.1 (sR M o 13 (x + 1)) o = _
  unfold sR
  rw [entC_aR_s]
  unfold entCK
  rw [hk]
  rfl
theorem hpX4_9 {G : GX} {Q : State → Prop} {nn kc ks pc nL : Nat} {lv : List (Nat × Value)} {st : List Value} {M : Mem} {b : ByteArray} {ret : Option FieldType} {rm : Room} (h : OKm G b RX4 nL ret rm) {o : Nat} {x : Int32} (hk : kd o = 3) (hon : o < nn) (hd : decode b pc = .ok (.putfield 9, 3)) (k : GC G Q nn kc ks (pc + 3) lv st (sI M o 0 x)) : GC G Q nn kc ks pc lv (.int x :: rv G.1 o :: st) M := by
  refine h_put h inW4 rfl 0 (by decide) flX4_9 tyX4_ok nmX4 rfl hon (entC_3 hk) (Nat.le_of_ble_eq_true rfl) ?_ (fun q hq => entC_aI hq) rfl rfl rfl hd k
  show entC G.1 (sI M o 0 x) o = _
  unfold sI
  rw [entC_aI_s]
  unfold entCK
  rw [hk]
  rfl
theorem hpX4_15 {G : GX} {Q : State → Prop} {nn kc ks pc nL : Nat} {lv : List (Nat × Value)} {st : List Value} {M : Mem} {b : ByteArray} {ret : Option FieldType} {rm : Room} (h : OKm G b RX4 nL ret rm) {o : Nat} {x : Nat} (hk : kd o = 3) (hon : o < nn) (hin2 : G.2.2.2.2.2.2.2.2.2.1.name = "<init>") (hd : decode b pc = .ok (.putfield 15, 3)) (k : GC G Q nn kc ks (pc + 3) lv st (sR M o 1 (x + 1))) : GC G Q nn kc ks pc lv (rv G.1 x :: rv G.1 o :: st) M := by
  refine h_putF h inW4 rfl 1 (by decide) flX4_15 tyX4_ok nmX4 rfl hin2 rfl hon (entC_3 hk) (Nat.le_of_ble_eq_true rfl) ?_ (fun q hq => entC_aR hq) rfl rfl rfl hd k
  show entC G.1 (sR M o 1 (x + 1)) o = _
  unfold sR
  rw [entC_aR_s]
  unfold entCK
  rw [hk]
  rfl
theorem hpX4_19 {G : GX} {Q : State → Prop} {nn kc ks pc nL : Nat} {lv : List (Nat × Value)} {st : List Value} {M : Mem} {b : ByteArray} {ret : Option FieldType} {rm : Room} (h : OKm G b RX4 nL ret rm) {o : Nat} {x : Nat} (hk : kd o = 3) (hon : o < nn) (hin2 : G.2.2.2.2.2.2.2.2.2.1.name = "<init>") (hd : decode b pc = .ok (.putfield 19, 3)) (k : GC G Q nn kc ks (pc + 3) lv st (sR M o 2 (x + 1))) : GC G Q nn kc ks pc lv (rv G.1 x :: rv G.1 o :: st) M := by
  refine h_putF h inW4 rfl 2 (by decide) flX4_19 tyX4_ok nmX4 rfl hin2 rfl hon (entC_3 hk) (Nat.le_of_ble_eq_true rfl) ?_ (fun q hq => entC_aR hq) rfl rfl rfl hd k
  show entC G.1 (sR M o 2 (x + 1)) o = _
  unfold sR
  rw [entC_aR_s]
  unfold entCK
  rw [hk]
  rfl
theorem hpX8_7 {G : GX} {Q : State → Prop} {nn kc ks pc nL : Nat} {lv : List (Nat × Value)} {st : List Value} {M : Mem} {b : ByteArray} {ret : Option FieldType} {rm : Room} (h : OKm G b RX8 nL ret rm) {o : Nat} {x : Int32} (hk : kd o = 7) (hon : o < nn) (hd : decode b pc = .ok (.putfield 7, 3)) (k : GC G Q nn kc ks (pc + 3) lv st (sI M o 1 x)) : GC G Q nn kc ks pc lv (.int x :: rv G.1 o :: st) M := by
  refine h_put h inW8 rfl 1 (by decide) flX8_7 tyX8_ok nmX8 rfl hon (entC_7 hk) (Nat.le_of_ble_eq_true rfl) ?_ (fun q hq => entC_aI hq) rfl rfl rfl hd k
  show entC G.1 (sI M o 1 x) o = _
  unfold sI
  rw [entC_aI_s]
  unfold entCK
  rw [hk]
  rfl
theorem hpX8_13 {G : GX} {Q : State → Prop} {nn kc ks pc nL : Nat} {lv : List (Nat × Value)} {st : List Value} {M : Mem} {b : ByteArray} {ret : Option FieldType} {rm : Room} (h : OKm G b RX8 nL ret rm) {o : Nat} {x : Int32} (hk : kd o = 7) (hon : o < nn) (hd : decode b pc = .ok (.putfield 13, 3)) (k : GC G Q nn kc ks (pc + 3) lv st (sI M o 2 x)) : GC G Q nn kc ks pc lv (.int x :: rv G.1 o :: st) M := by
  refine h_put h inW8 rfl 2 (by decide) flX8_13 tyX8_ok nmX8 rfl hon (entC_7 hk) (Nat.le_of_ble_eq_true rfl) ?_ (fun q hq => entC_aI hq) rfl rfl rfl hd k
  show entC G.1 (sI M o 2 x) o = _
  unfold sI
  rw [entC_aI_s]
  unfold entCK
  rw [hk]
  rfl
theorem hpX8_16 {G : GX} {Q : State → Prop} {nn kc ks pc nL : Nat} {lv : List (Nat × Value)} {st : List Value} {M : Mem} {b : ByteArray} {ret : Option FieldType} {rm : Room} (h : OKm G b RX8 nL ret rm) {o : Nat} {x : Int32} (hk : kd o = 7) (hon : o < nn) (hz : x = 0 ∨ x = 1) (hd : decode b pc = .ok (.putfield 16, 3)) (k : GC G Q nn kc ks (pc + 3) lv st (sI M o 3 x)) : GC G Q nn kc ks pc lv (.int x :: rv G.1 o :: st) M := by
  refine h_put h inW8 rfl 3 (by decide) flX8_16 tyX8_ok nmX8 rfl hon (entC_7 hk) (Nat.le_of_ble_eq_true rfl) ?_ (fun q hq => entC_aI hq) rfl (by rcases hz with rfl | rfl <;> rfl) (by rcases hz with rfl | rfl <;> rfl) hd k
  show entC G.1 (sI M o 3 x) o = _
  unfold sI
  rw [entC_aI_s]
  unfold entCK
  rw [hk]
  rfl
theorem hpX8_20 {G : GX} {Q : State → Prop} {nn kc ks pc nL : Nat} {lv : List (Nat × Value)} {st : List Value} {M : Mem} {b : ByteArray} {ret : Option FieldType} {rm : Room} (h : OKm G b RX8 nL ret rm) {o : Nat} {x : Nat} (hk : kd o = 7) (hon : o < nn) (hin2 : G.2.2.2.2.2.2.2.2.2.1.name = "<init>") (hd : decode b pc = .ok (.putfield 20, 3)) (k : GC G Q nn kc ks (pc + 3) lv st (sR M o 0 (x + 1))) : GC G Q nn kc ks pc lv (rv G.1 x :: rv G.1 o :: st) M := by
  refine h_putF h inW8 rfl 0 (by decide) flX8_20 tyX8_ok nmX8 rfl hin2 rfl hon (entC_7 hk) (Nat.le_of_ble_eq_true rfl) ?_ (fun q hq => entC_aR hq) rfl rfl rfl hd k
  show entC G.1 (sR M o 0 (x + 1)) o = _
  unfold sR
  rw [entC_aR_s]
  unfold entCK
  rw [hk]
  rfl
theorem hpX3_9 {G : GX} {Q : State → Prop} {nn kc ks pc nL : Nat} {lv : List (Nat × Value)} {st : List Value} {M : Mem} {b : ByteArray} {ret : Option FieldType} {rm : Room} (h : OKm G b RX3 nL ret rm) {o : Nat} {x : Nat} (hk : kd o = 2) (hon : o < nn) (hin2 : G.2.2.2.2.2.2.2.2.2.1.name = "<init>") (hd : decode b pc = .ok (.putfield 9, 3)) (k : GC G Q nn kc ks (pc + 3) lv st (sR M o 9 (x + 1))) : GC G Q nn kc ks pc lv (rv G.1 x :: rv G.1 o :: st) M := by
  refine h_putF h inW3 rfl 9 (by decide) flX3_9 tyX3_ok nmX3 rfl hin2 rfl hon (entC_2 hk) (Nat.le_of_ble_eq_true rfl) ?_ (fun q hq => entC_aR hq) rfl rfl rfl hd k
  show entC G.1 (sR M o 9 (x + 1)) o = _
  unfold sR
  rw [entC_aR_s]
  unfold entCK
  rw [hk]
  rfl
theorem hpX3_15 {G : GX} {Q : State → Prop} {nn kc ks pc nL : Nat} {lv : List (Nat × Value)} {st : List Value} {M : Mem} {b : ByteArray} {ret : Option FieldType} {rm : Room} (h : OKm G b RX3 nL ret rm) {o : Nat} {x : Nat} (hk : kd o = 2) (hon : o < nn) (hin2 : G.2.2.2.2.2.2.2.2.2.1.name = "<init>") (hd : decode b pc = .ok (.putfield 15, 3)) (k : GC G Q nn kc ks (pc + 3) lv st (sR M o 10 (x + 1))) : GC G Q nn kc ks pc lv (rv G.1 x :: rv G.1 o :: st) M := by
  refine h_putF h inW3 rfl 10 (by decide) flX3_15 tyX3_ok nmX3 rfl hin2 rfl hon (entC_2 hk) (Nat.le_of_ble_eq_true rfl) ?_ (fun q hq => entC_aR hq) rfl rfl rfl hd k
  show entC G.1 (sR M o 10 (x + 1)) o = _
  unfold sR
  rw [entC_aR_s]
  unfold entCK
  rw [hk]
  rfl
theorem hpX3_18 {G : GX} {Q : State → Prop} {nn kc ks pc nL : Nat} {lv : List (Nat × Value)} {st : List Value} {M : Mem} {b : ByteArray} {ret : Option FieldType} {rm : Room} (h : OKm G b RX3 nL ret rm) {o : Nat} {x : Nat} (hk : kd o = 2) (hon : o < nn) (hin2 : G.2.2.2.2.2.2.2.2.2.1.name = "<init>") (hd : decode b pc = .ok (.putfield 18, 3)) (k : GC G Q nn kc ks (pc + 3) lv st (sR M o 11 (x + 1))) : GC G Q nn kc ks pc lv (rv G.1 x :: rv G.1 o :: st) M := by
  refine h_putF h inW3 rfl 11 (by decide) flX3_18 tyX3_ok nmX3 rfl hin2 rfl hon (entC_2 hk) (Nat.le_of_ble_eq_true rfl) ?_ (fun q hq => entC_aR hq) rfl rfl rfl hd k
  show entC G.1 (sR M o 11 (x + 1)) o = _
  unfold sR
  rw [entC_aR_s]
  unfold entCK
  rw [hk]
  rfl
theorem hpX3_21 {G : GX} {Q : State → Prop} {nn kc ks pc nL : Nat} {lv : List (Nat × Value)} {st : List Value} {M : Mem} {b : ByteArray} {ret : Option FieldType} {rm : Room} (h : OKm G b RX3 nL ret rm) {o : Nat} {x : Nat} (hk : kd o = 2) (hon : o < nn) (hin2 : G.2.2.2.2.2.2.2.2.2.1.name = "<init>") (hd : decode b pc = .ok (.putfield 21, 3)) (k : GC G Q nn kc ks (pc + 3) lv st (sR M o 12 (x + 1))) : GC G Q nn kc ks pc lv (rv G.1 x :: rv G.1 o :: st) M := by
  refine h_putF h inW3 rfl 12 (by decide) flX3_21 tyX3_ok nmX3 rfl hin2 rfl hon (entC_2 hk) (Nat.le_of_ble_eq_true rfl) ?_ (fun q hq => entC_aR hq) rfl rfl rfl hd k
  show entC G.1 (sR M o 12 (x + 1)) o = _
  unfold sR
  rw [entC_aR_s]
  unfold entCK
  rw [hk]
  rfl
theorem hpX3_27 {G : GX} {Q : State → Prop} {nn kc ks pc nL : Nat} {lv : List (Nat × Value)} {st : List Value} {M : Mem} {b : ByteArray} {ret : Option FieldType} {rm : Room} (h : OKm G b RX3 nL ret rm) {o : Nat} {x : Int32} (hk : kd o = 2) (hon : o < nn) (hd : decode b pc = .ok (.putfield 27, 3)) (k : GC G Q nn kc ks (pc + 3) lv st (sI M o 0 x)) : GC G Q nn kc ks pc lv (.int x :: rv G.1 o :: st) M := by
  refine h_put h inW3 rfl 0 (by decide) flX3_27 tyX3_ok nmX3 rfl hon (entC_2 hk) (Nat.le_of_ble_eq_true rfl) ?_ (fun q hq => entC_aI hq) rfl rfl rfl hd k
  show entC G.1 (sI M o 0 x) o = _
  unfold sI
  rw [entC_aI_s]
  unfold entCK
  rw [hk]
  rfl
theorem hpX3_31 {G : GX} {Q : State → Prop} {nn kc ks pc nL : Nat} {lv : List (Nat × Value)} {st : List Value} {M : Mem} {b : ByteArray} {ret : Option FieldType} {rm : Room} (h : OKm G b RX3 nL ret rm) {o : Nat} {x : Int32} (hk : kd o = 2) (hon : o < nn) (hd : decode b pc = .ok (.putfield 31, 3)) (k : GC G Q nn kc ks (pc + 3) lv st (sI M o 1 x)) : GC G Q nn kc ks pc lv (.int x :: rv G.1 o :: st) M := by
  refine h_put h inW3 rfl 1 (by decide) flX3_31 tyX3_ok nmX3 rfl hon (entC_2 hk) (Nat.le_of_ble_eq_true rfl) ?_ (fun q hq => entC_aI hq) rfl rfl rfl hd k
  show entC G.1 (sI M o 1 x) o = _
  unfold sI
  rw [entC_aI_s]
  unfold entCK
  rw [hk]
  rfl
theorem hpX3_34 {G : GX} {Q : State → Prop} {nn kc ks pc nL : Nat} {lv : List (Nat × Value)} {st : List Value} {M : Mem} {b : ByteArray} {ret : Option FieldType} {rm : Room} (h : OKm G b RX3 nL ret rm) {o : Nat} {x : Int32} (hk : kd o = 2) (hon : o < nn) (hd : decode b pc = .ok (.putfield 34, 3)) (k : GC G Q nn kc ks (pc + 3) lv st (sI M o 2 x)) : GC G Q nn kc ks pc lv (.int x :: rv G.1 o :: st) M := by
  refine h_put h inW3 rfl 2 (by decide) flX3_34 tyX3_ok nmX3 rfl hon (entC_2 hk) (Nat.le_of_ble_eq_true rfl) ?_ (fun q hq => entC_aI hq) rfl rfl rfl hd k
  show entC G.1 (sI M o 2 x) o = _
  unfold sI
  rw [entC_aI_s]
  unfold entCK
  rw [hk]
  rfl
theorem hpX3_37 {G : GX} {Q : State → Prop} {nn kc ks pc nL : Nat} {lv : List (Nat × Value)} {st : List Value} {M : Mem} {b : ByteArray} {ret : Option FieldType} {rm : Room} (h : OKm G b RX3 nL ret rm) {o : Nat} {x : Int32} (hk : kd o = 2) (hon : o < nn) (hd : decode b pc = .ok (.putfield 37, 3)) (k : GC G Q nn kc ks (pc + 3) lv st (sI M o 3 x)) : GC G Q nn kc ks pc lv (.int x :: rv G.1 o :: st) M := by
  refine h_put h inW3 rfl 3 (by decide) flX3_37 tyX3_ok nmX3 rfl hon (entC_2 hk) (Nat.le_of_ble_eq_true rfl) ?_ (fun q hq => entC_aI hq) rfl rfl rfl hd k
  show entC G.1 (sI M o 3 x) o = _
  unfold sI
  rw [entC_aI_s]
  unfold entCK
  rw [hk]
  rfl
theorem hpX3_40 {G : GX} {Q : State → Prop} {nn kc ks pc nL : Nat} {lv : List (Nat × Value)} {st : List Value} {M : Mem} {b : ByteArray} {ret : Option FieldType} {rm : Room} (h : OKm G b RX3 nL ret rm) {o : Nat} {x : Int32} (hk : kd o = 2) (hon : o < nn) (hd : decode b pc = .ok (.putfield 40, 3)) (k : GC G Q nn kc ks (pc + 3) lv st (sI M o 4 x)) : GC G Q nn kc ks pc lv (.int x :: rv G.1 o :: st) M := by
  refine h_put h inW3 rfl 4 (by decide) flX3_40 tyX3_ok nmX3 rfl hon (entC_2 hk) (Nat.le_of_ble_eq_true rfl) ?_ (fun q hq => entC_aI hq) rfl rfl rfl hd k
  show entC G.1 (sI M o 4 x) o = _
  unfold sI
  rw [entC_aI_s]
  unfold entCK
  rw [hk]
  rfl
theorem hpX3_43 {G : GX} {Q : State → Prop} {nn kc ks pc nL : Nat} {lv : List (Nat × Value)} {st : List Value} {M : Mem} {b : ByteArray} {ret : Option FieldType} {rm : Room} (h : OKm G b RX3 nL ret rm) {o : Nat} {x : Int32} (hk : kd o = 2) (hon : o < nn) (hd : decode b pc = .ok (.putfield 43, 3)) (k : GC G Q nn kc ks (pc + 3) lv st (sI M o 5 x)) : GC G Q nn kc ks pc lv (.int x :: rv G.1 o :: st) M := by
  refine h_put h inW3 rfl 5 (by decide) flX3_43 tyX3_ok nmX3 rfl hon (entC_2 hk) (Nat.le_of_ble_eq_true rfl) ?_ (fun q hq => entC_aI hq) rfl rfl rfl hd k
  show entC G.1 (sI M o 5 x) o = _
  unfold sI
  rw [entC_aI_s]
  unfold entCK
  rw [hk]
  rfl
theorem hpX3_46 {G : GX} {Q : State → Prop} {nn kc ks pc nL : Nat} {lv : List (Nat × Value)} {st : List Value} {M : Mem} {b : ByteArray} {ret : Option FieldType} {rm : Room} (h : OKm G b RX3 nL ret rm) {o : Nat} {x : Int32} (hk : kd o = 2) (hon : o < nn) (hd : decode b pc = .ok (.putfield 46, 3)) (k : GC G Q nn kc ks (pc + 3) lv st (sI M o 6 x)) : GC G Q nn kc ks pc lv (.int x :: rv G.1 o :: st) M := by
  refine h_put h inW3 rfl 6 (by decide) flX3_46 tyX3_ok nmX3 rfl hon (entC_2 hk) (Nat.le_of_ble_eq_true rfl) ?_ (fun q hq => entC_aI hq) rfl rfl rfl hd k
  show entC G.1 (sI M o 6 x) o = _
  unfold sI
  rw [entC_aI_s]
  unfold entCK
  rw [hk]
  rfl
theorem hpX3_49 {G : GX} {Q : State → Prop} {nn kc ks pc nL : Nat} {lv : List (Nat × Value)} {st : List Value} {M : Mem} {b : ByteArray} {ret : Option FieldType} {rm : Room} (h : OKm G b RX3 nL ret rm) {o : Nat} {x : Int32} (hk : kd o = 2) (hon : o < nn) (hd : decode b pc = .ok (.putfield 49, 3)) (k : GC G Q nn kc ks (pc + 3) lv st (sI M o 7 x)) : GC G Q nn kc ks pc lv (.int x :: rv G.1 o :: st) M := by
  refine h_put h inW3 rfl 7 (by decide) flX3_49 tyX3_ok nmX3 rfl hon (entC_2 hk) (Nat.le_of_ble_eq_true rfl) ?_ (fun q hq => entC_aI hq) rfl rfl rfl hd k
  show entC G.1 (sI M o 7 x) o = _
  unfold sI
  rw [entC_aI_s]
  unfold entCK
  rw [hk]
  rfl
theorem hpX3_52 {G : GX} {Q : State → Prop} {nn kc ks pc nL : Nat} {lv : List (Nat × Value)} {st : List Value} {M : Mem} {b : ByteArray} {ret : Option FieldType} {rm : Room} (h : OKm G b RX3 nL ret rm) {o : Nat} {x : Int32} (hk : kd o = 2) (hon : o < nn) (hd : decode b pc = .ok (.putfield 52, 3)) (k : GC G Q nn kc ks (pc + 3) lv st (sI M o 8 x)) : GC G Q nn kc ks pc lv (.int x :: rv G.1 o :: st) M := by
  refine h_put h inW3 rfl 8 (by decide) flX3_52 tyX3_ok nmX3 rfl hon (entC_2 hk) (Nat.le_of_ble_eq_true rfl) ?_ (fun q hq => entC_aI hq) rfl rfl rfl hd k
  show entC G.1 (sI M o 8 x) o = _
  unfold sI
  rw [entC_aI_s]
  unfold entCK
  rw [hk]
  rfl
theorem hgX3_9 {G : GX} {Q : State → Prop} {nn kc ks pc nL : Nat} {lv : List (Nat × Value)} {st : List Value} {M : Mem} {b : ByteArray} {ret : Option FieldType} {rm : Room} (h : OKm G b RX3 nL ret rm) {o : Nat} {β : Type} {kf : Nat → Option β} {res : β} (hk : kd o = 2) (hon : o < nn) (hf : ldR M o 9 kf = some res) (hd : decode b pc = .ok (.getfield 9, 3)) (kk : ∀ x, kf x = some res → GC G Q nn kc ks (pc + 3) lv (rv G.1 x :: st) M) : GC G Q nn kc ks pc lv (rv G.1 o :: st) M := by
  obtain ⟨h9, hk9⟩ := pre_if hf
  exact h_get (z := rv G.1 (M.2.2 o 9 - 1)) h inW3 rfl 9 (by decide) flX3_9 hon (entC_2 hk) (by show some (rc G.1 (M.2.2 o 9)) = _; unfold rc; rw [if_neg h9]) hd (kk _ hk9)
theorem hgX3_15 {G : GX} {Q : State → Prop} {nn kc ks pc nL : Nat} {lv : List (Nat × Value)} {st : List Value} {M : Mem} {b : ByteArray} {ret : Option FieldType} {rm : Room} (h : OKm G b RX3 nL ret rm) {o : Nat} {β : Type} {kf : Nat → Option β} {res : β} (hk : kd o = 2) (hon : o < nn) (hf : ldR M o 10 kf = some res) (hd : decode b pc = .ok (.getfield 15, 3)) (kk : ∀ x, kf x = some res → GC G Q nn kc ks (pc + 3) lv (rv G.1 x :: st) M) : GC G Q nn kc ks pc lv (rv G.1 o :: st) M := by
  obtain ⟨h9, hk9⟩ := pre_if hf
  exact h_get (z := rv G.1 (M.2.2 o 10 - 1)) h inW3 rfl 10 (by decide) flX3_15 hon (entC_2 hk) (by show some (rc G.1 (M.2.2 o 10)) = _; unfold rc; rw [if_neg h9]) hd (kk _ hk9)
theorem hgX3_18 {G : GX} {Q : State → Prop} {nn kc ks pc nL : Nat} {lv : List (Nat × Value)} {st : List Value} {M : Mem} {b : ByteArray} {ret : Option FieldType} {rm : Room} (h : OKm G b RX3 nL ret rm) {o : Nat} {β : Type} {kf : Nat → Option β} {res : β} (hk : kd o = 2) (hon : o < nn) (hf : ldR M o 11 kf = some res) (hd : decode b pc = .ok (.getfield 18, 3)) (kk : ∀ x, kf x = some res → GC G Q nn kc ks (pc + 3) lv (rv G.1 x :: st) M) : GC G Q nn kc ks pc lv (rv G.1 o :: st) M := by
  obtain ⟨h9, hk9⟩ := pre_if hf
  exact h_get (z := rv G.1 (M.2.2 o 11 - 1)) h inW3 rfl 11 (by decide) flX3_18 hon (entC_2 hk) (by show some (rc G.1 (M.2.2 o 11)) = _; unfold rc; rw [if_neg h9]) hd (kk _ hk9)
theorem hgX3_21 {G : GX} {Q : State → Prop} {nn kc ks pc nL : Nat} {lv : List (Nat × Value)} {st : List Value} {M : Mem} {b : ByteArray} {ret : Option FieldType} {rm : Room} (h : OKm G b RX3 nL ret rm) {o : Nat} {β : Type} {kf : Nat → Option β} {res : β} (hk : kd o = 2) (hon : o < nn) (hf : ldR M o 12 kf = some res) (hd : decode b pc = .ok (.getfield 21, 3)) (kk : ∀ x, kf x = some res → GC G Q nn kc ks (pc + 3) lv (rv G.1 x :: st) M) : GC G Q nn kc ks pc lv (rv G.1 o :: st) M := by
  obtain ⟨h9, hk9⟩ := pre_if hf
  exact h_get (z := rv G.1 (M.2.2 o 12 - 1)) h inW3 rfl 12 (by decide) flX3_21 hon (entC_2 hk) (by show some (rc G.1 (M.2.2 o 12)) = _; unfold rc; rw [if_neg h9]) hd (kk _ hk9)
theorem hpX10_7 {G : GX} {Q : State → Prop} {nn kc ks pc nL : Nat} {lv : List (Nat × Value)} {st : List Value} {M : Mem} {b : ByteArray} {ret : Option FieldType} {rm : Room} (h : OKm G b RX10 nL ret rm) {o : Nat} {x : Int32} (hk : kd o = 9) (hon : o < nn) (hd : decode b pc = .ok (.putfield 7, 3)) (k : GC G Q nn kc ks (pc + 3) lv st (sI M o 1 x)) : GC G Q nn kc ks pc lv (.int x :: rv G.1 o :: st) M := by
  refine h_put h inW10 rfl 1 (by decide) flX10_7 tyX10_ok nmX10 rfl hon (entC_9 hk) (Nat.le_of_ble_eq_true rfl) ?_ (fun q hq => entC_aI hq) rfl rfl rfl hd k
  show entC G.1 (sI M o 1 x) o = _
  unfold sI
  rw [entC_aI_s]
  unfold entCK
  rw [hk]
  rfl
theorem hpX10_13 {G : GX} {Q : State → Prop} {nn kc ks pc nL : Nat} {lv : List (Nat × Value)} {st : List Value} {M : Mem} {b : ByteArray} {ret : Option FieldType} {rm : Room} (h : OKm G b RX10 nL ret rm) {o : Nat} {x : Int32} (hk : kd o = 9) (hon : o < nn) (hd : decode b pc = .ok (.putfield 13, 3)) (k : GC G Q nn kc ks (pc + 3) lv st (sI M o 2 x)) : GC G Q nn kc ks pc lv (.int x :: rv G.1 o :: st) M := by
  refine h_put h inW10 rfl 2 (by decide) flX10_13 tyX10_ok nmX10 rfl hon (entC_9 hk) (Nat.le_of_ble_eq_true rfl) ?_ (fun q hq => entC_aI hq) rfl rfl rfl hd k
  show entC G.1 (sI M o 2 x) o = _
  unfold sI
  rw [entC_aI_s]
  unfold entCK
  rw [hk]
  rfl
theorem hpX10_16 {G : GX} {Q : State → Prop} {nn kc ks pc nL : Nat} {lv : List (Nat × Value)} {st : List Value} {M : Mem} {b : ByteArray} {ret : Option FieldType} {rm : Room} (h : OKm G b RX10 nL ret rm) {o : Nat} {x : Int32} (hk : kd o = 9) (hon : o < nn) (hd : decode b pc = .ok (.putfield 16, 3)) (k : GC G Q nn kc ks (pc + 3) lv st (sI M o 3 x)) : GC G Q nn kc ks pc lv (.int x :: rv G.1 o :: st) M := by
  refine h_put h inW10 rfl 3 (by decide) flX10_16 tyX10_ok nmX10 rfl hon (entC_9 hk) (Nat.le_of_ble_eq_true rfl) ?_ (fun q hq => entC_aI hq) rfl rfl rfl hd k
  show entC G.1 (sI M o 3 x) o = _
  unfold sI
  rw [entC_aI_s]
  unfold entCK
  rw [hk]
  rfl
theorem hpX10_19 {G : GX} {Q : State → Prop} {nn kc ks pc nL : Nat} {lv : List (Nat × Value)} {st : List Value} {M : Mem} {b : ByteArray} {ret : Option FieldType} {rm : Room} (h : OKm G b RX10 nL ret rm) {o : Nat} {x : Int32} (hk : kd o = 9) (hon : o < nn) (hd : decode b pc = .ok (.putfield 19, 3)) (k : GC G Q nn kc ks (pc + 3) lv st (sI M o 4 x)) : GC G Q nn kc ks pc lv (.int x :: rv G.1 o :: st) M := by
  refine h_put h inW10 rfl 4 (by decide) flX10_19 tyX10_ok nmX10 rfl hon (entC_9 hk) (Nat.le_of_ble_eq_true rfl) ?_ (fun q hq => entC_aI hq) rfl rfl rfl hd k
  show entC G.1 (sI M o 4 x) o = _
  unfold sI
  rw [entC_aI_s]
  unfold entCK
  rw [hk]
  rfl
theorem hpX10_22 {G : GX} {Q : State → Prop} {nn kc ks pc nL : Nat} {lv : List (Nat × Value)} {st : List Value} {M : Mem} {b : ByteArray} {ret : Option FieldType} {rm : Room} (h : OKm G b RX10 nL ret rm) {o : Nat} {x : Int32} (hk : kd o = 9) (hon : o < nn) (hd : decode b pc = .ok (.putfield 22, 3)) (k : GC G Q nn kc ks (pc + 3) lv st (sI M o 5 x)) : GC G Q nn kc ks pc lv (.int x :: rv G.1 o :: st) M := by
  refine h_put h inW10 rfl 5 (by decide) flX10_22 tyX10_ok nmX10 rfl hon (entC_9 hk) (Nat.le_of_ble_eq_true rfl) ?_ (fun q hq => entC_aI hq) rfl rfl rfl hd k
  show entC G.1 (sI M o 5 x) o = _
  unfold sI
  rw [entC_aI_s]
  unfold entCK
  rw [hk]
  rfl
theorem hpX10_31 {G : GX} {Q : State → Prop} {nn kc ks pc nL : Nat} {lv : List (Nat × Value)} {st : List Value} {M : Mem} {b : ByteArray} {ret : Option FieldType} {rm : Room} (h : OKm G b RX10 nL ret rm) {o : Nat} {x : Nat} (hk : kd o = 9) (hon : o < nn) (hd : decode b pc = .ok (.putfield 31, 3)) (k : GC G Q nn kc ks (pc + 3) lv st (sR M o 6 (x + 1))) : GC G Q nn kc ks pc lv (rv G.1 x :: rv G.1 o :: st) M := by
  refine h_put h inW10 rfl 6 (by decide) flX10_31 tyX10_ok nmX10 rfl hon (entC_9 hk) (Nat.le_of_ble_eq_true rfl) ?_ (fun q hq => entC_aR hq) rfl rfl rfl hd k
  show entC G.1 (sR M o 6 (x + 1)) o = _
  unfold sR
  rw [entC_aR_s]
  unfold entCK
  rw [hk]
  rfl
theorem hpX10_34 {G : GX} {Q : State → Prop} {nn kc ks pc nL : Nat} {lv : List (Nat × Value)} {st : List Value} {M : Mem} {b : ByteArray} {ret : Option FieldType} {rm : Room} (h : OKm G b RX10 nL ret rm) {o : Nat} {x : Nat} (hk : kd o = 9) (hon : o < nn) (hin2 : G.2.2.2.2.2.2.2.2.2.1.name = "<init>") (hd : decode b pc = .ok (.putfield 34, 3)) (k : GC G Q nn kc ks (pc + 3) lv st (sR M o 0 (x + 1))) : GC G Q nn kc ks pc lv (rv G.1 x :: rv G.1 o :: st) M := by
  refine h_putF h inW10 rfl 0 (by decide) flX10_34 tyX10_ok nmX10 rfl hin2 rfl hon (entC_9 hk) (Nat.le_of_ble_eq_true rfl) ?_ (fun q hq => entC_aR hq) rfl rfl rfl hd k
  show entC G.1 (sR M o 0 (x + 1)) o = _
  unfold sR
  rw [entC_aR_s]
  unfold entCK
  rw [hk]
  rfl
theorem hnX7_9 {G : GX} {Q : State → Prop} {nn kc ks pc nL : Nat} {lv : List (Nat × Value)} {st : List Value} {M : Mem} {b : ByteArray} {ret : Option FieldType} {rm : Room} (h : OKm G b RX7 nL ret rm) (hn : nn < KN) (hk2 : kd nn = 4) (hcells : kc + 1 ≤ rm.cells) (hslots : ks + 14 ≤ rm.slots) (hd : decode b pc = .ok (.new 9, 3)) (k : GC G Q (nn + 1) (kc + 1) (ks + 14) (pc + 3) lv (rv G.1 nn :: st) (z3 M nn)) : GC G Q nn kc ks pc lv st M :=
  h_new h inW5 tyX5_ok clX7_9 instX5 iniX5 rfl (fun j hj => vpV_range hj) hn (by unfold entCK; rw [hk2]; rfl) hcells hslots hd k
theorem hpX7_12 {G : GX} {Q : State → Prop} {nn kc ks pc nL : Nat} {lv : List (Nat × Value)} {st : List Value} {M : Mem} {b : ByteArray} {ret : Option FieldType} {rm : Room} (h : OKm G b RX7 nL ret rm) {o : Nat} {x : Nat} (hk : kd o = 6) (hon : o < nn) (hd : decode b pc = .ok (.putfield 12, 3)) (k : GC G Q nn kc ks (pc + 3) lv st (sR M o 0 (x + 1))) : GC G Q nn kc ks pc lv (rv G.1 x :: rv G.1 o :: st) M := by
  refine h_put h inW7 rfl 0 (by decide) flX7_12 tyX7_ok nmX7 rfl hon (entC_6 hk) (Nat.le_of_ble_eq_true rfl) ?_ (fun q hq => entC_aR hq) rfl rfl rfl hd k
  show entC G.1 (sR M o 0 (x + 1)) o = _
  unfold sR
  rw [entC_aR_s]
  unfold entCK
  rw [hk]
  rfl
theorem hpX7_20 {G : GX} {Q : State → Prop} {nn kc ks pc nL : Nat} {lv : List (Nat × Value)} {st : List Value} {M : Mem} {b : ByteArray} {ret : Option FieldType} {rm : Room} (h : OKm G b RX7 nL ret rm) {o : Nat} {x : Nat} (hk : kd o = 6) (hon : o < nn) (hin2 : G.2.2.2.2.2.2.2.2.2.1.name = "<init>") (hd : decode b pc = .ok (.putfield 20, 3)) (k : GC G Q nn kc ks (pc + 3) lv st (sR M o 1 (x + 1))) : GC G Q nn kc ks pc lv (rv G.1 x :: rv G.1 o :: st) M := by
  refine h_putF h inW7 rfl 1 (by decide) flX7_20 tyX7_ok nmX7 rfl hin2 rfl hon (entC_6 hk) (Nat.le_of_ble_eq_true rfl) ?_ (fun q hq => entC_aR hq) rfl rfl rfl hd k
  show entC G.1 (sR M o 1 (x + 1)) o = _
  unfold sR
  rw [entC_aR_s]
  unfold entCK
  rw [hk]
  rfl
theorem hpX7_24 {G : GX} {Q : State → Prop} {nn kc ks pc nL : Nat} {lv : List (Nat × Value)} {st : List Value} {M : Mem} {b : ByteArray} {ret : Option FieldType} {rm : Room} (h : OKm G b RX7 nL ret rm) {o : Nat} {x : Nat} (hk : kd o = 6) (hon : o < nn) (hin2 : G.2.2.2.2.2.2.2.2.2.1.name = "<init>") (hd : decode b pc = .ok (.putfield 24, 3)) (k : GC G Q nn kc ks (pc + 3) lv st (sR M o 2 (x + 1))) : GC G Q nn kc ks pc lv (rv G.1 x :: rv G.1 o :: st) M := by
  refine h_putF h inW7 rfl 2 (by decide) flX7_24 tyX7_ok nmX7 rfl hin2 rfl hon (entC_6 hk) (Nat.le_of_ble_eq_true rfl) ?_ (fun q hq => entC_aR hq) rfl rfl rfl hd k
  show entC G.1 (sR M o 2 (x + 1)) o = _
  unfold sR
  rw [entC_aR_s]
  unfold entCK
  rw [hk]
  rfl
theorem hpX7_27 {G : GX} {Q : State → Prop} {nn kc ks pc nL : Nat} {lv : List (Nat × Value)} {st : List Value} {M : Mem} {b : ByteArray} {ret : Option FieldType} {rm : Room} (h : OKm G b RX7 nL ret rm) {o : Nat} {x : Nat} (hk : kd o = 6) (hon : o < nn) (hin2 : G.2.2.2.2.2.2.2.2.2.1.name = "<init>") (hd : decode b pc = .ok (.putfield 27, 3)) (k : GC G Q nn kc ks (pc + 3) lv st (sR M o 3 (x + 1))) : GC G Q nn kc ks pc lv (rv G.1 x :: rv G.1 o :: st) M := by
  refine h_putF h inW7 rfl 3 (by decide) flX7_27 tyX7_ok nmX7 rfl hin2 rfl hon (entC_6 hk) (Nat.le_of_ble_eq_true rfl) ?_ (fun q hq => entC_aR hq) rfl rfl rfl hd k
  show entC G.1 (sR M o 3 (x + 1)) o = _
  unfold sR
  rw [entC_aR_s]
  unfold entCK
  rw [hk]
  rfl
theorem hnX2_9 {G : GX} {Q : State → Prop} {nn kc ks pc nL : Nat} {lv : List (Nat × Value)} {st : List Value} {M : Mem} {b : ByteArray} {ret : Option FieldType} {rm : Room} (h : OKm G b RX2 nL ret rm) (hn : nn < KN) (hk2 : kd nn = 2) (hcells : kc + 1 ≤ rm.cells) (hslots : ks + 13 ≤ rm.slots) (hd : decode b pc = .ok (.new 9, 3)) (k : GC G Q (nn + 1) (kc + 1) (ks + 13) (pc + 3) lv (rv G.1 nn :: st) (z3 M nn)) : GC G Q nn kc ks pc lv st M :=
  h_new h inW3 tyX3_ok clX2_9 instX3 iniX3 rfl (fun j hj => vpV_range hj) hn (by unfold entCK; rw [hk2]; rfl) hcells hslots hd k
theorem hpX2_12 {G : GX} {Q : State → Prop} {nn kc ks pc nL : Nat} {lv : List (Nat × Value)} {st : List Value} {M : Mem} {b : ByteArray} {ret : Option FieldType} {rm : Room} (h : OKm G b RX2 nL ret rm) {o : Nat} {x : Nat} (hk : kd o = 1) (hon : o < nn) (hin2 : G.2.2.2.2.2.2.2.2.2.1.name = "<init>") (hd : decode b pc = .ok (.putfield 12, 3)) (k : GC G Q nn kc ks (pc + 3) lv st (sR M o 1 (x + 1))) : GC G Q nn kc ks pc lv (rv G.1 x :: rv G.1 o :: st) M := by
  refine h_putF h inW2 rfl 1 (by decide) flX2_12 tyX2_ok nmX2 rfl hin2 rfl hon (entC_1 hk) (Nat.le_of_ble_eq_true rfl) ?_ (fun q hq => entC_aR hq) rfl rfl rfl hd k
  show entC G.1 (sR M o 1 (x + 1)) o = _
  unfold sR
  rw [entC_aR_s]
  unfold entCK
  rw [hk]
  rfl
theorem hpX2_18 {G : GX} {Q : State → Prop} {nn kc ks pc nL : Nat} {lv : List (Nat × Value)} {st : List Value} {M : Mem} {b : ByteArray} {ret : Option FieldType} {rm : Room} (h : OKm G b RX2 nL ret rm) {o : Nat} {x : Nat} (hk : kd o = 1) (hon : o < nn) (hin2 : G.2.2.2.2.2.2.2.2.2.1.name = "<init>") (hd : decode b pc = .ok (.putfield 18, 3)) (k : GC G Q nn kc ks (pc + 3) lv st (sR M o 2 (x + 1))) : GC G Q nn kc ks pc lv (rv G.1 x :: rv G.1 o :: st) M := by
  refine h_putF h inW2 rfl 2 (by decide) flX2_18 tyX2_ok nmX2 rfl hin2 rfl hon (entC_1 hk) (Nat.le_of_ble_eq_true rfl) ?_ (fun q hq => entC_aR hq) rfl rfl rfl hd k
  show entC G.1 (sR M o 2 (x + 1)) o = _
  unfold sR
  rw [entC_aR_s]
  unfold entCK
  rw [hk]
  rfl
theorem hpX2_22 {G : GX} {Q : State → Prop} {nn kc ks pc nL : Nat} {lv : List (Nat × Value)} {st : List Value} {M : Mem} {b : ByteArray} {ret : Option FieldType} {rm : Room} (h : OKm G b RX2 nL ret rm) {o : Nat} {x : Int32} (hk : kd o = 1) (hon : o < nn) (hd : decode b pc = .ok (.putfield 22, 3)) (k : GC G Q nn kc ks (pc + 3) lv st (sI M o 3 x)) : GC G Q nn kc ks pc lv (.int x :: rv G.1 o :: st) M := by
  refine h_put h inW2 rfl 3 (by decide) flX2_22 tyX2_ok nmX2 rfl hon (entC_1 hk) (Nat.le_of_ble_eq_true rfl) ?_ (fun q hq => entC_aI hq) rfl rfl rfl hd k
  show entC G.1 (sI M o 3 x) o = _
  unfold sI
  rw [entC_aI_s]
  unfold entCK
  rw [hk]
  rfl
theorem hpX2_26 {G : GX} {Q : State → Prop} {nn kc ks pc nL : Nat} {lv : List (Nat × Value)} {st : List Value} {M : Mem} {b : ByteArray} {ret : Option FieldType} {rm : Room} (h : OKm G b RX2 nL ret rm) {o : Nat} {x : Nat} (hk : kd o = 1) (hon : o < nn) (hin2 : G.2.2.2.2.2.2.2.2.2.1.name = "<init>") (hd : decode b pc = .ok (.putfield 26, 3)) (k : GC G Q nn kc ks (pc + 3) lv st (sR M o 4 (x + 1))) : GC G Q nn kc ks pc lv (rv G.1 x :: rv G.1 o :: st) M := by
  refine h_putF h inW2 rfl 4 (by decide) flX2_26 tyX2_ok nmX2 rfl hin2 rfl hon (entC_1 hk) (Nat.le_of_ble_eq_true rfl) ?_ (fun q hq => entC_aR hq) rfl rfl rfl hd k
  show entC G.1 (sR M o 4 (x + 1)) o = _
  unfold sR
  rw [entC_aR_s]
  unfold entCK
  rw [hk]
  rfl
theorem hpX2_30 {G : GX} {Q : State → Prop} {nn kc ks pc nL : Nat} {lv : List (Nat × Value)} {st : List Value} {M : Mem} {b : ByteArray} {ret : Option FieldType} {rm : Room} (h : OKm G b RX2 nL ret rm) {o : Nat} {x : Nat} (hk : kd o = 1) (hon : o < nn) (hin2 : G.2.2.2.2.2.2.2.2.2.1.name = "<init>") (hd : decode b pc = .ok (.putfield 30, 3)) (k : GC G Q nn kc ks (pc + 3) lv st (sR M o 5 (x + 1))) : GC G Q nn kc ks pc lv (rv G.1 x :: rv G.1 o :: st) M := by
  refine h_putF h inW2 rfl 5 (by decide) flX2_30 tyX2_ok nmX2 rfl hin2 rfl hon (entC_1 hk) (Nat.le_of_ble_eq_true rfl) ?_ (fun q hq => entC_aR hq) rfl rfl rfl hd k
  show entC G.1 (sR M o 5 (x + 1)) o = _
  unfold sR
  rw [entC_aR_s]
  unfold entCK
  rw [hk]
  rfl
theorem hpX2_34 {G : GX} {Q : State → Prop} {nn kc ks pc nL : Nat} {lv : List (Nat × Value)} {st : List Value} {M : Mem} {b : ByteArray} {ret : Option FieldType} {rm : Room} (h : OKm G b RX2 nL ret rm) {o : Nat} {x : Nat} (hk : kd o = 1) (hon : o < nn) (hin2 : G.2.2.2.2.2.2.2.2.2.1.name = "<init>") (hd : decode b pc = .ok (.putfield 34, 3)) (k : GC G Q nn kc ks (pc + 3) lv st (sR M o 6 (x + 1))) : GC G Q nn kc ks pc lv (rv G.1 x :: rv G.1 o :: st) M := by
  refine h_putF h inW2 rfl 6 (by decide) flX2_34 tyX2_ok nmX2 rfl hin2 rfl hon (entC_1 hk) (Nat.le_of_ble_eq_true rfl) ?_ (fun q hq => entC_aR hq) rfl rfl rfl hd k
  show entC G.1 (sR M o 6 (x + 1)) o = _
  unfold sR
  rw [entC_aR_s]
  unfold entCK
  rw [hk]
  rfl
theorem hpX2_37 {G : GX} {Q : State → Prop} {nn kc ks pc nL : Nat} {lv : List (Nat × Value)} {st : List Value} {M : Mem} {b : ByteArray} {ret : Option FieldType} {rm : Room} (h : OKm G b RX2 nL ret rm) {o : Nat} {x : Nat} (hk : kd o = 1) (hon : o < nn) (hin2 : G.2.2.2.2.2.2.2.2.2.1.name = "<init>") (hd : decode b pc = .ok (.putfield 37, 3)) (k : GC G Q nn kc ks (pc + 3) lv st (sR M o 7 (x + 1))) : GC G Q nn kc ks pc lv (rv G.1 x :: rv G.1 o :: st) M := by
  refine h_putF h inW2 rfl 7 (by decide) flX2_37 tyX2_ok nmX2 rfl hin2 rfl hon (entC_1 hk) (Nat.le_of_ble_eq_true rfl) ?_ (fun q hq => entC_aR hq) rfl rfl rfl hd k
  show entC G.1 (sR M o 7 (x + 1)) o = _
  unfold sR
  rw [entC_aR_s]
  unfold entCK
  rw [hk]
  rfl
theorem hpX2_40 {G : GX} {Q : State → Prop} {nn kc ks pc nL : Nat} {lv : List (Nat × Value)} {st : List Value} {M : Mem} {b : ByteArray} {ret : Option FieldType} {rm : Room} (h : OKm G b RX2 nL ret rm) {o : Nat} {x : Nat} (hk : kd o = 1) (hon : o < nn) (hin2 : G.2.2.2.2.2.2.2.2.2.1.name = "<init>") (hd : decode b pc = .ok (.putfield 40, 3)) (k : GC G Q nn kc ks (pc + 3) lv st (sR M o 8 (x + 1))) : GC G Q nn kc ks pc lv (rv G.1 x :: rv G.1 o :: st) M := by
  refine h_putF h inW2 rfl 8 (by decide) flX2_40 tyX2_ok nmX2 rfl hin2 rfl hon (entC_1 hk) (Nat.le_of_ble_eq_true rfl) ?_ (fun q hq => entC_aR hq) rfl rfl rfl hd k
  show entC G.1 (sR M o 8 (x + 1)) o = _
  unfold sR
  rw [entC_aR_s]
  unfold entCK
  rw [hk]
  rfl
theorem hpX2_43 {G : GX} {Q : State → Prop} {nn kc ks pc nL : Nat} {lv : List (Nat × Value)} {st : List Value} {M : Mem} {b : ByteArray} {ret : Option FieldType} {rm : Room} (h : OKm G b RX2 nL ret rm) {o : Nat} {x : Nat} (hk : kd o = 1) (hon : o < nn) (hin2 : G.2.2.2.2.2.2.2.2.2.1.name = "<init>") (hd : decode b pc = .ok (.putfield 43, 3)) (k : GC G Q nn kc ks (pc + 3) lv st (sR M o 0 (x + 1))) : GC G Q nn kc ks pc lv (rv G.1 x :: rv G.1 o :: st) M := by
  refine h_putF h inW2 rfl 0 (by decide) flX2_43 tyX2_ok nmX2 rfl hin2 rfl hon (entC_1 hk) (Nat.le_of_ble_eq_true rfl) ?_ (fun q hq => entC_aR hq) rfl rfl rfl hd k
  show entC G.1 (sR M o 0 (x + 1)) o = _
  unfold sR
  rw [entC_aR_s]
  unfold entCK
  rw [hk]
  rfl
theorem hgX2_18 {G : GX} {Q : State → Prop} {nn kc ks pc nL : Nat} {lv : List (Nat × Value)} {st : List Value} {M : Mem} {b : ByteArray} {ret : Option FieldType} {rm : Room} (h : OKm G b RX2 nL ret rm) {o : Nat} {β : Type} {kf : Nat → Option β} {res : β} (hk : kd o = 1) (hon : o < nn) (hf : ldR M o 2 kf = some res) (hd : decode b pc = .ok (.getfield 18, 3)) (kk : ∀ x, kf x = some res → GC G Q nn kc ks (pc + 3) lv (rv G.1 x :: st) M) : GC G Q nn kc ks pc lv (rv G.1 o :: st) M := by
  obtain ⟨h9, hk9⟩ := pre_if hf
  exact h_get (z := rv G.1 (M.2.2 o 2 - 1)) h inW2 rfl 2 (by decide) flX2_18 hon (entC_1 hk) (by show some (rc G.1 (M.2.2 o 2)) = _; unfold rc; rw [if_neg h9]) hd (kk _ hk9)
theorem hpX1_9 {G : GX} {Q : State → Prop} {nn kc ks pc nL : Nat} {lv : List (Nat × Value)} {st : List Value} {M : Mem} {b : ByteArray} {ret : Option FieldType} {rm : Room} (h : OKm G b RX1 nL ret rm) {o : Nat} {x : Int32} (hk : kd o = 0) (hon : o < nn) (hd : decode b pc = .ok (.putfield 9, 3)) (k : GC G Q nn kc ks (pc + 3) lv st (sI M o 0 x)) : GC G Q nn kc ks pc lv (.int x :: rv G.1 o :: st) M := by
  refine h_put h inW1 rfl 0 (by decide) flX1_9 tyX1_ok nmX1 rfl hon (entC_0 hk) (Nat.le_of_ble_eq_true rfl) ?_ (fun q hq => entC_aI hq) rfl rfl rfl hd k
  show entC G.1 (sI M o 0 x) o = _
  unfold sI
  rw [entC_aI_s]
  unfold entCK
  rw [hk]
  rfl
theorem hpX1_17 {G : GX} {Q : State → Prop} {nn kc ks pc nL : Nat} {lv : List (Nat × Value)} {st : List Value} {M : Mem} {b : ByteArray} {ret : Option FieldType} {rm : Room} (h : OKm G b RX1 nL ret rm) {o : Nat} {x : Nat} (hk : kd o = 0) (hon : o < nn) (hin2 : G.2.2.2.2.2.2.2.2.2.1.name = "<init>") (hd : decode b pc = .ok (.putfield 17, 3)) (k : GC G Q nn kc ks (pc + 3) lv st (sR M o 1 (x + 1))) : GC G Q nn kc ks pc lv (rv G.1 x :: rv G.1 o :: st) M := by
  refine h_putF h inW1 rfl 1 (by decide) flX1_17 tyX1_ok nmX1 rfl hin2 rfl hon (entC_0 hk) (Nat.le_of_ble_eq_true rfl) ?_ (fun q hq => entC_aR hq) rfl rfl rfl hd k
  show entC G.1 (sR M o 1 (x + 1)) o = _
  unfold sR
  rw [entC_aR_s]
  unfold entCK
  rw [hk]
  rfl
theorem hpX9_9 {G : GX} {Q : State → Prop} {nn kc ks pc nL : Nat} {lv : List (Nat × Value)} {st : List Value} {M : Mem} {b : ByteArray} {ret : Option FieldType} {rm : Room} (h : OKm G b RX9 nL ret rm) {o : Nat} {x : Int32} (hk : kd o = 8) (hon : o < nn) (hd : decode b pc = .ok (.putfield 9, 3)) (k : GC G Q nn kc ks (pc + 3) lv st (sI M o 0 x)) : GC G Q nn kc ks pc lv (.int x :: rv G.1 o :: st) M := by
  refine h_put h inW9 rfl 0 (by decide) flX9_9 tyX9_ok nmX9 rfl hon (entC_8 hk) (Nat.le_of_ble_eq_true rfl) ?_ (fun q hq => entC_aI hq) rfl rfl rfl hd k
  show entC G.1 (sI M o 0 x) o = _
  unfold sI
  rw [entC_aI_s]
  unfold entCK
  rw [hk]
  rfl
theorem hpX9_15 {G : GX} {Q : State → Prop} {nn kc ks pc nL : Nat} {lv : List (Nat × Value)} {st : List Value} {M : Mem} {b : ByteArray} {ret : Option FieldType} {rm : Room} (h : OKm G b RX9 nL ret rm) {o : Nat} {x : Nat} (hk : kd o = 8) (hon : o < nn) (hin2 : G.2.2.2.2.2.2.2.2.2.1.name = "<init>") (hd : decode b pc = .ok (.putfield 15, 3)) (k : GC G Q nn kc ks (pc + 3) lv st (sR M o 1 (x + 1))) : GC G Q nn kc ks pc lv (rv G.1 x :: rv G.1 o :: st) M := by
  refine h_putF h inW9 rfl 1 (by decide) flX9_15 tyX9_ok nmX9 rfl hin2 rfl hon (entC_8 hk) (Nat.le_of_ble_eq_true rfl) ?_ (fun q hq => entC_aR hq) rfl rfl rfl hd k
  show entC G.1 (sR M o 1 (x + 1)) o = _
  unfold sR
  rw [entC_aR_s]
  unfold entCK
  rw [hk]
  rfl
theorem hpX9_19 {G : GX} {Q : State → Prop} {nn kc ks pc nL : Nat} {lv : List (Nat × Value)} {st : List Value} {M : Mem} {b : ByteArray} {ret : Option FieldType} {rm : Room} (h : OKm G b RX9 nL ret rm) {o : Nat} {x : Nat} (hk : kd o = 8) (hon : o < nn) (hin2 : G.2.2.2.2.2.2.2.2.2.1.name = "<init>") (hd : decode b pc = .ok (.putfield 19, 3)) (k : GC G Q nn kc ks (pc + 3) lv st (sR M o 2 (x + 1))) : GC G Q nn kc ks pc lv (rv G.1 x :: rv G.1 o :: st) M := by
  refine h_putF h inW9 rfl 2 (by decide) flX9_19 tyX9_ok nmX9 rfl hin2 rfl hon (entC_8 hk) (Nat.le_of_ble_eq_true rfl) ?_ (fun q hq => entC_aR hq) rfl rfl rfl hd k
  show entC G.1 (sR M o 2 (x + 1)) o = _
  unfold sR
  rw [entC_aR_s]
  unfold entCK
  rw [hk]
  rfl
theorem hpX13_9 {G : GX} {Q : State → Prop} {nn kc ks pc nL : Nat} {lv : List (Nat × Value)} {st : List Value} {M : Mem} {b : ByteArray} {ret : Option FieldType} {rm : Room} (h : OKm G b RX13 nL ret rm) {o : Nat} {x : Int32} (hk : kd o = 11) (hon : o < nn) (hd : decode b pc = .ok (.putfield 9, 3)) (k : GC G Q nn kc ks (pc + 3) lv st (sI M o 6 x)) : GC G Q nn kc ks pc lv (.int x :: rv G.1 o :: st) M := by
  refine h_put h inW13 rfl 6 (by decide) flX13_9 tyX13_ok nmX13 rfl hon (entC_11 hk) (Nat.le_of_ble_eq_true rfl) ?_ (fun q hq => entC_aI hq) rfl rfl rfl hd k
  show entC G.1 (sI M o 6 x) o = _
  unfold sI
  rw [entC_aI_s]
  unfold entCK
  rw [hk]
  rfl
theorem hpX13_13 {G : GX} {Q : State → Prop} {nn kc ks pc nL : Nat} {lv : List (Nat × Value)} {st : List Value} {M : Mem} {b : ByteArray} {ret : Option FieldType} {rm : Room} (h : OKm G b RX13 nL ret rm) {o : Nat} {x : Int32} (hk : kd o = 11) (hon : o < nn) (hd : decode b pc = .ok (.putfield 13, 3)) (k : GC G Q nn kc ks (pc + 3) lv st (sI M o 7 x)) : GC G Q nn kc ks pc lv (.int x :: rv G.1 o :: st) M := by
  refine h_put h inW13 rfl 7 (by decide) flX13_13 tyX13_ok nmX13 rfl hon (entC_11 hk) (Nat.le_of_ble_eq_true rfl) ?_ (fun q hq => entC_aI hq) rfl rfl rfl hd k
  show entC G.1 (sI M o 7 x) o = _
  unfold sI
  rw [entC_aI_s]
  unfold entCK
  rw [hk]
  rfl
theorem hpX13_16 {G : GX} {Q : State → Prop} {nn kc ks pc nL : Nat} {lv : List (Nat × Value)} {st : List Value} {M : Mem} {b : ByteArray} {ret : Option FieldType} {rm : Room} (h : OKm G b RX13 nL ret rm) {o : Nat} {x : Nat} (hk : kd o = 11) (hon : o < nn) (hin2 : G.2.2.2.2.2.2.2.2.2.1.name = "<init>") (hd : decode b pc = .ok (.putfield 16, 3)) (k : GC G Q nn kc ks (pc + 3) lv st (sR M o 8 (x + 1))) : GC G Q nn kc ks pc lv (rv G.1 x :: rv G.1 o :: st) M := by
  refine h_putF h inW13 rfl 8 (by decide) flX13_16 tyX13_ok nmX13 rfl hin2 rfl hon (entC_11 hk) (Nat.le_of_ble_eq_true rfl) ?_ (fun q hq => entC_aR hq) rfl rfl rfl hd k
  show entC G.1 (sR M o 8 (x + 1)) o = _
  unfold sR
  rw [entC_aR_s]
  unfold entCK
  rw [hk]
  rfl
theorem hpX13_20 {G : GX} {Q : State → Prop} {nn kc ks pc nL : Nat} {lv : List (Nat × Value)} {st : List Value} {M : Mem} {b : ByteArray} {ret : Option FieldType} {rm : Room} (h : OKm G b RX13 nL ret rm) {o : Nat} {x : Nat} (hk : kd o = 11) (hon : o < nn) (hin2 : G.2.2.2.2.2.2.2.2.2.1.name = "<init>") (hd : decode b pc = .ok (.putfield 20, 3)) (k : GC G Q nn kc ks (pc + 3) lv st (sR M o 9 (x + 1))) : GC G Q nn kc ks pc lv (rv G.1 x :: rv G.1 o :: st) M := by
  refine h_putF h inW13 rfl 9 (by decide) flX13_20 tyX13_ok nmX13 rfl hin2 rfl hon (entC_11 hk) (Nat.le_of_ble_eq_true rfl) ?_ (fun q hq => entC_aR hq) rfl rfl rfl hd k
  show entC G.1 (sR M o 9 (x + 1)) o = _
  unfold sR
  rw [entC_aR_s]
  unfold entCK
  rw [hk]
  rfl
theorem hpX13_23 {G : GX} {Q : State → Prop} {nn kc ks pc nL : Nat} {lv : List (Nat × Value)} {st : List Value} {M : Mem} {b : ByteArray} {ret : Option FieldType} {rm : Room} (h : OKm G b RX13 nL ret rm) {o : Nat} {x : Nat} (hk : kd o = 11) (hon : o < nn) (hin2 : G.2.2.2.2.2.2.2.2.2.1.name = "<init>") (hd : decode b pc = .ok (.putfield 23, 3)) (k : GC G Q nn kc ks (pc + 3) lv st (sR M o 10 (x + 1))) : GC G Q nn kc ks pc lv (rv G.1 x :: rv G.1 o :: st) M := by
  refine h_putF h inW13 rfl 10 (by decide) flX13_23 tyX13_ok nmX13 rfl hin2 rfl hon (entC_11 hk) (Nat.le_of_ble_eq_true rfl) ?_ (fun q hq => entC_aR hq) rfl rfl rfl hd k
  show entC G.1 (sR M o 10 (x + 1)) o = _
  unfold sR
  rw [entC_aR_s]
  unfold entCK
  rw [hk]
  rfl
theorem hpX13_26 {G : GX} {Q : State → Prop} {nn kc ks pc nL : Nat} {lv : List (Nat × Value)} {st : List Value} {M : Mem} {b : ByteArray} {ret : Option FieldType} {rm : Room} (h : OKm G b RX13 nL ret rm) {o : Nat} {x : Nat} (hk : kd o = 11) (hon : o < nn) (hin2 : G.2.2.2.2.2.2.2.2.2.1.name = "<init>") (hd : decode b pc = .ok (.putfield 26, 3)) (k : GC G Q nn kc ks (pc + 3) lv st (sR M o 11 (x + 1))) : GC G Q nn kc ks pc lv (rv G.1 x :: rv G.1 o :: st) M := by
  refine h_putF h inW13 rfl 11 (by decide) flX13_26 tyX13_ok nmX13 rfl hin2 rfl hon (entC_11 hk) (Nat.le_of_ble_eq_true rfl) ?_ (fun q hq => entC_aR hq) rfl rfl rfl hd k
  show entC G.1 (sR M o 11 (x + 1)) o = _
  unfold sR
  rw [entC_aR_s]
  unfold entCK
  rw [hk]
  rfl
theorem hpX13_29 {G : GX} {Q : State → Prop} {nn kc ks pc nL : Nat} {lv : List (Nat × Value)} {st : List Value} {M : Mem} {b : ByteArray} {ret : Option FieldType} {rm : Room} (h : OKm G b RX13 nL ret rm) {o : Nat} {x : Nat} (hk : kd o = 11) (hon : o < nn) (hin2 : G.2.2.2.2.2.2.2.2.2.1.name = "<init>") (hd : decode b pc = .ok (.putfield 29, 3)) (k : GC G Q nn kc ks (pc + 3) lv st (sR M o 12 (x + 1))) : GC G Q nn kc ks pc lv (rv G.1 x :: rv G.1 o :: st) M := by
  refine h_putF h inW13 rfl 12 (by decide) flX13_29 tyX13_ok nmX13 rfl hin2 rfl hon (entC_11 hk) (Nat.le_of_ble_eq_true rfl) ?_ (fun q hq => entC_aR hq) rfl rfl rfl hd k
  show entC G.1 (sR M o 12 (x + 1)) o = _
  unfold sR
  rw [entC_aR_s]
  unfold entCK
  rw [hk]
  rfl
theorem hpX13_32 {G : GX} {Q : State → Prop} {nn kc ks pc nL : Nat} {lv : List (Nat × Value)} {st : List Value} {M : Mem} {b : ByteArray} {ret : Option FieldType} {rm : Room} (h : OKm G b RX13 nL ret rm) {o : Nat} {x : Nat} (hk : kd o = 11) (hon : o < nn) (hin2 : G.2.2.2.2.2.2.2.2.2.1.name = "<init>") (hd : decode b pc = .ok (.putfield 32, 3)) (k : GC G Q nn kc ks (pc + 3) lv st (sR M o 13 (x + 1))) : GC G Q nn kc ks pc lv (rv G.1 x :: rv G.1 o :: st) M := by
  refine h_putF h inW13 rfl 13 (by decide) flX13_32 tyX13_ok nmX13 rfl hin2 rfl hon (entC_11 hk) (Nat.le_of_ble_eq_true rfl) ?_ (fun q hq => entC_aR hq) rfl rfl rfl hd k
  show entC G.1 (sR M o 13 (x + 1)) o = _
  unfold sR
  rw [entC_aR_s]
  unfold entCK
  rw [hk]
  rfl
theorem hpX13_35 {G : GX} {Q : State → Prop} {nn kc ks pc nL : Nat} {lv : List (Nat × Value)} {st : List Value} {M : Mem} {b : ByteArray} {ret : Option FieldType} {rm : Room} (h : OKm G b RX13 nL ret rm) {o : Nat} {x : Nat} (hk : kd o = 11) (hon : o < nn) (hin2 : G.2.2.2.2.2.2.2.2.2.1.name = "<init>") (hd : decode b pc = .ok (.putfield 35, 3)) (k : GC G Q nn kc ks (pc + 3) lv st (sR M o 14 (x + 1))) : GC G Q nn kc ks pc lv (rv G.1 x :: rv G.1 o :: st) M := by
  refine h_putF h inW13 rfl 14 (by decide) flX13_35 tyX13_ok nmX13 rfl hin2 rfl hon (entC_11 hk) (Nat.le_of_ble_eq_true rfl) ?_ (fun q hq => entC_aR hq) rfl rfl rfl hd k
  show entC G.1 (sR M o 14 (x + 1)) o = _
  unfold sR
  rw [entC_aR_s]
  unfold entCK
  rw [hk]
  rfl
theorem hpX13_38 {G : GX} {Q : State → Prop} {nn kc ks pc nL : Nat} {lv : List (Nat × Value)} {st : List Value} {M : Mem} {b : ByteArray} {ret : Option FieldType} {rm : Room} (h : OKm G b RX13 nL ret rm) {o : Nat} {x : Nat} (hk : kd o = 11) (hon : o < nn) (hin2 : G.2.2.2.2.2.2.2.2.2.1.name = "<init>") (hd : decode b pc = .ok (.putfield 38, 3)) (k : GC G Q nn kc ks (pc + 3) lv st (sR M o 15 (x + 1))) : GC G Q nn kc ks pc lv (rv G.1 x :: rv G.1 o :: st) M := by
  refine h_putF h inW13 rfl 15 (by decide) flX13_38 tyX13_ok nmX13 rfl hin2 rfl hon (entC_11 hk) (Nat.le_of_ble_eq_true rfl) ?_ (fun q hq => entC_aR hq) rfl rfl rfl hd k
  show entC G.1 (sR M o 15 (x + 1)) o = _
  unfold sR
  rw [entC_aR_s]
  unfold entCK
  rw [hk]
  rfl
theorem hpX13_41 {G : GX} {Q : State → Prop} {nn kc ks pc nL : Nat} {lv : List (Nat × Value)} {st : List Value} {M : Mem} {b : ByteArray} {ret : Option FieldType} {rm : Room} (h : OKm G b RX13 nL ret rm) {o : Nat} {x : Nat} (hk : kd o = 11) (hon : o < nn) (hin2 : G.2.2.2.2.2.2.2.2.2.1.name = "<init>") (hd : decode b pc = .ok (.putfield 41, 3)) (k : GC G Q nn kc ks (pc + 3) lv st (sR M o 16 (x + 1))) : GC G Q nn kc ks pc lv (rv G.1 x :: rv G.1 o :: st) M := by
  refine h_putF h inW13 rfl 16 (by decide) flX13_41 tyX13_ok nmX13 rfl hin2 rfl hon (entC_11 hk) (Nat.le_of_ble_eq_true rfl) ?_ (fun q hq => entC_aR hq) rfl rfl rfl hd k
  show entC G.1 (sR M o 16 (x + 1)) o = _
  unfold sR
  rw [entC_aR_s]
  unfold entCK
  rw [hk]
  rfl
theorem hpX13_44 {G : GX} {Q : State → Prop} {nn kc ks pc nL : Nat} {lv : List (Nat × Value)} {st : List Value} {M : Mem} {b : ByteArray} {ret : Option FieldType} {rm : Room} (h : OKm G b RX13 nL ret rm) {o : Nat} {x : Nat} (hk : kd o = 11) (hon : o < nn) (hin2 : G.2.2.2.2.2.2.2.2.2.1.name = "<init>") (hd : decode b pc = .ok (.putfield 44, 3)) (k : GC G Q nn kc ks (pc + 3) lv st (sR M o 17 (x + 1))) : GC G Q nn kc ks pc lv (rv G.1 x :: rv G.1 o :: st) M := by
  refine h_putF h inW13 rfl 17 (by decide) flX13_44 tyX13_ok nmX13 rfl hin2 rfl hon (entC_11 hk) (Nat.le_of_ble_eq_true rfl) ?_ (fun q hq => entC_aR hq) rfl rfl rfl hd k
  show entC G.1 (sR M o 17 (x + 1)) o = _
  unfold sR
  rw [entC_aR_s]
  unfold entCK
  rw [hk]
  rfl
theorem hpX13_47 {G : GX} {Q : State → Prop} {nn kc ks pc nL : Nat} {lv : List (Nat × Value)} {st : List Value} {M : Mem} {b : ByteArray} {ret : Option FieldType} {rm : Room} (h : OKm G b RX13 nL ret rm) {o : Nat} {x : Nat} (hk : kd o = 11) (hon : o < nn) (hin2 : G.2.2.2.2.2.2.2.2.2.1.name = "<init>") (hd : decode b pc = .ok (.putfield 47, 3)) (k : GC G Q nn kc ks (pc + 3) lv st (sR M o 18 (x + 1))) : GC G Q nn kc ks pc lv (rv G.1 x :: rv G.1 o :: st) M := by
  refine h_putF h inW13 rfl 18 (by decide) flX13_47 tyX13_ok nmX13 rfl hin2 rfl hon (entC_11 hk) (Nat.le_of_ble_eq_true rfl) ?_ (fun q hq => entC_aR hq) rfl rfl rfl hd k
  show entC G.1 (sR M o 18 (x + 1)) o = _
  unfold sR
  rw [entC_aR_s]
  unfold entCK
  rw [hk]
  rfl
theorem hpX13_50 {G : GX} {Q : State → Prop} {nn kc ks pc nL : Nat} {lv : List (Nat × Value)} {st : List Value} {M : Mem} {b : ByteArray} {ret : Option FieldType} {rm : Room} (h : OKm G b RX13 nL ret rm) {o : Nat} {x : Nat} (hk : kd o = 11) (hon : o < nn) (hin2 : G.2.2.2.2.2.2.2.2.2.1.name = "<init>") (hd : decode b pc = .ok (.putfield 50, 3)) (k : GC G Q nn kc ks (pc + 3) lv st (sR M o 19 (x + 1))) : GC G Q nn kc ks pc lv (rv G.1 x :: rv G.1 o :: st) M := by
  refine h_putF h inW13 rfl 19 (by decide) flX13_50 tyX13_ok nmX13 rfl hin2 rfl hon (entC_11 hk) (Nat.le_of_ble_eq_true rfl) ?_ (fun q hq => entC_aR hq) rfl rfl rfl hd k
  show entC G.1 (sR M o 19 (x + 1)) o = _
  unfold sR
  rw [entC_aR_s]
  unfold entCK
  rw [hk]
  rfl
theorem hpX13_53 {G : GX} {Q : State → Prop} {nn kc ks pc nL : Nat} {lv : List (Nat × Value)} {st : List Value} {M : Mem} {b : ByteArray} {ret : Option FieldType} {rm : Room} (h : OKm G b RX13 nL ret rm) {o : Nat} {x : Nat} (hk : kd o = 11) (hon : o < nn) (hin2 : G.2.2.2.2.2.2.2.2.2.1.name = "<init>") (hd : decode b pc = .ok (.putfield 53, 3)) (k : GC G Q nn kc ks (pc + 3) lv st (sR M o 20 (x + 1))) : GC G Q nn kc ks pc lv (rv G.1 x :: rv G.1 o :: st) M := by
  refine h_putF h inW13 rfl 20 (by decide) flX13_53 tyX13_ok nmX13 rfl hin2 rfl hon (entC_11 hk) (Nat.le_of_ble_eq_true rfl) ?_ (fun q hq => entC_aR hq) rfl rfl rfl hd k
  show entC G.1 (sR M o 20 (x + 1)) o = _
  unfold sR
  rw [entC_aR_s]
  unfold entCK
  rw [hk]
  rfl
theorem hpX13_56 {G : GX} {Q : State → Prop} {nn kc ks pc nL : Nat} {lv : List (Nat × Value)} {st : List Value} {M : Mem} {b : ByteArray} {ret : Option FieldType} {rm : Room} (h : OKm G b RX13 nL ret rm) {o : Nat} {x : Int32} (hk : kd o = 11) (hon : o < nn) (hd : decode b pc = .ok (.putfield 56, 3)) (k : GC G Q nn kc ks (pc + 3) lv st (sI M o 23 x)) : GC G Q nn kc ks pc lv (.int x :: rv G.1 o :: st) M := by
  refine h_put h inW13 rfl 23 (by decide) flX13_56 tyX13_ok nmX13 rfl hon (entC_11 hk) (Nat.le_of_ble_eq_true rfl) ?_ (fun q hq => entC_aI hq) rfl rfl rfl hd k
  show entC G.1 (sI M o 23 x) o = _
  unfold sI
  rw [entC_aI_s]
  unfold entCK
  rw [hk]
  rfl
theorem hpX13_59 {G : GX} {Q : State → Prop} {nn kc ks pc nL : Nat} {lv : List (Nat × Value)} {st : List Value} {M : Mem} {b : ByteArray} {ret : Option FieldType} {rm : Room} (h : OKm G b RX13 nL ret rm) {o : Nat} {x : Nat} (hk : kd o = 11) (hon : o < nn) (hin2 : G.2.2.2.2.2.2.2.2.2.1.name = "<init>") (hd : decode b pc = .ok (.putfield 59, 3)) (k : GC G Q nn kc ks (pc + 3) lv st (sR M o 24 (x + 1))) : GC G Q nn kc ks pc lv (rv G.1 x :: rv G.1 o :: st) M := by
  refine h_putF h inW13 rfl 24 (by decide) flX13_59 tyX13_ok nmX13 rfl hin2 rfl hon (entC_11 hk) (Nat.le_of_ble_eq_true rfl) ?_ (fun q hq => entC_aR hq) rfl rfl rfl hd k
  show entC G.1 (sR M o 24 (x + 1)) o = _
  unfold sR
  rw [entC_aR_s]
  unfold entCK
  rw [hk]
  rfl
theorem hpX13_62 {G : GX} {Q : State → Prop} {nn kc ks pc nL : Nat} {lv : List (Nat × Value)} {st : List Value} {M : Mem} {b : ByteArray} {ret : Option FieldType} {rm : Room} (h : OKm G b RX13 nL ret rm) {o : Nat} {x : Nat} (hk : kd o = 11) (hon : o < nn) (hin2 : G.2.2.2.2.2.2.2.2.2.1.name = "<init>") (hd : decode b pc = .ok (.putfield 62, 3)) (k : GC G Q nn kc ks (pc + 3) lv st (sR M o 47 (x + 1))) : GC G Q nn kc ks pc lv (rv G.1 x :: rv G.1 o :: st) M := by
  refine h_putF h inW13 rfl 47 (by decide) flX13_62 tyX13_ok nmX13 rfl hin2 rfl hon (entC_11 hk) (Nat.le_of_ble_eq_true rfl) ?_ (fun q hq => entC_aR hq) rfl rfl rfl hd k
  show entC G.1 (sR M o 47 (x + 1)) o = _
  unfold sR
  rw [entC_aR_s]
  unfold entCK
  rw [hk]
  rfl
theorem hpX13_65 {G : GX} {Q : State → Prop} {nn kc ks pc nL : Nat} {lv : List (Nat × Value)} {st : List Value} {M : Mem} {b : ByteArray} {ret : Option FieldType} {rm : Room} (h : OKm G b RX13 nL ret rm) {o : Nat} {x : Nat} (hk : kd o = 11) (hon : o < nn) (hin2 : G.2.2.2.2.2.2.2.2.2.1.name = "<init>") (hd : decode b pc = .ok (.putfield 65, 3)) (k : GC G Q nn kc ks (pc + 3) lv st (sR M o 48 (x + 1))) : GC G Q nn kc ks pc lv (rv G.1 x :: rv G.1 o :: st) M := by
  refine h_putF h inW13 rfl 48 (by decide) flX13_65 tyX13_ok nmX13 rfl hin2 rfl hon (entC_11 hk) (Nat.le_of_ble_eq_true rfl) ?_ (fun q hq => entC_aR hq) rfl rfl rfl hd k
  show entC G.1 (sR M o 48 (x + 1)) o = _
  unfold sR
  rw [entC_aR_s]
  unfold entCK
  rw [hk]
  rfl
theorem hpX13_68 {G : GX} {Q : State → Prop} {nn kc ks pc nL : Nat} {lv : List (Nat × Value)} {st : List Value} {M : Mem} {b : ByteArray} {ret : Option FieldType} {rm : Room} (h : OKm G b RX13 nL ret rm) {o : Nat} {x : Nat} (hk : kd o = 11) (hon : o < nn) (hin2 : G.2.2.2.2.2.2.2.2.2.1.name = "<init>") (hd : decode b pc = .ok (.putfield 68, 3)) (k : GC G Q nn kc ks (pc + 3) lv st (sR M o 49 (x + 1))) : GC G Q nn kc ks pc lv (rv G.1 x :: rv G.1 o :: st) M := by
  refine h_putF h inW13 rfl 49 (by decide) flX13_68 tyX13_ok nmX13 rfl hin2 rfl hon (entC_11 hk) (Nat.le_of_ble_eq_true rfl) ?_ (fun q hq => entC_aR hq) rfl rfl rfl hd k
  show entC G.1 (sR M o 49 (x + 1)) o = _
  unfold sR
  rw [entC_aR_s]
  unfold entCK
  rw [hk]
  rfl
theorem hpX13_71 {G : GX} {Q : State → Prop} {nn kc ks pc nL : Nat} {lv : List (Nat × Value)} {st : List Value} {M : Mem} {b : ByteArray} {ret : Option FieldType} {rm : Room} (h : OKm G b RX13 nL ret rm) {o : Nat} {x : Nat} (hk : kd o = 11) (hon : o < nn) (hin2 : G.2.2.2.2.2.2.2.2.2.1.name = "<init>") (hd : decode b pc = .ok (.putfield 71, 3)) (k : GC G Q nn kc ks (pc + 3) lv st (sR M o 50 (x + 1))) : GC G Q nn kc ks pc lv (rv G.1 x :: rv G.1 o :: st) M := by
  refine h_putF h inW13 rfl 50 (by decide) flX13_71 tyX13_ok nmX13 rfl hin2 rfl hon (entC_11 hk) (Nat.le_of_ble_eq_true rfl) ?_ (fun q hq => entC_aR hq) rfl rfl rfl hd k
  show entC G.1 (sR M o 50 (x + 1)) o = _
  unfold sR
  rw [entC_aR_s]
  unfold entCK
  rw [hk]
  rfl
theorem hpX13_74 {G : GX} {Q : State → Prop} {nn kc ks pc nL : Nat} {lv : List (Nat × Value)} {st : List Value} {M : Mem} {b : ByteArray} {ret : Option FieldType} {rm : Room} (h : OKm G b RX13 nL ret rm) {o : Nat} {x : Nat} (hk : kd o = 11) (hon : o < nn) (hin2 : G.2.2.2.2.2.2.2.2.2.1.name = "<init>") (hd : decode b pc = .ok (.putfield 74, 3)) (k : GC G Q nn kc ks (pc + 3) lv st (sR M o 51 (x + 1))) : GC G Q nn kc ks pc lv (rv G.1 x :: rv G.1 o :: st) M := by
  refine h_putF h inW13 rfl 51 (by decide) flX13_74 tyX13_ok nmX13 rfl hin2 rfl hon (entC_11 hk) (Nat.le_of_ble_eq_true rfl) ?_ (fun q hq => entC_aR hq) rfl rfl rfl hd k
  show entC G.1 (sR M o 51 (x + 1)) o = _
  unfold sR
  rw [entC_aR_s]
  unfold entCK
  rw [hk]
  rfl
theorem hpX13_77 {G : GX} {Q : State → Prop} {nn kc ks pc nL : Nat} {lv : List (Nat × Value)} {st : List Value} {M : Mem} {b : ByteArray} {ret : Option FieldType} {rm : Room} (h : OKm G b RX13 nL ret rm) {o : Nat} {x : Nat} (hk : kd o = 11) (hon : o < nn) (hin2 : G.2.2.2.2.2.2.2.2.2.1.name = "<init>") (hd : decode b pc = .ok (.putfield 77, 3)) (k : GC G Q nn kc ks (pc + 3) lv st (sR M o 52 (x + 1))) : GC G Q nn kc ks pc lv (rv G.1 x :: rv G.1 o :: st) M := by
  refine h_putF h inW13 rfl 52 (by decide) flX13_77 tyX13_ok nmX13 rfl hin2 rfl hon (entC_11 hk) (Nat.le_of_ble_eq_true rfl) ?_ (fun q hq => entC_aR hq) rfl rfl rfl hd k
  show entC G.1 (sR M o 52 (x + 1)) o = _
  unfold sR
  rw [entC_aR_s]
  unfold entCK
  rw [hk]
  rfl
theorem hpX13_80 {G : GX} {Q : State → Prop} {nn kc ks pc nL : Nat} {lv : List (Nat × Value)} {st : List Value} {M : Mem} {b : ByteArray} {ret : Option FieldType} {rm : Room} (h : OKm G b RX13 nL ret rm) {o : Nat} {x : Nat} (hk : kd o = 11) (hon : o < nn) (hin2 : G.2.2.2.2.2.2.2.2.2.1.name = "<init>") (hd : decode b pc = .ok (.putfield 80, 3)) (k : GC G Q nn kc ks (pc + 3) lv st (sR M o 53 (x + 1))) : GC G Q nn kc ks pc lv (rv G.1 x :: rv G.1 o :: st) M := by
  refine h_putF h inW13 rfl 53 (by decide) flX13_80 tyX13_ok nmX13 rfl hin2 rfl hon (entC_11 hk) (Nat.le_of_ble_eq_true rfl) ?_ (fun q hq => entC_aR hq) rfl rfl rfl hd k
  show entC G.1 (sR M o 53 (x + 1)) o = _
  unfold sR
  rw [entC_aR_s]
  unfold entCK
  rw [hk]
  rfl
theorem hpX13_83 {G : GX} {Q : State → Prop} {nn kc ks pc nL : Nat} {lv : List (Nat × Value)} {st : List Value} {M : Mem} {b : ByteArray} {ret : Option FieldType} {rm : Room} (h : OKm G b RX13 nL ret rm) {o : Nat} {x : Nat} (hk : kd o = 11) (hon : o < nn) (hin2 : G.2.2.2.2.2.2.2.2.2.1.name = "<init>") (hd : decode b pc = .ok (.putfield 83, 3)) (k : GC G Q nn kc ks (pc + 3) lv st (sR M o 54 (x + 1))) : GC G Q nn kc ks pc lv (rv G.1 x :: rv G.1 o :: st) M := by
  refine h_putF h inW13 rfl 54 (by decide) flX13_83 tyX13_ok nmX13 rfl hin2 rfl hon (entC_11 hk) (Nat.le_of_ble_eq_true rfl) ?_ (fun q hq => entC_aR hq) rfl rfl rfl hd k
  show entC G.1 (sR M o 54 (x + 1)) o = _
  unfold sR
  rw [entC_aR_s]
  unfold entCK
  rw [hk]
  rfl
theorem hpX13_86 {G : GX} {Q : State → Prop} {nn kc ks pc nL : Nat} {lv : List (Nat × Value)} {st : List Value} {M : Mem} {b : ByteArray} {ret : Option FieldType} {rm : Room} (h : OKm G b RX13 nL ret rm) {o : Nat} {x : Nat} (hk : kd o = 11) (hon : o < nn) (hin2 : G.2.2.2.2.2.2.2.2.2.1.name = "<init>") (hd : decode b pc = .ok (.putfield 86, 3)) (k : GC G Q nn kc ks (pc + 3) lv st (sR M o 55 (x + 1))) : GC G Q nn kc ks pc lv (rv G.1 x :: rv G.1 o :: st) M := by
  refine h_putF h inW13 rfl 55 (by decide) flX13_86 tyX13_ok nmX13 rfl hin2 rfl hon (entC_11 hk) (Nat.le_of_ble_eq_true rfl) ?_ (fun q hq => entC_aR hq) rfl rfl rfl hd k
  show entC G.1 (sR M o 55 (x + 1)) o = _
  unfold sR
  rw [entC_aR_s]
  unfold entCK
  rw [hk]
  rfl
theorem hpX13_89 {G : GX} {Q : State → Prop} {nn kc ks pc nL : Nat} {lv : List (Nat × Value)} {st : List Value} {M : Mem} {b : ByteArray} {ret : Option FieldType} {rm : Room} (h : OKm G b RX13 nL ret rm) {o : Nat} {x : Nat} (hk : kd o = 11) (hon : o < nn) (hin2 : G.2.2.2.2.2.2.2.2.2.1.name = "<init>") (hd : decode b pc = .ok (.putfield 89, 3)) (k : GC G Q nn kc ks (pc + 3) lv st (sR M o 56 (x + 1))) : GC G Q nn kc ks pc lv (rv G.1 x :: rv G.1 o :: st) M := by
  refine h_putF h inW13 rfl 56 (by decide) flX13_89 tyX13_ok nmX13 rfl hin2 rfl hon (entC_11 hk) (Nat.le_of_ble_eq_true rfl) ?_ (fun q hq => entC_aR hq) rfl rfl rfl hd k
  show entC G.1 (sR M o 56 (x + 1)) o = _
  unfold sR
  rw [entC_aR_s]
  unfold entCK
  rw [hk]
  rfl
theorem hpX13_92 {G : GX} {Q : State → Prop} {nn kc ks pc nL : Nat} {lv : List (Nat × Value)} {st : List Value} {M : Mem} {b : ByteArray} {ret : Option FieldType} {rm : Room} (h : OKm G b RX13 nL ret rm) {o : Nat} {x : Nat} (hk : kd o = 11) (hon : o < nn) (hin2 : G.2.2.2.2.2.2.2.2.2.1.name = "<init>") (hd : decode b pc = .ok (.putfield 92, 3)) (k : GC G Q nn kc ks (pc + 3) lv st (sR M o 57 (x + 1))) : GC G Q nn kc ks pc lv (rv G.1 x :: rv G.1 o :: st) M := by
  refine h_putF h inW13 rfl 57 (by decide) flX13_92 tyX13_ok nmX13 rfl hin2 rfl hon (entC_11 hk) (Nat.le_of_ble_eq_true rfl) ?_ (fun q hq => entC_aR hq) rfl rfl rfl hd k
  show entC G.1 (sR M o 57 (x + 1)) o = _
  unfold sR
  rw [entC_aR_s]
  unfold entCK
  rw [hk]
  rfl
theorem hpX13_95 {G : GX} {Q : State → Prop} {nn kc ks pc nL : Nat} {lv : List (Nat × Value)} {st : List Value} {M : Mem} {b : ByteArray} {ret : Option FieldType} {rm : Room} (h : OKm G b RX13 nL ret rm) {o : Nat} {x : Nat} (hk : kd o = 11) (hon : o < nn) (hin2 : G.2.2.2.2.2.2.2.2.2.1.name = "<init>") (hd : decode b pc = .ok (.putfield 95, 3)) (k : GC G Q nn kc ks (pc + 3) lv st (sR M o 58 (x + 1))) : GC G Q nn kc ks pc lv (rv G.1 x :: rv G.1 o :: st) M := by
  refine h_putF h inW13 rfl 58 (by decide) flX13_95 tyX13_ok nmX13 rfl hin2 rfl hon (entC_11 hk) (Nat.le_of_ble_eq_true rfl) ?_ (fun q hq => entC_aR hq) rfl rfl rfl hd k
  show entC G.1 (sR M o 58 (x + 1)) o = _
  unfold sR
  rw [entC_aR_s]
  unfold entCK
  rw [hk]
  rfl
theorem hpX13_98 {G : GX} {Q : State → Prop} {nn kc ks pc nL : Nat} {lv : List (Nat × Value)} {st : List Value} {M : Mem} {b : ByteArray} {ret : Option FieldType} {rm : Room} (h : OKm G b RX13 nL ret rm) {o : Nat} {x : Nat} (hk : kd o = 11) (hon : o < nn) (hin2 : G.2.2.2.2.2.2.2.2.2.1.name = "<init>") (hd : decode b pc = .ok (.putfield 98, 3)) (k : GC G Q nn kc ks (pc + 3) lv st (sR M o 59 (x + 1))) : GC G Q nn kc ks pc lv (rv G.1 x :: rv G.1 o :: st) M := by
  refine h_putF h inW13 rfl 59 (by decide) flX13_98 tyX13_ok nmX13 rfl hin2 rfl hon (entC_11 hk) (Nat.le_of_ble_eq_true rfl) ?_ (fun q hq => entC_aR hq) rfl rfl rfl hd k
  show entC G.1 (sR M o 59 (x + 1)) o = _
  unfold sR
  rw [entC_aR_s]
  unfold entCK
  rw [hk]
  rfl
theorem hpX13_101 {G : GX} {Q : State → Prop} {nn kc ks pc nL : Nat} {lv : List (Nat × Value)} {st : List Value} {M : Mem} {b : ByteArray} {ret : Option FieldType} {rm : Room} (h : OKm G b RX13 nL ret rm) {o : Nat} {x : Nat} (hk : kd o = 11) (hon : o < nn) (hin2 : G.2.2.2.2.2.2.2.2.2.1.name = "<init>") (hd : decode b pc = .ok (.putfield 101, 3)) (k : GC G Q nn kc ks (pc + 3) lv st (sR M o 60 (x + 1))) : GC G Q nn kc ks pc lv (rv G.1 x :: rv G.1 o :: st) M := by
  refine h_putF h inW13 rfl 60 (by decide) flX13_101 tyX13_ok nmX13 rfl hin2 rfl hon (entC_11 hk) (Nat.le_of_ble_eq_true rfl) ?_ (fun q hq => entC_aR hq) rfl rfl rfl hd k
  show entC G.1 (sR M o 60 (x + 1)) o = _
  unfold sR
  rw [entC_aR_s]
  unfold entCK
  rw [hk]
  rfl
theorem hpX13_104 {G : GX} {Q : State → Prop} {nn kc ks pc nL : Nat} {lv : List (Nat × Value)} {st : List Value} {M : Mem} {b : ByteArray} {ret : Option FieldType} {rm : Room} (h : OKm G b RX13 nL ret rm) {o : Nat} {x : Nat} (hk : kd o = 11) (hon : o < nn) (hin2 : G.2.2.2.2.2.2.2.2.2.1.name = "<init>") (hd : decode b pc = .ok (.putfield 104, 3)) (k : GC G Q nn kc ks (pc + 3) lv st (sR M o 61 (x + 1))) : GC G Q nn kc ks pc lv (rv G.1 x :: rv G.1 o :: st) M := by
  refine h_putF h inW13 rfl 61 (by decide) flX13_104 tyX13_ok nmX13 rfl hin2 rfl hon (entC_11 hk) (Nat.le_of_ble_eq_true rfl) ?_ (fun q hq => entC_aR hq) rfl rfl rfl hd k
  show entC G.1 (sR M o 61 (x + 1)) o = _
  unfold sR
  rw [entC_aR_s]
  unfold entCK
  rw [hk]
  rfl
theorem hpX13_108 {G : GX} {Q : State → Prop} {nn kc ks pc nL : Nat} {lv : List (Nat × Value)} {st : List Value} {M : Mem} {b : ByteArray} {ret : Option FieldType} {rm : Room} (h : OKm G b RX13 nL ret rm) {o : Nat} {x : Nat} (hk : kd o = 11) (hon : o < nn) (hin2 : G.2.2.2.2.2.2.2.2.2.1.name = "<init>") (hd : decode b pc = .ok (.putfield 108, 3)) (k : GC G Q nn kc ks (pc + 3) lv st (sR M o 62 (x + 1))) : GC G Q nn kc ks pc lv (rv G.1 x :: rv G.1 o :: st) M := by
  refine h_putF h inW13 rfl 62 (by decide) flX13_108 tyX13_ok nmX13 rfl hin2 rfl hon (entC_11 hk) (Nat.le_of_ble_eq_true rfl) ?_ (fun q hq => entC_aR hq) rfl rfl rfl hd k
  show entC G.1 (sR M o 62 (x + 1)) o = _
  unfold sR
  rw [entC_aR_s]
  unfold entCK
  rw [hk]
  rfl
theorem hpX13_111 {G : GX} {Q : State → Prop} {nn kc ks pc nL : Nat} {lv : List (Nat × Value)} {st : List Value} {M : Mem} {b : ByteArray} {ret : Option FieldType} {rm : Room} (h : OKm G b RX13 nL ret rm) {o : Nat} {x : Nat} (hk : kd o = 11) (hon : o < nn) (hin2 : G.2.2.2.2.2.2.2.2.2.1.name = "<init>") (hd : decode b pc = .ok (.putfield 111, 3)) (k : GC G Q nn kc ks (pc + 3) lv st (sR M o 63 (x + 1))) : GC G Q nn kc ks pc lv (rv G.1 x :: rv G.1 o :: st) M := by
  refine h_putF h inW13 rfl 63 (by decide) flX13_111 tyX13_ok nmX13 rfl hin2 rfl hon (entC_11 hk) (Nat.le_of_ble_eq_true rfl) ?_ (fun q hq => entC_aR hq) rfl rfl rfl hd k
  show entC G.1 (sR M o 63 (x + 1)) o = _
  unfold sR
  rw [entC_aR_s]
  unfold entCK
  rw [hk]
  rfl
theorem hpX13_114 {G : GX} {Q : State → Prop} {nn kc ks pc nL : Nat} {lv : List (Nat × Value)} {st : List Value} {M : Mem} {b : ByteArray} {ret : Option FieldType} {rm : Room} (h : OKm G b RX13 nL ret rm) {o : Nat} {x : Nat} (hk : kd o = 11) (hon : o < nn) (hin2 : G.2.2.2.2.2.2.2.2.2.1.name = "<init>") (hd : decode b pc = .ok (.putfield 114, 3)) (k : GC G Q nn kc ks (pc + 3) lv st (sR M o 65 (x + 1))) : GC G Q nn kc ks pc lv (rv G.1 x :: rv G.1 o :: st) M := by
  refine h_putF h inW13 rfl 65 (by decide) flX13_114 tyX13_ok nmX13 rfl hin2 rfl hon (entC_11 hk) (Nat.le_of_ble_eq_true rfl) ?_ (fun q hq => entC_aR hq) rfl rfl rfl hd k
  show entC G.1 (sR M o 65 (x + 1)) o = _
  unfold sR
  rw [entC_aR_s]
  unfold entCK
  rw [hk]
  rfl
theorem hpX13_117 {G : GX} {Q : State → Prop} {nn kc ks pc nL : Nat} {lv : List (Nat × Value)} {st : List Value} {M : Mem} {b : ByteArray} {ret : Option FieldType} {rm : Room} (h : OKm G b RX13 nL ret rm) {o : Nat} {x : Nat} (hk : kd o = 11) (hon : o < nn) (hin2 : G.2.2.2.2.2.2.2.2.2.1.name = "<init>") (hd : decode b pc = .ok (.putfield 117, 3)) (k : GC G Q nn kc ks (pc + 3) lv st (sR M o 66 (x + 1))) : GC G Q nn kc ks pc lv (rv G.1 x :: rv G.1 o :: st) M := by
  refine h_putF h inW13 rfl 66 (by decide) flX13_117 tyX13_ok nmX13 rfl hin2 rfl hon (entC_11 hk) (Nat.le_of_ble_eq_true rfl) ?_ (fun q hq => entC_aR hq) rfl rfl rfl hd k
  show entC G.1 (sR M o 66 (x + 1)) o = _
  unfold sR
  rw [entC_aR_s]
  unfold entCK
  rw [hk]
  rfl
theorem hpX13_120 {G : GX} {Q : State → Prop} {nn kc ks pc nL : Nat} {lv : List (Nat × Value)} {st : List Value} {M : Mem} {b : ByteArray} {ret : Option FieldType} {rm : Room} (h : OKm G b RX13 nL ret rm) {o : Nat} {x : Nat} (hk : kd o = 11) (hon : o < nn) (hin2 : G.2.2.2.2.2.2.2.2.2.1.name = "<init>") (hd : decode b pc = .ok (.putfield 120, 3)) (k : GC G Q nn kc ks (pc + 3) lv st (sR M o 68 (x + 1))) : GC G Q nn kc ks pc lv (rv G.1 x :: rv G.1 o :: st) M := by
  refine h_putF h inW13 rfl 68 (by decide) flX13_120 tyX13_ok nmX13 rfl hin2 rfl hon (entC_11 hk) (Nat.le_of_ble_eq_true rfl) ?_ (fun q hq => entC_aR hq) rfl rfl rfl hd k
  show entC G.1 (sR M o 68 (x + 1)) o = _
  unfold sR
  rw [entC_aR_s]
  unfold entCK
  rw [hk]
  rfl
theorem hpX13_123 {G : GX} {Q : State → Prop} {nn kc ks pc nL : Nat} {lv : List (Nat × Value)} {st : List Value} {M : Mem} {b : ByteArray} {ret : Option FieldType} {rm : Room} (h : OKm G b RX13 nL ret rm) {o : Nat} {x : Nat} (hk : kd o = 11) (hon : o < nn) (hin2 : G.2.2.2.2.2.2.2.2.2.1.name = "<init>") (hd : decode b pc = .ok (.putfield 123, 3)) (k : GC G Q nn kc ks (pc + 3) lv st (sR M o 70 (x + 1))) : GC G Q nn kc ks pc lv (rv G.1 x :: rv G.1 o :: st) M := by
  refine h_putF h inW13 rfl 70 (by decide) flX13_123 tyX13_ok nmX13 rfl hin2 rfl hon (entC_11 hk) (Nat.le_of_ble_eq_true rfl) ?_ (fun q hq => entC_aR hq) rfl rfl rfl hd k
  show entC G.1 (sR M o 70 (x + 1)) o = _
  unfold sR
  rw [entC_aR_s]
  unfold entCK
  rw [hk]
  rfl
theorem hpX13_126 {G : GX} {Q : State → Prop} {nn kc ks pc nL : Nat} {lv : List (Nat × Value)} {st : List Value} {M : Mem} {b : ByteArray} {ret : Option FieldType} {rm : Room} (h : OKm G b RX13 nL ret rm) {o : Nat} {x : Nat} (hk : kd o = 11) (hon : o < nn) (hin2 : G.2.2.2.2.2.2.2.2.2.1.name = "<init>") (hd : decode b pc = .ok (.putfield 126, 3)) (k : GC G Q nn kc ks (pc + 3) lv st (sR M o 71 (x + 1))) : GC G Q nn kc ks pc lv (rv G.1 x :: rv G.1 o :: st) M := by
  refine h_putF h inW13 rfl 71 (by decide) flX13_126 tyX13_ok nmX13 rfl hin2 rfl hon (entC_11 hk) (Nat.le_of_ble_eq_true rfl) ?_ (fun q hq => entC_aR hq) rfl rfl rfl hd k
  show entC G.1 (sR M o 71 (x + 1)) o = _
  unfold sR
  rw [entC_aR_s]
  unfold entCK
  rw [hk]
  rfl
theorem hpX13_129 {G : GX} {Q : State → Prop} {nn kc ks pc nL : Nat} {lv : List (Nat × Value)} {st : List Value} {M : Mem} {b : ByteArray} {ret : Option FieldType} {rm : Room} (h : OKm G b RX13 nL ret rm) {o : Nat} {x : Nat} (hk : kd o = 11) (hon : o < nn) (hin2 : G.2.2.2.2.2.2.2.2.2.1.name = "<init>") (hd : decode b pc = .ok (.putfield 129, 3)) (k : GC G Q nn kc ks (pc + 3) lv st (sR M o 72 (x + 1))) : GC G Q nn kc ks pc lv (rv G.1 x :: rv G.1 o :: st) M := by
  refine h_putF h inW13 rfl 72 (by decide) flX13_129 tyX13_ok nmX13 rfl hin2 rfl hon (entC_11 hk) (Nat.le_of_ble_eq_true rfl) ?_ (fun q hq => entC_aR hq) rfl rfl rfl hd k
  show entC G.1 (sR M o 72 (x + 1)) o = _
  unfold sR
  rw [entC_aR_s]
  unfold entCK
  rw [hk]
  rfl
theorem hpX13_132 {G : GX} {Q : State → Prop} {nn kc ks pc nL : Nat} {lv : List (Nat × Value)} {st : List Value} {M : Mem} {b : ByteArray} {ret : Option FieldType} {rm : Room} (h : OKm G b RX13 nL ret rm) {o : Nat} {x : Nat} (hk : kd o = 11) (hon : o < nn) (hin2 : G.2.2.2.2.2.2.2.2.2.1.name = "<init>") (hd : decode b pc = .ok (.putfield 132, 3)) (k : GC G Q nn kc ks (pc + 3) lv st (sR M o 77 (x + 1))) : GC G Q nn kc ks pc lv (rv G.1 x :: rv G.1 o :: st) M := by
  refine h_putF h inW13 rfl 77 (by decide) flX13_132 tyX13_ok nmX13 rfl hin2 rfl hon (entC_11 hk) (Nat.le_of_ble_eq_true rfl) ?_ (fun q hq => entC_aR hq) rfl rfl rfl hd k
  show entC G.1 (sR M o 77 (x + 1)) o = _
  unfold sR
  rw [entC_aR_s]
  unfold entCK
  rw [hk]
  rfl
theorem hpX13_135 {G : GX} {Q : State → Prop} {nn kc ks pc nL : Nat} {lv : List (Nat × Value)} {st : List Value} {M : Mem} {b : ByteArray} {ret : Option FieldType} {rm : Room} (h : OKm G b RX13 nL ret rm) {o : Nat} {x : Nat} (hk : kd o = 11) (hon : o < nn) (hin2 : G.2.2.2.2.2.2.2.2.2.1.name = "<init>") (hd : decode b pc = .ok (.putfield 135, 3)) (k : GC G Q nn kc ks (pc + 3) lv st (sR M o 78 (x + 1))) : GC G Q nn kc ks pc lv (rv G.1 x :: rv G.1 o :: st) M := by
  refine h_putF h inW13 rfl 78 (by decide) flX13_135 tyX13_ok nmX13 rfl hin2 rfl hon (entC_11 hk) (Nat.le_of_ble_eq_true rfl) ?_ (fun q hq => entC_aR hq) rfl rfl rfl hd k
  show entC G.1 (sR M o 78 (x + 1)) o = _
  unfold sR
  rw [entC_aR_s]
  unfold entCK
  rw [hk]
  rfl
theorem hpX13_138 {G : GX} {Q : State → Prop} {nn kc ks pc nL : Nat} {lv : List (Nat × Value)} {st : List Value} {M : Mem} {b : ByteArray} {ret : Option FieldType} {rm : Room} (h : OKm G b RX13 nL ret rm) {o : Nat} {x : Nat} (hk : kd o = 11) (hon : o < nn) (hin2 : G.2.2.2.2.2.2.2.2.2.1.name = "<init>") (hd : decode b pc = .ok (.putfield 138, 3)) (k : GC G Q nn kc ks (pc + 3) lv st (sR M o 79 (x + 1))) : GC G Q nn kc ks pc lv (rv G.1 x :: rv G.1 o :: st) M := by
  refine h_putF h inW13 rfl 79 (by decide) flX13_138 tyX13_ok nmX13 rfl hin2 rfl hon (entC_11 hk) (Nat.le_of_ble_eq_true rfl) ?_ (fun q hq => entC_aR hq) rfl rfl rfl hd k
  show entC G.1 (sR M o 79 (x + 1)) o = _
  unfold sR
  rw [entC_aR_s]
  unfold entCK
  rw [hk]
  rfl
theorem hgX13_108 {G : GX} {Q : State → Prop} {nn kc ks pc nL : Nat} {lv : List (Nat × Value)} {st : List Value} {M : Mem} {b : ByteArray} {ret : Option FieldType} {rm : Room} (h : OKm G b RX13 nL ret rm) {o : Nat} {β : Type} {kf : Nat → Option β} {res : β} (hk : kd o = 11) (hon : o < nn) (hf : ldR M o 62 kf = some res) (hd : decode b pc = .ok (.getfield 108, 3)) (kk : ∀ x, kf x = some res → GC G Q nn kc ks (pc + 3) lv (rv G.1 x :: st) M) : GC G Q nn kc ks pc lv (rv G.1 o :: st) M := by
  obtain ⟨h9, hk9⟩ := pre_if hf
  exact h_get (z := rv G.1 (M.2.2 o 62 - 1)) h inW13 rfl 62 (by decide) flX13_108 hon (entC_11 hk) (by show some (rc G.1 (M.2.2 o 62)) = _; unfold rc; rw [if_neg h9]) hd (kk _ hk9)
