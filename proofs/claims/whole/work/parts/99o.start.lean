/-! THE START, given what holds of the state -/
theorem start_of {p : Program} {e : Env} {s : State} {m : MethodId} {below : List Frame} {meth : Method} {c : Code} (l : Launch) (hflags : l.flags = flags0) {b L : Nat} {xs : Nat → Int32} (hL : L ≤ 3072) (C0 : lw_At p s m meth c b L xs) {w : WX} (hw : w.1 = s.heap.size) (hSS : SS w s) : W p l e room_1 s m #[Value.ref b] below meth c s.heap [] 0 0 (lw_Z below #[Value.ref b] s) (entryFrame m ([Value.ref b] : List Value).toArray 7) := by
  obtain ⟨hx, hb, hr, hml, hown, hts, hX, hbl, hlk, hgv⟩ := C0
  let QL : Int32 → State → Prop := fun x => if x = 1 then lw_Z below #[Value.ref b] s else fun _ => True
  have h : OKm (w, p, l, e, room_1, s, m, #[Value.ref b], below, meth, c) cL_law RL 7 (some .boolean) { frames := 2048, cells := 601024, slots := 7293034, locals := 84000 } := ⟨hx, hb, hml, hown, fun x hx => hts x (LW_tbl hx), hSS, hlk, hr, rfl⟩
  have zS : SCR (w, p, l, e, room_1, s, m, #[Value.ref b], below, meth, c) b L xs := ⟨hX, hbl, fun y => by have y' : w.1 ≤ b := y; omega⟩
  have zQ : RTL (w, p, l, e, room_1, s, m, #[Value.ref b], below, meth, c) QL := by
    intro x kc ks pc lv M hkc hks hd H locs ls hl hP hS
    show W p l e room_1 s m #[Value.ref b] below meth c H locs kc ks (QL x) (F0 m pc ls [.int x])
    by_cases hx1 : x = 1
    · subst hx1
      rw [show QL 1 = lw_Z below #[Value.ref b] s from if_pos rfl]
      exact va_forget (fun q hq => by have h9 : w.1 ≤ q.base := hS.2.2 q hq; omega) (W.widen (by omega) (by omega) (lw_ret hx hb hr hlk hd))
    · rw [show QL x = fun _ => True from if_neg hx1]
      exact fun T hT X => ⟨_, Steps.refl _, trivial⟩
  have hl := lv_entry [Value.ref b] (n := 7) (Nat.le_of_ble_eq_true rfl)
  rw [lg_entry_eq]
  have hloop : ∀ kc ks, kc ≤ 1000 → ks ≤ 100000 → GG (w, p, l, e, room_1, s, m, #[Value.ref b], below, meth, c) (QL 1) kc ks 23 [(0, Value.ref b), (1, rv w 0), (2, rv w 103), (3, rv w 144), (4, .int 0)] [] MF := fun kc ks hkc hks => kL_law_l23 zS zQ h (by show l.stackTraces = false; unfold Launch.stackTraces; rw [hflags]; decide) 600 kc ks (by omega) (by omega) MF 0 1 (law_1 (by omega))
  have hwalk := walk (zb := b) h hloop
  have := hwalk s.heap [] _ (by rw [hml]; exact hl) ⟨fun k q hq => by simp [WLC] at hq, hw.symm, Nat.zero_le _⟩ va_S.rf
  rw [show QL 1 = lw_Z below #[Value.ref b] s from if_pos rfl] at this
  exact this
