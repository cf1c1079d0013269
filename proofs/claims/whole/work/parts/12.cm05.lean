-- X13_planThree
theorem kX13_planThree_b103 {G : GX} (h : OKm G cX13_planThree RX13 8 (some .int) { frames := 10, cells := 0, slots := 0, locals := 242 }) {a9 : Mem → Int32 → Int32 → Int32 → Int32 → Int32 → Option (Int32 × Mem)} (zh9 : ∀ (M : Mem) (x1 : Int32) (x2 : Int32) (x3 : Int32) (x4 : Int32) (x5 : Int32) (res : (Int32 × Mem)), a9 M x1 x2 x3 x4 x5 = some res → GG G (Qm G (Pwi res) 0 0) 0 0 9 [(0, rv G.1 103), (1, .int x1), (2, .int x2), (3, .int x3), (4, .int x4), (5, .int x5)] [] M) {M : Mem} {x1 : Int32} {x2 : Int32} {x3 : Int32} {x4 : Int32} {x5 : Int32} {res : (Int32 × Mem)} (zf : fX13_planThree_b103 a9 M x1 x2 x3 x4 x5 = some res) : GG G (Qm G (Pwi res) 0 0) 0 0 103 [(0, rv G.1 103), (1, .int x1), (2, .int x2), (3, .int x3), (4, .int x4), (5, .int x5)] [] M := by
  unfold fX13_planThree_b103 at zf
  refine g_iinc h 5 5 rfl (v := x5 + 1) (congrArg (fun z => x5 + z) (by decide : Int32.ofInt (1) = (1 : Int32))) [(5, .int (x5 + 1)), (0, rv G.1 103), (1, .int x1), (2, .int x2), (3, .int x3), (4, .int x4)] (by decide) rfl dX13_planThree_103 ?_
  refine g_nmV zf ?_
  clear zf; intro vq8 zf
  refine g_goto h 9 (by decide) dX13_planThree_106 ?_
  refine g_sub h [1, 2, 3, 4, 5, 0] rfl ?_
  exact zh9 _ _ _ _ _ _ _ zf

theorem kX13_planThree_b96 {G : GX} (h : OKm G cX13_planThree RX13 8 (some .int) { frames := 10, cells := 0, slots := 0, locals := 242 }) {a9 : Mem → Int32 → Int32 → Int32 → Int32 → Int32 → Option (Int32 × Mem)} (zh9 : ∀ (M : Mem) (x1 : Int32) (x2 : Int32) (x3 : Int32) (x4 : Int32) (x5 : Int32) (res : (Int32 × Mem)), a9 M x1 x2 x3 x4 x5 = some res → GG G (Qm G (Pwi res) 0 0) 0 0 9 [(0, rv G.1 103), (1, .int x1), (2, .int x2), (3, .int x3), (4, .int x4), (5, .int x5)] [] M) {M : Mem} {x1 : Int32} {x2 : Int32} {x5 : Int32} {x6 : Int32} {x7 : Int32} {res : (Int32 × Mem)} (zf : fX13_planThree_b96 a9 M x1 x2 x5 x6 x7 = some res) : GG G (Qm G (Pwi res) 0 0) 0 0 96 [(0, rv G.1 103), (1, .int x1), (2, .int x2), (5, .int x5), (6, .int x6), (7, .int x7)] [] M := by
  unfold fX13_planThree_b96 at zf
  refine g_iload h 5 rfl dX13_planThree_96 ?_
  refine g_istore_n h rfl [(3, .int x7), (0, rv G.1 103), (1, .int x1), (2, .int x2), (5, .int x5), (6, .int x6), (7, .int x7)] (by decide) rfl dX13_planThree_98 ?_
  refine g_iload h 5 rfl dX13_planThree_99 ?_
  refine g_istore h [(4, .int x6), (3, .int x7), (0, rv G.1 103), (1, .int x1), (2, .int x2), (5, .int x5), (6, .int x6), (7, .int x7)] (by decide) rfl dX13_planThree_101 ?_
  refine g_sub h [2, 3, 4, 1, 0, 5] rfl ?_
  exact kX13_planThree_b103 h zh9 zf

theorem kX13_planThree_b33 {G : GX} (h : OKm G cX13_planThree RX13 8 (some .int) { frames := 10, cells := 0, slots := 0, locals := 242 }) {a9 : Mem → Int32 → Int32 → Int32 → Int32 → Int32 → Option (Int32 × Mem)} (zh9 : ∀ (M : Mem) (x1 : Int32) (x2 : Int32) (x3 : Int32) (x4 : Int32) (x5 : Int32) (res : (Int32 × Mem)), a9 M x1 x2 x3 x4 x5 = some res → GG G (Qm G (Pwi res) 0 0) 0 0 9 [(0, rv G.1 103), (1, .int x1), (2, .int x2), (3, .int x3), (4, .int x4), (5, .int x5)] [] M) {M : Mem} {x1 : Int32} {x2 : Int32} {x3 : Int32} {x4 : Int32} {x5 : Int32} {s0 : Int32} {res : (Int32 × Mem)} (zf : fX13_planThree_b33 a9 M x1 x2 x3 x4 x5 s0 = some res) : GG G (Qm G (Pwi res) 0 0) 0 0 33 [(0, rv G.1 103), (1, .int x1), (2, .int x2), (3, .int x3), (4, .int x4), (5, .int x5)] [.int s0] M := by
  unfold fX13_planThree_b33 at zf
  refine g_istore h [(6, .int s0), (0, rv G.1 103), (1, .int x1), (2, .int x2), (3, .int x3), (4, .int x4), (5, .int x5)] (by decide) rfl dX13_planThree_33 ?_
  refine g_aload_n h 1 rfl dX13_planThree_35 ?_
  refine g_iload_n h 2 rfl dX13_planThree_36 ?_
  refine g_iload h 0 rfl dX13_planThree_37 ?_
  have zf1 := b2_some zf
  clear zf; obtain ⟨vq4, Mq5, zq, zf⟩ := zf1
  refine g_callVwi (As := [.int x1, .int s0]) (rest := []) h ceX13_triesDeed mlX13_438 imX13_triesDeed seX13_triesDeed (by rfl) (kd_lt (by rw [(by decide : kd 103 = 11)]; decide)) (ent_11 (by decide : kd 103 = 11)) rfl rfl ⟨by decide, by decide⟩ ⟨by decide, by decide⟩ rfl dX13_planThree_39 rfl (Nat.le_of_ble_eq_true rfl) (cmX13_triesDeed zq) ?_
  refine g_if_ne h 48 (by decide) zf dX13_planThree_42 ?_ ?_ <;> clear zf <;> intro zf
  · refine g_aload_n h 1 rfl dX13_planThree_48 ?_
    refine g_iload_n h 2 rfl dX13_planThree_49 ?_
    refine g_bipush h 31 (v := 31) (by decide) dX13_planThree_50 ?_
    refine g_iadd h dX13_planThree_52 ?_
    refine g_iload_n h 3 rfl dX13_planThree_53 ?_
    have zf1 := b2_some zf
    clear zf; obtain ⟨vq6, Mq7, zq, zf⟩ := zf1
    refine g_callVwi (As := [.int (x1 + 31), .int x2]) (rest := []) h ceX13_planTwo mlX13_450 imX13_planTwo seX13_planTwo (by rfl) (kd_lt (by rw [(by decide : kd 103 = 11)]; decide)) (ent_11 (by decide : kd 103 = 11)) rfl rfl ⟨by decide, by decide⟩ ⟨by decide, by decide⟩ rfl dX13_planThree_54 rfl (Nat.le_of_ble_eq_true rfl) (cmX13_planTwo zq) ?_
    refine g_istore h [(7, .int vq6), (6, .int s0), (0, rv G.1 103), (1, .int x1), (2, .int x2), (3, .int x3), (4, .int x4), (5, .int x5)] (by decide) rfl dX13_planThree_57 ?_
    refine g_iload h 6 rfl dX13_planThree_59 ?_
    refine g_bipush h (-2) (v := (-2)) (by decide) dX13_planThree_61 ?_
    refine g_ic_eq h 96 (by decide) zf dX13_planThree_63 ?_ ?_ <;> clear zf <;> intro zf
    · refine g_sub h [2, 3, 4, 7, 1, 0] rfl ?_
      exact kX13_planThree_b96 h zh9 zf
    · refine g_aload_n h 2 rfl dX13_planThree_66 ?_
      refine gfX13_108 h (by decide : kd 103 = 11) dX13_planThree_67 ?_
      refine g_iload_n h 3 rfl dX13_planThree_70 ?_
      refine g_iconst h 4 (v := 4) (by decide) dX13_planThree_71 ?_
      refine g_iadd h dX13_planThree_72 ?_
      refine g_iald h 186 (by decide : kd 133 = 20) (by decide) zf dX13_planThree_73 ?_
      clear zf; intro vq9 zf
      refine g_iload_n h 4 rfl dX13_planThree_74 ?_
      refine g_ic_ne h 87 (by decide) zf dX13_planThree_75 ?_ ?_ <;> clear zf <;> intro zf
      · refine g_iload h 0 rfl dX13_planThree_87 ?_
        refine g_iload_n h 5 rfl dX13_planThree_89 ?_
        refine g_ic_lt h 96 (by decide) zf dX13_planThree_90 ?_ ?_ <;> clear zf <;> intro zf
        · refine g_sub h [2, 3, 4, 7, 1, 0] rfl ?_
          exact kX13_planThree_b96 h zh9 zf
        · refine g_goto h 103 (by decide) dX13_planThree_93 ?_
          refine g_sub h [2, 3, 4, 5, 6, 7] rfl ?_
          exact kX13_planThree_b103 h zh9 zf
      · refine g_iload h 0 rfl dX13_planThree_78 ?_
        refine g_iload_n h 5 rfl dX13_planThree_80 ?_
        refine g_ic_gt h 96 (by decide) zf dX13_planThree_81 ?_ ?_ <;> clear zf <;> intro zf
        · refine g_sub h [2, 3, 4, 7, 1, 0] rfl ?_
          exact kX13_planThree_b96 h zh9 zf
        · refine g_goto h 103 (by decide) dX13_planThree_84 ?_
          refine g_sub h [2, 3, 4, 5, 6, 7] rfl ?_
          exact kX13_planThree_b103 h zh9 zf
  · refine g_goto h 103 (by decide) dX13_planThree_45 ?_
    refine g_sub h [1, 2, 3, 4, 5, 6] rfl ?_
    exact kX13_planThree_b103 h zh9 zf

theorem kX13_planThree_l9 {G : GX} (h : OKm G cX13_planThree RX13 8 (some .int) { frames := 10, cells := 0, slots := 0, locals := 242 }) : ∀ (n : Nat) (M : Mem) (x1 : Int32) (x2 : Int32) (x3 : Int32) (x4 : Int32) (x5 : Int32) (res : (Int32 × Mem)), fX13_planThree_l9 n M x1 x2 x3 x4 x5 = some res → GG G (Qm G (Pwi res) 0 0) 0 0 9 [(0, rv G.1 103), (1, .int x1), (2, .int x2), (3, .int x3), (4, .int x4), (5, .int x5)] [] M := by
  intro n
  induction n with
  | zero => intro M x1 x2 x3 x4 x5 res zf; rw [fX13_planThree_l9] at zf; cases zf
  | succ n ih =>
    intro M x1 x2 x3 x4 x5 res zf
    rw [fX13_planThree_l9] at zf
    refine g_iload h 5 rfl dX13_planThree_9 ?_
    refine g_aload_n h 0 rfl dX13_planThree_11 ?_
    refine gfX13_333 h (by decide : kd 103 = 11) dX13_planThree_12 ?_
    refine g_nmI zf ?_
    clear zf; intro vq1 zf
    refine g_ic_gt h 109 (by decide) zf dX13_planThree_15 ?_ ?_ <;> clear zf <;> intro zf
    · refine g_aload_n h 0 rfl dX13_planThree_109 ?_
      refine g_iload h 4 rfl dX13_planThree_110 ?_
      refine pfX13_444 h (by decide : kd 103 = 11) dX13_planThree_112 ?_
      refine g_nmM zf ?_
      clear zf; intro Mq2 zf
      refine g_iload_n h 3 rfl dX13_planThree_115 ?_
      obtain rfl := Option.some.inj zf
      exact g_iret h rfl ⟨rfl, rfl⟩ (Nat.le_refl _) (Nat.le_refl _) dX13_planThree_116
    · refine g_iload h 5 rfl dX13_planThree_18 ?_
      refine g_aload_n h 0 rfl dX13_planThree_20 ?_
      refine gfX13_333 h (by decide : kd 103 = 11) dX13_planThree_21 ?_
      refine g_nmI zf ?_
      clear zf; intro vq3 zf
      refine g_ic_ne h 31 (by decide) zf dX13_planThree_24 ?_ ?_ <;> clear zf <;> intro zf
      · refine g_iload h 5 rfl dX13_planThree_31 ?_
        refine g_sub h [0, 1, 2, 3, 4, 5] rfl ?_
        exact kX13_planThree_b33 h ih zf
      · refine g_iconst h (-1) (v := (-1)) (by decide) dX13_planThree_27 ?_
        refine g_goto h 33 (by decide) dX13_planThree_28 ?_
        refine g_sub h [0, 1, 2, 3, 4, 5] rfl ?_
        exact kX13_planThree_b33 h ih zf

theorem kX13_planThree_e0 {G : GX} (h : OKm G cX13_planThree RX13 8 (some .int) { frames := 10, cells := 0, slots := 0, locals := 242 }) {M : Mem} {x1 : Int32} {x2 : Int32} {res : (Int32 × Mem)} (zf : fX13_planThree M x1 x2 = some res) : GG G (Qm G (Pwi res) 0 0) 0 0 0 [(0, rv G.1 103), (1, .int x1), (2, .int x2)] [] M := by
  unfold fX13_planThree at zf
  refine g_iconst h 0 (v := 0) (by decide) dX13_planThree_0 ?_
  refine g_istore_n h rfl [(3, .int 0), (0, rv G.1 103), (1, .int x1), (2, .int x2)] (by decide) rfl dX13_planThree_1 ?_
  refine g_bipush h (-2) (v := (-2)) (by decide) dX13_planThree_2 ?_
  refine g_istore h [(4, .int (-2)), (3, .int 0), (0, rv G.1 103), (1, .int x1), (2, .int x2)] (by decide) rfl dX13_planThree_4 ?_
  refine g_iconst h 0 (v := 0) (by decide) dX13_planThree_6 ?_
  refine g_istore h [(5, .int 0), (4, .int (-2)), (3, .int 0), (0, rv G.1 103), (1, .int x1), (2, .int x2)] (by decide) rfl dX13_planThree_7 ?_
  refine g_sub h [3, 4, 5, 2, 1, 0] rfl ?_
  exact kX13_planThree_l9 h _ _ _ _ _ _ _ _ zf

theorem cmX13_planThree {l : Launch} {w : WX} {M : Mem} {x1 : Int32} {x2 : Int32} {res : (Int32 × Mem)} (zf : fX13_planThree M x1 x2 = some res) : CM l w yX13_planThree cX13_planThree 8 (some .int) { frames := 10, cells := 0, slots := 0, locals := 242 } 0 0 [rv w 103, .int x1, .int x2] M (Pwi res) := by
  refine CM_of (by decide) (Nat.le_of_ble_eq_true rfl) (fun G hw hl h => ?_)
  subst hw
  exact kX13_planThree_e0 h zf

-- X13_planFour
theorem kX13_planFour_b103 {G : GX} (h : OKm G cX13_planFour RX13 8 (some .int) { frames := 11, cells := 0, slots := 0, locals := 269 }) {a9 : Mem → Int32 → Int32 → Int32 → Int32 → Int32 → Option (Int32 × Mem)} (zh9 : ∀ (M : Mem) (x1 : Int32) (x2 : Int32) (x3 : Int32) (x4 : Int32) (x5 : Int32) (res : (Int32 × Mem)), a9 M x1 x2 x3 x4 x5 = some res → GG G (Qm G (Pwi res) 0 0) 0 0 9 [(0, rv G.1 103), (1, .int x1), (2, .int x2), (3, .int x3), (4, .int x4), (5, .int x5)] [] M) {M : Mem} {x1 : Int32} {x2 : Int32} {x3 : Int32} {x4 : Int32} {x5 : Int32} {res : (Int32 × Mem)} (zf : fX13_planFour_b103 a9 M x1 x2 x3 x4 x5 = some res) : GG G (Qm G (Pwi res) 0 0) 0 0 103 [(0, rv G.1 103), (1, .int x1), (2, .int x2), (3, .int x3), (4, .int x4), (5, .int x5)] [] M := by
  unfold fX13_planFour_b103 at zf
  refine g_iinc h 5 5 rfl (v := x5 + 1) (congrArg (fun z => x5 + z) (by decide : Int32.ofInt (1) = (1 : Int32))) [(5, .int (x5 + 1)), (0, rv G.1 103), (1, .int x1), (2, .int x2), (3, .int x3), (4, .int x4)] (by decide) rfl dX13_planFour_103 ?_
  refine g_nmV zf ?_
  clear zf; intro vq8 zf
  refine g_goto h 9 (by decide) dX13_planFour_106 ?_
  refine g_sub h [1, 2, 3, 4, 5, 0] rfl ?_
  exact zh9 _ _ _ _ _ _ _ zf

theorem kX13_planFour_b96 {G : GX} (h : OKm G cX13_planFour RX13 8 (some .int) { frames := 11, cells := 0, slots := 0, locals := 269 }) {a9 : Mem → Int32 → Int32 → Int32 → Int32 → Int32 → Option (Int32 × Mem)} (zh9 : ∀ (M : Mem) (x1 : Int32) (x2 : Int32) (x3 : Int32) (x4 : Int32) (x5 : Int32) (res : (Int32 × Mem)), a9 M x1 x2 x3 x4 x5 = some res → GG G (Qm G (Pwi res) 0 0) 0 0 9 [(0, rv G.1 103), (1, .int x1), (2, .int x2), (3, .int x3), (4, .int x4), (5, .int x5)] [] M) {M : Mem} {x1 : Int32} {x2 : Int32} {x5 : Int32} {x6 : Int32} {x7 : Int32} {res : (Int32 × Mem)} (zf : fX13_planFour_b96 a9 M x1 x2 x5 x6 x7 = some res) : GG G (Qm G (Pwi res) 0 0) 0 0 96 [(0, rv G.1 103), (1, .int x1), (2, .int x2), (5, .int x5), (6, .int x6), (7, .int x7)] [] M := by
  unfold fX13_planFour_b96 at zf
  refine g_iload h 5 rfl dX13_planFour_96 ?_
  refine g_istore_n h rfl [(3, .int x7), (0, rv G.1 103), (1, .int x1), (2, .int x2), (5, .int x5), (6, .int x6), (7, .int x7)] (by decide) rfl dX13_planFour_98 ?_
  refine g_iload h 5 rfl dX13_planFour_99 ?_
  refine g_istore h [(4, .int x6), (3, .int x7), (0, rv G.1 103), (1, .int x1), (2, .int x2), (5, .int x5), (6, .int x6), (7, .int x7)] (by decide) rfl dX13_planFour_101 ?_
  refine g_sub h [2, 3, 4, 1, 0, 5] rfl ?_
  exact kX13_planFour_b103 h zh9 zf

theorem kX13_planFour_b33 {G : GX} (h : OKm G cX13_planFour RX13 8 (some .int) { frames := 11, cells := 0, slots := 0, locals := 269 }) {a9 : Mem → Int32 → Int32 → Int32 → Int32 → Int32 → Option (Int32 × Mem)} (zh9 : ∀ (M : Mem) (x1 : Int32) (x2 : Int32) (x3 : Int32) (x4 : Int32) (x5 : Int32) (res : (Int32 × Mem)), a9 M x1 x2 x3 x4 x5 = some res → GG G (Qm G (Pwi res) 0 0) 0 0 9 [(0, rv G.1 103), (1, .int x1), (2, .int x2), (3, .int x3), (4, .int x4), (5, .int x5)] [] M) {M : Mem} {x1 : Int32} {x2 : Int32} {x3 : Int32} {x4 : Int32} {x5 : Int32} {s0 : Int32} {res : (Int32 × Mem)} (zf : fX13_planFour_b33 a9 M x1 x2 x3 x4 x5 s0 = some res) : GG G (Qm G (Pwi res) 0 0) 0 0 33 [(0, rv G.1 103), (1, .int x1), (2, .int x2), (3, .int x3), (4, .int x4), (5, .int x5)] [.int s0] M := by
  unfold fX13_planFour_b33 at zf
  refine g_istore h [(6, .int s0), (0, rv G.1 103), (1, .int x1), (2, .int x2), (3, .int x3), (4, .int x4), (5, .int x5)] (by decide) rfl dX13_planFour_33 ?_
  refine g_aload_n h 1 rfl dX13_planFour_35 ?_
  refine g_iload_n h 2 rfl dX13_planFour_36 ?_
  refine g_iload h 0 rfl dX13_planFour_37 ?_
  have zf1 := b2_some zf
  clear zf; obtain ⟨vq4, Mq5, zq, zf⟩ := zf1
  refine g_callVwi (As := [.int x1, .int s0]) (rest := []) h ceX13_triesDeed mlX13_438 imX13_triesDeed seX13_triesDeed (by rfl) (kd_lt (by rw [(by decide : kd 103 = 11)]; decide)) (ent_11 (by decide : kd 103 = 11)) rfl rfl ⟨by decide, by decide⟩ ⟨by decide, by decide⟩ rfl dX13_planFour_39 rfl (Nat.le_of_ble_eq_true rfl) (cmX13_triesDeed zq) ?_
  refine g_if_ne h 48 (by decide) zf dX13_planFour_42 ?_ ?_ <;> clear zf <;> intro zf
  · refine g_aload_n h 1 rfl dX13_planFour_48 ?_
    refine g_iload_n h 2 rfl dX13_planFour_49 ?_
    refine g_bipush h 31 (v := 31) (by decide) dX13_planFour_50 ?_
    refine g_iadd h dX13_planFour_52 ?_
    refine g_iload_n h 3 rfl dX13_planFour_53 ?_
    have zf1 := b2_some zf
    clear zf; obtain ⟨vq6, Mq7, zq, zf⟩ := zf1
    refine g_callVwi (As := [.int (x1 + 31), .int x2]) (rest := []) h ceX13_planThree mlX13_453 imX13_planThree seX13_planThree (by rfl) (kd_lt (by rw [(by decide : kd 103 = 11)]; decide)) (ent_11 (by decide : kd 103 = 11)) rfl rfl ⟨by decide, by decide⟩ ⟨by decide, by decide⟩ rfl dX13_planFour_54 rfl (Nat.le_of_ble_eq_true rfl) (cmX13_planThree zq) ?_
    refine g_istore h [(7, .int vq6), (6, .int s0), (0, rv G.1 103), (1, .int x1), (2, .int x2), (3, .int x3), (4, .int x4), (5, .int x5)] (by decide) rfl dX13_planFour_57 ?_
    refine g_iload h 6 rfl dX13_planFour_59 ?_
    refine g_bipush h (-2) (v := (-2)) (by decide) dX13_planFour_61 ?_
    refine g_ic_eq h 96 (by decide) zf dX13_planFour_63 ?_ ?_ <;> clear zf <;> intro zf
    · refine g_sub h [2, 3, 4, 7, 1, 0] rfl ?_
      exact kX13_planFour_b96 h zh9 zf
    · refine g_aload_n h 2 rfl dX13_planFour_66 ?_
      refine gfX13_108 h (by decide : kd 103 = 11) dX13_planFour_67 ?_
      refine g_iload_n h 3 rfl dX13_planFour_70 ?_
      refine g_iconst h 4 (v := 4) (by decide) dX13_planFour_71 ?_
      refine g_iadd h dX13_planFour_72 ?_
      refine g_iald h 186 (by decide : kd 133 = 20) (by decide) zf dX13_planFour_73 ?_
      clear zf; intro vq9 zf
      refine g_iload_n h 4 rfl dX13_planFour_74 ?_
      refine g_ic_ne h 87 (by decide) zf dX13_planFour_75 ?_ ?_ <;> clear zf <;> intro zf
      · refine g_iload h 0 rfl dX13_planFour_87 ?_
        refine g_iload_n h 5 rfl dX13_planFour_89 ?_
        refine g_ic_lt h 96 (by decide) zf dX13_planFour_90 ?_ ?_ <;> clear zf <;> intro zf
        · refine g_sub h [2, 3, 4, 7, 1, 0] rfl ?_
          exact kX13_planFour_b96 h zh9 zf
        · refine g_goto h 103 (by decide) dX13_planFour_93 ?_
          refine g_sub h [2, 3, 4, 5, 6, 7] rfl ?_
          exact kX13_planFour_b103 h zh9 zf
      · refine g_iload h 0 rfl dX13_planFour_78 ?_
        refine g_iload_n h 5 rfl dX13_planFour_80 ?_
        refine g_ic_gt h 96 (by decide) zf dX13_planFour_81 ?_ ?_ <;> clear zf <;> intro zf
        · refine g_sub h [2, 3, 4, 7, 1, 0] rfl ?_
          exact kX13_planFour_b96 h zh9 zf
        · refine g_goto h 103 (by decide) dX13_planFour_84 ?_
          refine g_sub h [2, 3, 4, 5, 6, 7] rfl ?_
          exact kX13_planFour_b103 h zh9 zf
  · refine g_goto h 103 (by decide) dX13_planFour_45 ?_
    refine g_sub h [1, 2, 3, 4, 5, 6] rfl ?_
    exact kX13_planFour_b103 h zh9 zf

theorem kX13_planFour_l9 {G : GX} (h : OKm G cX13_planFour RX13 8 (some .int) { frames := 11, cells := 0, slots := 0, locals := 269 }) : ∀ (n : Nat) (M : Mem) (x1 : Int32) (x2 : Int32) (x3 : Int32) (x4 : Int32) (x5 : Int32) (res : (Int32 × Mem)), fX13_planFour_l9 n M x1 x2 x3 x4 x5 = some res → GG G (Qm G (Pwi res) 0 0) 0 0 9 [(0, rv G.1 103), (1, .int x1), (2, .int x2), (3, .int x3), (4, .int x4), (5, .int x5)] [] M := by
  intro n
  induction n with
  | zero => intro M x1 x2 x3 x4 x5 res zf; rw [fX13_planFour_l9] at zf; cases zf
  | succ n ih =>
    intro M x1 x2 x3 x4 x5 res zf
    rw [fX13_planFour_l9] at zf
    refine g_iload h 5 rfl dX13_planFour_9 ?_
    refine g_aload_n h 0 rfl dX13_planFour_11 ?_
    refine gfX13_333 h (by decide : kd 103 = 11) dX13_planFour_12 ?_
    refine g_nmI zf ?_
    clear zf; intro vq1 zf
    refine g_ic_gt h 109 (by decide) zf dX13_planFour_15 ?_ ?_ <;> clear zf <;> intro zf
    · refine g_aload_n h 0 rfl dX13_planFour_109 ?_
      refine g_iload h 4 rfl dX13_planFour_110 ?_
      refine pfX13_444 h (by decide : kd 103 = 11) dX13_planFour_112 ?_
      refine g_nmM zf ?_
      clear zf; intro Mq2 zf
      refine g_iload_n h 3 rfl dX13_planFour_115 ?_
      obtain rfl := Option.some.inj zf
      exact g_iret h rfl ⟨rfl, rfl⟩ (Nat.le_refl _) (Nat.le_refl _) dX13_planFour_116
    · refine g_iload h 5 rfl dX13_planFour_18 ?_
      refine g_aload_n h 0 rfl dX13_planFour_20 ?_
      refine gfX13_333 h (by decide : kd 103 = 11) dX13_planFour_21 ?_
      refine g_nmI zf ?_
      clear zf; intro vq3 zf
      refine g_ic_ne h 31 (by decide) zf dX13_planFour_24 ?_ ?_ <;> clear zf <;> intro zf
      · refine g_iload h 5 rfl dX13_planFour_31 ?_
        refine g_sub h [0, 1, 2, 3, 4, 5] rfl ?_
        exact kX13_planFour_b33 h ih zf
      · refine g_iconst h (-1) (v := (-1)) (by decide) dX13_planFour_27 ?_
        refine g_goto h 33 (by decide) dX13_planFour_28 ?_
        refine g_sub h [0, 1, 2, 3, 4, 5] rfl ?_
        exact kX13_planFour_b33 h ih zf

theorem kX13_planFour_e0 {G : GX} (h : OKm G cX13_planFour RX13 8 (some .int) { frames := 11, cells := 0, slots := 0, locals := 269 }) {M : Mem} {x1 : Int32} {x2 : Int32} {res : (Int32 × Mem)} (zf : fX13_planFour M x1 x2 = some res) : GG G (Qm G (Pwi res) 0 0) 0 0 0 [(0, rv G.1 103), (1, .int x1), (2, .int x2)] [] M := by
  unfold fX13_planFour at zf
  refine g_iconst h 0 (v := 0) (by decide) dX13_planFour_0 ?_
  refine g_istore_n h rfl [(3, .int 0), (0, rv G.1 103), (1, .int x1), (2, .int x2)] (by decide) rfl dX13_planFour_1 ?_
  refine g_bipush h (-2) (v := (-2)) (by decide) dX13_planFour_2 ?_
  refine g_istore h [(4, .int (-2)), (3, .int 0), (0, rv G.1 103), (1, .int x1), (2, .int x2)] (by decide) rfl dX13_planFour_4 ?_
  refine g_iconst h 0 (v := 0) (by decide) dX13_planFour_6 ?_
  refine g_istore h [(5, .int 0), (4, .int (-2)), (3, .int 0), (0, rv G.1 103), (1, .int x1), (2, .int x2)] (by decide) rfl dX13_planFour_7 ?_
  refine g_sub h [3, 4, 5, 2, 1, 0] rfl ?_
  exact kX13_planFour_l9 h _ _ _ _ _ _ _ _ zf

theorem cmX13_planFour {l : Launch} {w : WX} {M : Mem} {x1 : Int32} {x2 : Int32} {res : (Int32 × Mem)} (zf : fX13_planFour M x1 x2 = some res) : CM l w yX13_planFour cX13_planFour 8 (some .int) { frames := 11, cells := 0, slots := 0, locals := 269 } 0 0 [rv w 103, .int x1, .int x2] M (Pwi res) := by
  refine CM_of (by decide) (Nat.le_of_ble_eq_true rfl) (fun G hw hl h => ?_)
  subst hw
  exact kX13_planFour_e0 h zf

-- X13_plan
theorem kX13_plan_b85 {G : GX} (h : OKm G cX13_plan RX13 5 (some .int) { frames := 12, cells := 0, slots := 0, locals := 296 }) {M : Mem} {x2 : Int32} {x3 : Int32} {s0 : Int32} {res : (Int32 × Mem)} (zf : fX13_plan_b85 M x2 x3 s0 = some res) : GG G (Qm G (Pwi res) 0 0) 0 0 85 [(0, rv G.1 103), (2, .int x2), (3, .int x3)] [.int s0] M := by
  unfold fX13_plan_b85 at zf
  refine g_istore h [(4, .int s0), (0, rv G.1 103), (2, .int x2), (3, .int x3)] (by decide) rfl dX13_plan_85 ?_
  refine g_iload_n h 2 rfl dX13_plan_87 ?_
  refine g_if_ne h 103 (by decide) zf dX13_plan_88 ?_ ?_ <;> clear zf <;> intro zf
  · refine g_aload_n h 1 rfl dX13_plan_103 ?_
    refine gfX13_444 h (by decide : kd 103 = 11) dX13_plan_104 ?_
    refine g_nmI zf ?_
    clear zf; intro vq10 zf
    obtain rfl := Option.some.inj zf
    exact g_iret h rfl ⟨rfl, rfl⟩ (Nat.le_refl _) (Nat.le_refl _) dX13_plan_107
  · refine g_iload h 0 rfl dX13_plan_91 ?_
    refine g_aload_n h 1 rfl dX13_plan_93 ?_
    refine g_iconst h 0 (v := 0) (by decide) dX13_plan_94 ?_
    refine g_iload_n h 3 rfl dX13_plan_95 ?_
    have zf1 := bd_some zf
    clear zf; obtain ⟨vq11, zq, zf⟩ := zf1
    refine g_callVri (As := [.int 0, .int x3]) (rest := [.int s0]) h ceX13_ahead0 mlX13_441 imX13_ahead0 seX13_ahead0 (by rfl) (kd_lt (by rw [(by decide : kd 103 = 11)]; decide)) (ent_11 (by decide : kd 103 = 11)) rfl rfl ⟨by decide, by decide⟩ ⟨by decide, by decide⟩ rfl dX13_plan_96 rfl (Nat.le_of_ble_eq_true rfl) (cmX13_ahead0 zq) ?_
    refine g_isub h dX13_plan_99 ?_
    refine g_goto h 107 (by decide) dX13_plan_100 ?_
    obtain rfl := Option.some.inj zf
    exact g_iret h rfl ⟨rfl, rfl⟩ (Nat.le_refl _) (Nat.le_refl _) dX13_plan_107

theorem kX13_plan_e0 {G : GX} (h : OKm G cX13_plan RX13 5 (some .int) { frames := 12, cells := 0, slots := 0, locals := 296 }) {M : Mem} {x1 : Int32} {x2 : Int32} {res : (Int32 × Mem)} (zf : fX13_plan M x1 x2 = some res) : GG G (Qm G (Pwi res) 0 0) 0 0 0 [(0, rv G.1 103), (1, .int x1), (2, .int x2)] [] M := by
  unfold fX13_plan at zf
  refine g_aload_n h 0 rfl dX13_plan_0 ?_
  refine g_iconst h 0 (v := 0) (by decide) dX13_plan_1 ?_
  refine pfX13_141 h (by decide : kd 103 = 11) dX13_plan_2 ?_
  refine g_nmM zf ?_
  clear zf; intro Mq1 zf
  refine g_aload_n h 0 rfl dX13_plan_5 ?_
  refine g_iload_n h 2 rfl dX13_plan_6 ?_
  refine g_iconst h 1 (v := 1) (by decide) dX13_plan_7 ?_
  have zf1 := b2_some zf
  clear zf; obtain ⟨vq2, Mq3, zq, zf⟩ := zf1
  refine g_callVwi (As := [.int x2, .int 1]) (rest := []) h ceX13_isWhat mlX13_414 imX13_isWhat seX13_isWhat (by rfl) (kd_lt (by rw [(by decide : kd 103 = 11)]; decide)) (ent_11 (by decide : kd 103 = 11)) rfl rfl ⟨by decide, by decide⟩ ⟨by decide, by decide⟩ rfl dX13_plan_8 rfl (Nat.le_of_ble_eq_true rfl) (cmX13_isWhat zq) ?_
  refine g_if_eq h 28 (by decide) zf dX13_plan_11 ?_ ?_ <;> clear zf <;> intro zf
  · refine g_iconst h 0 (v := 0) (by decide) dX13_plan_28 ?_
    obtain rfl := Option.some.inj zf
    exact g_iret h rfl ⟨rfl, rfl⟩ (Nat.le_refl _) (Nat.le_refl _) dX13_plan_29
  · refine g_aload_n h 0 rfl dX13_plan_14 ?_
    refine g_iload_n h 1 rfl dX13_plan_15 ?_
    refine g_iconst h 1 (v := 1) (by decide) dX13_plan_16 ?_
    refine g_iconst h 4 (v := 4) (by decide) dX13_plan_17 ?_
    have zf1 := bd_some zf
    clear zf; obtain ⟨vq4, zq, zf⟩ := zf1
    refine g_callSri (As := [.int x1, .int 1, .int 4]) (rest := [rv G.1 103]) h ceX13_within mlX13_407 smX13_within rfl rfl ⟨by decide, by decide⟩ ⟨by decide, by decide⟩ rfl dX13_plan_18 rfl (Nat.le_of_ble_eq_true rfl) (cmX13_within zq) ?_
    refine g_iconst h 2 (v := 2) (by decide) dX13_plan_21 ?_
    have zf1 := b2_some zf
    clear zf; obtain ⟨vq5, Mq6, zq, zf⟩ := zf1
    refine g_callVwi (As := [.int vq4, .int 2]) (rest := []) h ceX13_right mlX13_326 imX13_right seX13_right (by rfl) (kd_lt (by rw [(by decide : kd 103 = 11)]; decide)) (ent_11 (by decide : kd 103 = 11)) rfl rfl ⟨by decide, by decide⟩ ⟨by decide, by decide⟩ rfl dX13_plan_22 rfl (Nat.le_of_ble_eq_true rfl) (cmX13_right zq) ?_
    refine g_if_ne h 30 (by decide) zf dX13_plan_25 ?_ ?_ <;> clear zf <;> intro zf
    · refine g_aload_n h 0 rfl dX13_plan_30 ?_
      refine gfX13_108 h (by decide : kd 103 = 11) dX13_plan_31 ?_
      refine g_iconst h 4 (v := 4) (by decide) dX13_plan_34 ?_
      refine g_iald h 186 (by decide : kd 133 = 20) (by decide) zf dX13_plan_35 ?_
      clear zf; intro vq7 zf
      refine g_istore_n h rfl [(3, .int vq7), (0, rv G.1 103), (1, .int x1), (2, .int x2)] (by decide) rfl dX13_plan_36 ?_
      refine g_iload_n h 2 rfl dX13_plan_37 ?_
      refine g_iconst h 1 (v := 1) (by decide) dX13_plan_38 ?_
      refine g_ic_ne h 51 (by decide) zf dX13_plan_39 ?_ ?_ <;> clear zf <;> intro zf
      · refine g_iload_n h 2 rfl dX13_plan_51 ?_
        refine g_iconst h 2 (v := 2) (by decide) dX13_plan_52 ?_
        refine g_ic_ne h 65 (by decide) zf dX13_plan_53 ?_ ?_ <;> clear zf <;> intro zf
        · refine g_iload_n h 2 rfl dX13_plan_65 ?_
          refine g_iconst h 3 (v := 3) (by decide) dX13_plan_66 ?_
          refine g_ic_ne h 79 (by decide) zf dX13_plan_67 ?_ ?_ <;> clear zf <;> intro zf
          · refine g_aload_n h 1 rfl dX13_plan_79 ?_
            refine g_iconst h 0 (v := 0) (by decide) dX13_plan_80 ?_
            refine g_iload_n h 0 rfl dX13_plan_81 ?_
            have zf1 := b2_some zf
            clear zf; obtain ⟨vq8, Mq9, zq, zf⟩ := zf1
            refine g_callVwi (As := [.int 0, .int vq7]) (rest := []) h ceX13_planFour mlX13_456 imX13_planFour seX13_planFour (by rfl) (kd_lt (by rw [(by decide : kd 103 = 11)]; decide)) (ent_11 (by decide : kd 103 = 11)) rfl rfl ⟨by decide, by decide⟩ ⟨by decide, by decide⟩ rfl dX13_plan_82 rfl (Nat.le_of_ble_eq_true rfl) (cmX13_planFour zq) ?_
            refine g_sub h [1, 3, 0] rfl ?_
            exact kX13_plan_b85 h zf
          · refine g_aload_n h 1 rfl dX13_plan_70 ?_
            refine g_iconst h 0 (v := 0) (by decide) dX13_plan_71 ?_
            refine g_iload_n h 0 rfl dX13_plan_72 ?_
            have zf1 := b2_some zf
            clear zf; obtain ⟨vq12, Mq13, zq, zf⟩ := zf1
            refine g_callVwi (As := [.int 0, .int vq7]) (rest := []) h ceX13_planThree mlX13_453 imX13_planThree seX13_planThree (by rfl) (kd_lt (by rw [(by decide : kd 103 = 11)]; decide)) (ent_11 (by decide : kd 103 = 11)) rfl rfl ⟨by decide, by decide⟩ ⟨by decide, by decide⟩ rfl dX13_plan_73 rfl (Nat.le_of_ble_eq_true rfl) (cmX13_planThree zq) ?_
            refine g_goto h 85 (by decide) dX13_plan_76 ?_
            refine g_sub h [1, 3, 0] rfl ?_
            exact kX13_plan_b85 h zf
        · refine g_aload_n h 1 rfl dX13_plan_56 ?_
          refine g_iconst h 0 (v := 0) (by decide) dX13_plan_57 ?_
          refine g_iload_n h 0 rfl dX13_plan_58 ?_
          have zf1 := b2_some zf
          clear zf; obtain ⟨vq14, Mq15, zq, zf⟩ := zf1
          refine g_callVwi (As := [.int 0, .int vq7]) (rest := []) h ceX13_planTwo mlX13_450 imX13_planTwo seX13_planTwo (by rfl) (kd_lt (by rw [(by decide : kd 103 = 11)]; decide)) (ent_11 (by decide : kd 103 = 11)) rfl rfl ⟨by decide, by decide⟩ ⟨by decide, by decide⟩ rfl dX13_plan_59 rfl (Nat.le_of_ble_eq_true rfl) (cmX13_planTwo zq) ?_
          refine g_goto h 85 (by decide) dX13_plan_62 ?_
          refine g_sub h [1, 3, 0] rfl ?_
          exact kX13_plan_b85 h zf
      · refine g_aload_n h 1 rfl dX13_plan_42 ?_
        refine g_iconst h 0 (v := 0) (by decide) dX13_plan_43 ?_
        refine g_iload_n h 0 rfl dX13_plan_44 ?_
        have zf1 := b2_some zf
        clear zf; obtain ⟨vq16, Mq17, zq, zf⟩ := zf1
        refine g_callVwi (As := [.int 0, .int vq7]) (rest := []) h ceX13_planOne mlX13_447 imX13_planOne seX13_planOne (by rfl) (kd_lt (by rw [(by decide : kd 103 = 11)]; decide)) (ent_11 (by decide : kd 103 = 11)) rfl rfl ⟨by decide, by decide⟩ ⟨by decide, by decide⟩ rfl dX13_plan_45 rfl (Nat.le_of_ble_eq_true rfl) (cmX13_planOne zq) ?_
        refine g_goto h 85 (by decide) dX13_plan_48 ?_
        refine g_sub h [1, 3, 0] rfl ?_
        exact kX13_plan_b85 h zf
    · refine g_iconst h 0 (v := 0) (by decide) dX13_plan_28 ?_
      obtain rfl := Option.some.inj zf
      exact g_iret h rfl ⟨rfl, rfl⟩ (Nat.le_refl _) (Nat.le_refl _) dX13_plan_29

theorem cmX13_plan {l : Launch} {w : WX} {M : Mem} {x1 : Int32} {x2 : Int32} {res : (Int32 × Mem)} (zf : fX13_plan M x1 x2 = some res) : CM l w yX13_plan cX13_plan 5 (some .int) { frames := 12, cells := 0, slots := 0, locals := 296 } 0 0 [rv w 103, .int x1, .int x2] M (Pwi res) := by
  refine CM_of (by decide) (Nat.le_of_ble_eq_true rfl) (fun G hw hl h => ?_)
  subst hw
  exact kX13_plan_e0 h zf

-- X13_restore
theorem kX13_restore_l32 {G : GX} (h : OKm G cX13_restore RX13 2 (some .boolean) { frames := 1, cells := 0, slots := 0, locals := 23 }) : ∀ (n : Nat) (M : Mem) (x1 : Int32) (res : (Int32 × Mem)), fX13_restore_l32 n M x1 = some res → GG G (Qm G (Pwi res) 0 0) 0 0 32 [(0, rv G.1 103), (1, .int x1)] [] M := by
  intro n
  induction n with
  | zero => intro M x1 res zf; rw [fX13_restore_l32] at zf; cases zf
  | succ n ih =>
    intro M x1 res zf
    rw [fX13_restore_l32] at zf
    refine g_iload_n h 1 rfl dX13_restore_32 ?_
    refine g_bipush h 31 (v := 31) (by decide) dX13_restore_33 ?_
    refine g_ic_ge h 56 (by decide) zf dX13_restore_35 ?_ ?_ <;> clear zf <;> intro zf
    · refine g_aload_n h 0 rfl dX13_restore_56 ?_
      refine g_aload_n h 0 rfl dX13_restore_57 ?_
      refine gfX13_135 h (by decide : kd 103 = 11) dX13_restore_58 ?_
      refine g_aload_n h 0 rfl dX13_restore_61 ?_
      refine gfX13_111 h (by decide : kd 103 = 11) dX13_restore_62 ?_
      have zf1 := bd_some zf
      clear zf; obtain ⟨Mq7, zq, zf⟩ := zf1
      refine g_callVwv (As := [rv G.1 142, rv G.1 134]) (rest := []) h ceX13_copies mlX13_348 imX13_copies seX13_copies (by rfl) (kd_lt (by rw [(by decide : kd 103 = 11)]; decide)) (ent_11 (by decide : kd 103 = 11)) rfl rfl ⟨by decide, by decide⟩ ⟨by decide, by decide⟩ rfl dX13_restore_65 rfl (Nat.le_of_ble_eq_true rfl) (cmX13_copies zq) ?_
      refine g_aload_n h 0 rfl dX13_restore_68 ?_
      refine g_aload_n h 0 rfl dX13_restore_69 ?_
      refine gfX13_138 h (by decide : kd 103 = 11) dX13_restore_70 ?_
      refine g_aload_n h 0 rfl dX13_restore_73 ?_
      refine gfX13_123 h (by decide : kd 103 = 11) dX13_restore_74 ?_
      have zf1 := bd_some zf
      clear zf; obtain ⟨Mq8, zq, zf⟩ := zf1
      refine g_callVwv (As := [rv G.1 143, rv G.1 138]) (rest := []) h ceX13_copies mlX13_348 imX13_copies seX13_copies (by rfl) (kd_lt (by rw [(by decide : kd 103 = 11)]; decide)) (ent_11 (by decide : kd 103 = 11)) rfl rfl ⟨by decide, by decide⟩ ⟨by decide, by decide⟩ rfl dX13_restore_77 rfl (Nat.le_of_ble_eq_true rfl) (cmX13_copies zq) ?_
      refine g_iconst h 1 (v := 1) (by decide) dX13_restore_80 ?_
      obtain rfl := Option.some.inj zf
      exact g_zret h (by decide) rfl ⟨rfl, rfl⟩ (Nat.le_refl _) (Nat.le_refl _) dX13_restore_81
    · refine g_aload_n h 0 rfl dX13_restore_38 ?_
      refine gfX13_108 h (by decide : kd 103 = 11) dX13_restore_39 ?_
      refine g_iload_n h 1 rfl dX13_restore_42 ?_
      refine g_aload_n h 0 rfl dX13_restore_43 ?_
      refine gfX13_132 h (by decide : kd 103 = 11) dX13_restore_44 ?_
      refine g_iload_n h 1 rfl dX13_restore_47 ?_
      refine g_iald h 31 (by decide : kd 141 = 20) (by decide) zf dX13_restore_48 ?_
      clear zf; intro vq9 zf
      refine g_iast h 186 (by decide : kd 133 = 20) (by decide) zf dX13_restore_49 ?_
      clear zf; intro Mq10 zf
      refine g_iinc h 1 1 rfl (v := x1 + 1) (congrArg (fun z => x1 + z) (by decide : Int32.ofInt (1) = (1 : Int32))) [(1, .int (x1 + 1)), (0, rv G.1 103)] (by decide) rfl dX13_restore_50 ?_
      refine g_nmV zf ?_
      clear zf; intro vq11 zf
      refine g_goto h 32 (by decide) dX13_restore_53 ?_
      refine g_sub h [1, 0] rfl ?_
      exact ih _ _ _ zf

theorem kX13_restore_e0 {G : GX} (h : OKm G cX13_restore RX13 2 (some .boolean) { frames := 1, cells := 0, slots := 0, locals := 23 }) {M : Mem} {res : (Int32 × Mem)} (zf : fX13_restore M = some res) : GG G (Qm G (Pwi res) 0 0) 0 0 0 [(0, rv G.1 103)] [] M := by
  unfold fX13_restore at zf
  refine g_aload_n h 0 rfl dX13_restore_0 ?_
  refine g_iconst h 0 (v := 0) (by decide) dX13_restore_1 ?_
  refine pfX13_141 h (by decide : kd 103 = 11) dX13_restore_2 ?_
  refine g_nmM zf ?_
  clear zf; intro Mq1 zf
  refine g_aload_n h 0 rfl dX13_restore_5 ?_
  refine gfX13_358 h (by decide : kd 103 = 11) dX13_restore_6 ?_
  refine g_nmI zf ?_
  clear zf; intro vq2 zf
  refine g_if_ne h 14 (by decide) zf dX13_restore_9 ?_ ?_ <;> clear zf <;> intro zf
  · refine g_aload_n h 0 rfl dX13_restore_14 ?_
    refine g_aload_n h 0 rfl dX13_restore_15 ?_
    refine gfX13_493 h (by decide : kd 103 = 11) dX13_restore_16 ?_
    refine g_nmI zf ?_
    clear zf; intro vq3 zf
    refine pfX13_352 h (by decide : kd 103 = 11) dX13_restore_19 ?_
    refine g_nmM zf ?_
    clear zf; intro Mq4 zf
    refine g_aload_n h 0 rfl dX13_restore_22 ?_
    refine g_aload_n h 0 rfl dX13_restore_23 ?_
    refine gfX13_496 h (by decide : kd 103 = 11) dX13_restore_24 ?_
    refine g_nmI zf ?_
    clear zf; intro vq5 zf
    refine pfX13_355 h (by decide : kd 103 = 11) dX13_restore_27 ?_
    refine g_nmM zf ?_
    clear zf; intro Mq6 zf
    refine g_iconst h 0 (v := 0) (by decide) dX13_restore_30 ?_
    refine g_istore_n h rfl [(1, .int 0), (0, rv G.1 103)] (by decide) rfl dX13_restore_31 ?_
    refine g_sub h [1, 0] rfl ?_
    exact kX13_restore_l32 h _ _ _ _ zf
  · refine g_iconst h 0 (v := 0) (by decide) dX13_restore_12 ?_
    obtain rfl := Option.some.inj zf
    exact g_zret h (by decide) rfl ⟨rfl, rfl⟩ (Nat.le_refl _) (Nat.le_refl _) dX13_restore_13

theorem cmX13_restore {l : Launch} {w : WX} {M : Mem} {res : (Int32 × Mem)} (zf : fX13_restore M = some res) : CM l w yX13_restore cX13_restore 2 (some .boolean) { frames := 1, cells := 0, slots := 0, locals := 23 } 0 0 [rv w 103] M (Pwi res) := by
  refine CM_of (by decide) (Nat.le_of_ble_eq_true rfl) (fun G hw hl h => ?_)
  subst hw
  exact kX13_restore_e0 h zf

-- X13_ruin
theorem kX13_ruin_l14 {G : GX} (h : OKm G cX13_ruin RX13 2 (some .int) { frames := 8, cells := 0, slots := 0, locals := 188 }) : ∀ (n : Nat) (M : Mem) (x1 : Int32) (res : (Int32 × Mem)), fX13_ruin_l14 n M x1 = some res → GG G (Qm G (Pwi res) 0 0) 0 0 14 [(0, rv G.1 103), (1, .int x1)] [] M := by
  intro n
  induction n with
  | zero => intro M x1 res zf; rw [fX13_ruin_l14] at zf; cases zf
  | succ n ih =>
    intro M x1 res zf
    rw [fX13_ruin_l14] at zf
    refine g_iload_n h 1 rfl dX13_ruin_14 ?_
    refine g_bipush h 60 (v := 60) (by decide) dX13_ruin_15 ?_
    refine g_ic_gt h 53 (by decide) zf dX13_ruin_17 ?_ ?_ <;> clear zf <;> intro zf
    · refine g_iconst h (-1) (v := (-1)) (by decide) dX13_ruin_53 ?_
      obtain rfl := Option.some.inj zf
      exact g_iret h rfl ⟨rfl, rfl⟩ (Nat.le_refl _) (Nat.le_refl _) dX13_ruin_54
    · refine g_aload_n h 0 rfl dX13_ruin_20 ?_
      refine gfX13_108 h (by decide : kd 103 = 11) dX13_ruin_21 ?_
      refine g_bipush h 33 (v := 33) (by decide) dX13_ruin_24 ?_
      refine g_iald h 186 (by decide : kd 133 = 20) (by decide) zf dX13_ruin_26 ?_
      clear zf; intro vq3 zf
      refine g_aload_n h 0 rfl dX13_ruin_27 ?_
      refine gfX13_108 h (by decide : kd 103 = 11) dX13_ruin_28 ?_
      refine g_bipush h 31 (v := 31) (by decide) dX13_ruin_31 ?_
      refine g_iald h 186 (by decide : kd 133 = 20) (by decide) zf dX13_ruin_33 ?_
      clear zf; intro vq4 zf
      refine g_ic_le h 39 (by decide) zf dX13_ruin_34 ?_ ?_ <;> clear zf <;> intro zf
      · refine g_aload_n h 0 rfl dX13_ruin_39 ?_
        refine g_bipush h 31 (v := 31) (by decide) dX13_ruin_40 ?_
        refine g_bipush h (-2) (v := (-2)) (by decide) dX13_ruin_42 ?_
        have zf1 := bd_some zf
        clear zf; obtain ⟨Mq5, zq, zf⟩ := zf1
        refine g_callVwv (As := [.int 31, .int (-2)]) (rest := []) h ceX13_goesBy mlX13_404 imX13_goesBy seX13_goesBy (by rfl) (kd_lt (by rw [(by decide : kd 103 = 11)]; decide)) (ent_11 (by decide : kd 103 = 11)) rfl rfl ⟨by decide, by decide⟩ ⟨by decide, by decide⟩ rfl dX13_ruin_44 rfl (Nat.le_of_ble_eq_true rfl) (cmX13_goesBy zq) ?_
        refine g_iinc h 1 1 rfl (v := x1 + 1) (congrArg (fun z => x1 + z) (by decide : Int32.ofInt (1) = (1 : Int32))) [(1, .int (x1 + 1)), (0, rv G.1 103)] (by decide) rfl dX13_ruin_47 ?_
        refine g_nmV zf ?_
        clear zf; intro vq6 zf
        refine g_goto h 14 (by decide) dX13_ruin_50 ?_
        refine g_sub h [1, 0] rfl ?_
        exact ih _ _ _ zf
      · refine g_iload_n h 1 rfl dX13_ruin_37 ?_
        obtain rfl := Option.some.inj zf
        exact g_iret h rfl ⟨rfl, rfl⟩ (Nat.le_refl _) (Nat.le_refl _) dX13_ruin_38

theorem kX13_ruin_e0 {G : GX} (h : OKm G cX13_ruin RX13 2 (some .int) { frames := 8, cells := 0, slots := 0, locals := 188 }) {M : Mem} {res : (Int32 × Mem)} (zf : fX13_ruin M = some res) : GG G (Qm G (Pwi res) 0 0) 0 0 0 [(0, rv G.1 103)] [] M := by
  unfold fX13_ruin at zf
  refine g_aload_n h 0 rfl dX13_ruin_0 ?_
  refine g_iconst h 0 (v := 0) (by decide) dX13_ruin_1 ?_
  refine pfX13_141 h (by decide : kd 103 = 11) dX13_ruin_2 ?_
  refine g_nmM zf ?_
  clear zf; intro Mq1 zf
  refine g_aload_n h 0 rfl dX13_ruin_5 ?_
  refine g_iconst h 0 (v := 0) (by decide) dX13_ruin_6 ?_
  refine g_bipush h 31 (v := 31) (by decide) dX13_ruin_7 ?_
  have zf1 := bd_some zf
  clear zf; obtain ⟨Mq2, zq, zf⟩ := zf1
  refine g_callVwv (As := [.int 0, .int 31]) (rest := []) h ceX13_lays0 mlX13_432 imX13_lays0 seX13_lays0 (by rfl) (kd_lt (by rw [(by decide : kd 103 = 11)]; decide)) (ent_11 (by decide : kd 103 = 11)) rfl rfl ⟨by decide, by decide⟩ ⟨by decide, by decide⟩ rfl dX13_ruin_9 rfl (Nat.le_of_ble_eq_true rfl) (cmX13_lays0 zq) ?_
  refine g_iconst h 0 (v := 0) (by decide) dX13_ruin_12 ?_
  refine g_istore_n h rfl [(1, .int 0), (0, rv G.1 103)] (by decide) rfl dX13_ruin_13 ?_
  refine g_sub h [1, 0] rfl ?_
  exact kX13_ruin_l14 h _ _ _ _ zf

theorem cmX13_ruin {l : Launch} {w : WX} {M : Mem} {res : (Int32 × Mem)} (zf : fX13_ruin M = some res) : CM l w yX13_ruin cX13_ruin 2 (some .int) { frames := 8, cells := 0, slots := 0, locals := 188 } 0 0 [rv w 103] M (Pwi res) := by
  refine CM_of (by decide) (Nat.le_of_ble_eq_true rfl) (fun G hw hl h => ?_)
  subst hw
  exact kX13_ruin_e0 h zf

-- X13_see
theorem kX13_see_b35 {G : GX} (h : OKm G cX13_see RX13 3 (some .int) { frames := 1, cells := 0, slots := 0, locals := 22 }) {M : Mem} {res : (Int32 × Mem)} (zf : fX13_see_b35 M = some res) : GG G (Qm G (Pwi res) 0 0) 0 0 35 [(0, rv G.1 103)] [] M := by
  unfold fX13_see_b35 at zf
  refine g_aload_n h 0 rfl dX13_see_35 ?_
  refine g_iconst h 2 (v := 2) (by decide) dX13_see_36 ?_
  have zf1 := b2_some zf
  clear zf; obtain ⟨vq3, Mq4, zq, zf⟩ := zf1
  refine g_callVwi (As := [.int 2]) (rest := []) h ceX13_refuses mlX13_423 imX13_refuses seX13_refuses (by rfl) (kd_lt (by rw [(by decide : kd 103 = 11)]; decide)) (ent_11 (by decide : kd 103 = 11)) rfl rfl ⟨by decide, by decide⟩ ⟨by decide, by decide⟩ rfl dX13_see_37 rfl (Nat.le_of_ble_eq_true rfl) (cmX13_refuses zq) ?_
  obtain rfl := Option.some.inj zf
  exact g_iret h rfl ⟨rfl, rfl⟩ (Nat.le_refl _) (Nat.le_refl _) dX13_see_40

theorem kX13_see_e0 {G : GX} (h : OKm G cX13_see RX13 3 (some .int) { frames := 1, cells := 0, slots := 0, locals := 22 }) {M : Mem} {x1 : Int32} {x2 : Int32} {res : (Int32 × Mem)} (zf : fX13_see M x1 x2 = some res) : GG G (Qm G (Pwi res) 0 0) 0 0 0 [(0, rv G.1 103), (1, .int x1), (2, .int x2)] [] M := by
  unfold fX13_see at zf
  refine g_aload_n h 0 rfl dX13_see_0 ?_
  refine g_iconst h 0 (v := 0) (by decide) dX13_see_1 ?_
  refine pfX13_141 h (by decide : kd 103 = 11) dX13_see_2 ?_
  refine g_nmM zf ?_
  clear zf; intro Mq1 zf
  refine g_aload_n h 0 rfl dX13_see_5 ?_
  refine gfX13_355 h (by decide : kd 103 = 11) dX13_see_6 ?_
  refine g_nmI zf ?_
  clear zf; intro vq2 zf
  refine g_bipush h 8 (v := 8) (by decide) dX13_see_9 ?_
  refine g_ic_eq h 35 (by decide) zf dX13_see_11 ?_ ?_ <;> clear zf <;> intro zf
  · refine g_sub h [0] rfl ?_
    exact kX13_see_b35 h zf
  · refine g_iload_n h 1 rfl dX13_see_14 ?_
    refine g_iconst h 1 (v := 1) (by decide) dX13_see_15 ?_
    refine g_bipush h 30 (v := 30) (by decide) dX13_see_16 ?_
    have zf1 := bd_some zf
    clear zf; obtain ⟨vq5, zq, zf⟩ := zf1
    refine g_callSri (As := [.int x1, .int 1, .int 30]) (rest := []) h ceX13_within mlX13_407 smX13_within rfl rfl ⟨by decide, by decide⟩ ⟨by decide, by decide⟩ rfl dX13_see_18 rfl (Nat.le_of_ble_eq_true rfl) (cmX13_within zq) ?_
    refine g_if_eq h 35 (by decide) zf dX13_see_21 ?_ ?_ <;> clear zf <;> intro zf
    · refine g_sub h [0] rfl ?_
      exact kX13_see_b35 h zf
    · refine g_iload_n h 2 rfl dX13_see_24 ?_
      refine g_iconst h 0 (v := 0) (by decide) dX13_see_25 ?_
      refine g_sipush h 999 (v := 999) (by decide) dX13_see_26 ?_
      have zf1 := bd_some zf
      clear zf; obtain ⟨vq6, zq, zf⟩ := zf1
      refine g_callSri (As := [.int x2, .int 0, .int 999]) (rest := []) h ceX13_within mlX13_407 smX13_within rfl rfl ⟨by decide, by decide⟩ ⟨by decide, by decide⟩ rfl dX13_see_29 rfl (Nat.le_of_ble_eq_true rfl) (cmX13_within zq) ?_
      refine g_if_ne h 41 (by decide) zf dX13_see_32 ?_ ?_ <;> clear zf <;> intro zf
      · refine g_aload_n h 0 rfl dX13_see_41 ?_
        refine gfX13_123 h (by decide : kd 103 = 11) dX13_see_42 ?_
        refine g_iconst h 2 (v := 2) (by decide) dX13_see_45 ?_
        refine g_aload_n h 0 rfl dX13_see_46 ?_
        refine gfX13_355 h (by decide : kd 103 = 11) dX13_see_47 ?_
        refine g_nmI zf ?_
        clear zf; intro vq7 zf
        refine g_imul h dX13_see_50 ?_
        refine g_iload_n h 1 rfl dX13_see_51 ?_
        refine g_iast h 16 (by decide : kd 138 = 20) (by decide) zf dX13_see_52 ?_
        clear zf; intro Mq8 zf
        refine g_aload_n h 0 rfl dX13_see_53 ?_
        refine gfX13_123 h (by decide : kd 103 = 11) dX13_see_54 ?_
        refine g_iconst h 2 (v := 2) (by decide) dX13_see_57 ?_
        refine g_aload_n h 0 rfl dX13_see_58 ?_
        refine gfX13_355 h (by decide : kd 103 = 11) dX13_see_59 ?_
        refine g_nmI zf ?_
        clear zf; intro vq9 zf
        refine g_imul h dX13_see_62 ?_
        refine g_iconst h 1 (v := 1) (by decide) dX13_see_63 ?_
        refine g_iadd h dX13_see_64 ?_
        refine g_iload_n h 2 rfl dX13_see_65 ?_
        refine g_iast h 16 (by decide : kd 138 = 20) (by decide) zf dX13_see_66 ?_
        clear zf; intro Mq10 zf
        refine g_aload_n h 0 rfl dX13_see_67 ?_
        refine g_dup h rfl dX13_see_68 ?_
        refine gfX13_355 h (by decide : kd 103 = 11) dX13_see_69 ?_
        refine g_nmI zf ?_
        clear zf; intro vq11 zf
        refine g_iconst h 1 (v := 1) (by decide) dX13_see_72 ?_
        refine g_iadd h dX13_see_73 ?_
        refine pfX13_355 h (by decide : kd 103 = 11) dX13_see_74 ?_
        refine g_nmM zf ?_
        clear zf; intro Mq12 zf
        refine g_aload_n h 0 rfl dX13_see_77 ?_
        refine gfX13_355 h (by decide : kd 103 = 11) dX13_see_78 ?_
        refine g_nmI zf ?_
        clear zf; intro vq13 zf
        obtain rfl := Option.some.inj zf
        exact g_iret h rfl ⟨rfl, rfl⟩ (Nat.le_refl _) (Nat.le_refl _) dX13_see_81
      · refine g_sub h [0] rfl ?_
        exact kX13_see_b35 h zf

theorem cmX13_see {l : Launch} {w : WX} {M : Mem} {x1 : Int32} {x2 : Int32} {res : (Int32 × Mem)} (zf : fX13_see M x1 x2 = some res) : CM l w yX13_see cX13_see 3 (some .int) { frames := 1, cells := 0, slots := 0, locals := 22 } 0 0 [rv w 103, .int x1, .int x2] M (Pwi res) := by
  refine CM_of (by decide) (Nat.le_of_ble_eq_true rfl) (fun G hw hl h => ?_)
  subst hw
  exact kX13_see_e0 h zf

-- X13_stays
theorem kX13_stays_l25 {G : GX} (h : OKm G cX13_stays RX13 4 (some .int) { frames := 8, cells := 0, slots := 0, locals := 188 }) : ∀ (n : Nat) (M : Mem) (x1 : Int32) (x2 : Int32) (res : (Int32 × Mem)), fX13_stays_l25 n M x1 x2 = some res → GG G (Qm G (Pwi res) 0 0) 0 0 25 [(0, rv G.1 103), (1, .int x1), (2, .int x2)] [] M := by
  intro n
  induction n with
  | zero => intro M x1 x2 res zf; rw [fX13_stays_l25] at zf; cases zf
  | succ n ih =>
    intro M x1 x2 res zf
    rw [fX13_stays_l25] at zf
    refine g_iload_n h 2 rfl dX13_stays_25 ?_
    refine g_bipush h 60 (v := 60) (by decide) dX13_stays_26 ?_
    refine g_ic_gt h 80 (by decide) zf dX13_stays_28 ?_ ?_ <;> clear zf <;> intro zf
    · refine g_iconst h (-1) (v := (-1)) (by decide) dX13_stays_80 ?_
      obtain rfl := Option.some.inj zf
      exact g_iret h rfl ⟨rfl, rfl⟩ (Nat.le_refl _) (Nat.le_refl _) dX13_stays_81
    · refine g_aload_n h 0 rfl dX13_stays_31 ?_
      refine gfX13_108 h (by decide : kd 103 = 11) dX13_stays_32 ?_
      refine g_bipush h 35 (v := 35) (by decide) dX13_stays_35 ?_
      refine g_iald h 186 (by decide : kd 133 = 20) (by decide) zf dX13_stays_37 ?_
      clear zf; intro vq5 zf
      refine g_istore_n h rfl [(3, .int vq5), (0, rv G.1 103), (1, .int x1), (2, .int x2)] (by decide) rfl dX13_stays_38 ?_
      refine g_aload_n h 1 rfl dX13_stays_39 ?_
      refine g_bipush h 31 (v := 31) (by decide) dX13_stays_40 ?_
      refine g_bipush h (-2) (v := (-2)) (by decide) dX13_stays_42 ?_
      have zf1 := bd_some zf
      clear zf; obtain ⟨Mq6, zq, zf⟩ := zf1
      refine g_callVwv (As := [.int 31, .int (-2)]) (rest := []) h ceX13_goesBy mlX13_404 imX13_goesBy seX13_goesBy (by rfl) (kd_lt (by rw [(by decide : kd 103 = 11)]; decide)) (ent_11 (by decide : kd 103 = 11)) rfl rfl ⟨by decide, by decide⟩ ⟨by decide, by decide⟩ rfl dX13_stays_44 rfl (Nat.le_of_ble_eq_true rfl) (cmX13_goesBy zq) ?_
      refine g_aload_n h 1 rfl dX13_stays_47 ?_
      refine gfX13_108 h (by decide : kd 103 = 11) dX13_stays_48 ?_
      refine g_bipush h 40 (v := 40) (by decide) dX13_stays_51 ?_
      refine g_iald h 186 (by decide : kd 133 = 20) (by decide) zf dX13_stays_53 ?_
      clear zf; intro vq7 zf
      refine g_aload_n h 1 rfl dX13_stays_54 ?_
      refine gfX13_108 h (by decide : kd 103 = 11) dX13_stays_55 ?_
      refine g_bipush h 9 (v := 9) (by decide) dX13_stays_58 ?_
      refine g_iald h 186 (by decide : kd 133 = 20) (by decide) zf dX13_stays_60 ?_
      clear zf; intro vq8 zf
      refine g_ic_le h 74 (by decide) zf dX13_stays_61 ?_ ?_ <;> clear zf <;> intro zf
      · refine g_iinc h 2 3 rfl (v := x2 + 1) (congrArg (fun z => x2 + z) (by decide : Int32.ofInt (1) = (1 : Int32))) [(2, .int (x2 + 1)), (3, .int vq5), (0, rv G.1 103), (1, .int x1)] (by decide) rfl dX13_stays_74 ?_
        refine g_nmV zf ?_
        clear zf; intro vq9 zf
        refine g_goto h 25 (by decide) dX13_stays_77 ?_
        refine g_sub h [2, 3, 0] rfl ?_
        exact ih _ _ _ _ zf
      · refine g_iload_n h 2 rfl dX13_stays_64 ?_
        refine g_if_ne h 72 (by decide) zf dX13_stays_65 ?_ ?_ <;> clear zf <;> intro zf
        · refine g_iload_n h 0 rfl dX13_stays_72 ?_
          obtain rfl := Option.some.inj zf
          exact g_iret h rfl ⟨rfl, rfl⟩ (Nat.le_refl _) (Nat.le_refl _) dX13_stays_73
        · refine g_iload_n h 3 rfl dX13_stays_68 ?_
          refine g_goto h 73 (by decide) dX13_stays_69 ?_
          obtain rfl := Option.some.inj zf
          exact g_iret h rfl ⟨rfl, rfl⟩ (Nat.le_refl _) (Nat.le_refl _) dX13_stays_73

theorem kX13_stays_e0 {G : GX} (h : OKm G cX13_stays RX13 4 (some .int) { frames := 8, cells := 0, slots := 0, locals := 188 }) {M : Mem} {x1 : Int32} {res : (Int32 × Mem)} (zf : fX13_stays M x1 = some res) : GG G (Qm G (Pwi res) 0 0) 0 0 0 [(0, rv G.1 103), (1, .int x1)] [] M := by
  unfold fX13_stays at zf
  refine g_aload_n h 0 rfl dX13_stays_0 ?_
  refine g_iconst h 0 (v := 0) (by decide) dX13_stays_1 ?_
  refine pfX13_141 h (by decide : kd 103 = 11) dX13_stays_2 ?_
  refine g_nmM zf ?_
  clear zf; intro Mq1 zf
  refine g_aload_n h 0 rfl dX13_stays_5 ?_
  refine g_iload_n h 1 rfl dX13_stays_6 ?_
  refine g_iconst h 1 (v := 1) (by decide) dX13_stays_7 ?_
  have zf1 := b2_some zf
  clear zf; obtain ⟨vq2, Mq3, zq, zf⟩ := zf1
  refine g_callVwi (As := [.int x1, .int 1]) (rest := []) h ceX13_isWhat mlX13_414 imX13_isWhat seX13_isWhat (by rfl) (kd_lt (by rw [(by decide : kd 103 = 11)]; decide)) (ent_11 (by decide : kd 103 = 11)) rfl rfl ⟨by decide, by decide⟩ ⟨by decide, by decide⟩ rfl dX13_stays_8 rfl (Nat.le_of_ble_eq_true rfl) (cmX13_isWhat zq) ?_
  refine g_if_ne h 16 (by decide) zf dX13_stays_11 ?_ ?_ <;> clear zf <;> intro zf
  · refine g_aload_n h 0 rfl dX13_stays_16 ?_
    refine g_iconst h 0 (v := 0) (by decide) dX13_stays_17 ?_
    refine g_bipush h 31 (v := 31) (by decide) dX13_stays_18 ?_
    have zf1 := bd_some zf
    clear zf; obtain ⟨Mq4, zq, zf⟩ := zf1
    refine g_callVwv (As := [.int 0, .int 31]) (rest := []) h ceX13_lays0 mlX13_432 imX13_lays0 seX13_lays0 (by rfl) (kd_lt (by rw [(by decide : kd 103 = 11)]; decide)) (ent_11 (by decide : kd 103 = 11)) rfl rfl ⟨by decide, by decide⟩ ⟨by decide, by decide⟩ rfl dX13_stays_20 rfl (Nat.le_of_ble_eq_true rfl) (cmX13_lays0 zq) ?_
    refine g_iconst h 1 (v := 1) (by decide) dX13_stays_23 ?_
    refine g_istore_n h rfl [(2, .int 1), (0, rv G.1 103), (1, .int x1)] (by decide) rfl dX13_stays_24 ?_
    refine g_sub h [1, 2, 0] rfl ?_
    exact kX13_stays_l25 h _ _ _ _ _ zf
  · refine g_iconst h 0 (v := 0) (by decide) dX13_stays_14 ?_
    obtain rfl := Option.some.inj zf
    exact g_iret h rfl ⟨rfl, rfl⟩ (Nat.le_refl _) (Nat.le_refl _) dX13_stays_15

theorem cmX13_stays {l : Launch} {w : WX} {M : Mem} {x1 : Int32} {res : (Int32 × Mem)} (zf : fX13_stays M x1 = some res) : CM l w yX13_stays cX13_stays 4 (some .int) { frames := 8, cells := 0, slots := 0, locals := 188 } 0 0 [rv w 103, .int x1] M (Pwi res) := by
  refine CM_of (by decide) (Nat.le_of_ble_eq_true rfl) (fun G hw hl h => ?_)
  subst hw
  exact kX13_stays_e0 h zf

-- X13_swaps
theorem kX13_swaps_e0 {G : GX} (h : OKm G cX13_swaps RX13 4 none { frames := 0, cells := 0, slots := 0, locals := 0 }) {M : Mem} {x1 : Int32} {x2 : Int32} {res : Mem} (zf : fX13_swaps M x1 x2 = some res) : GG G (Qm G (Pwv res) 0 0) 0 0 0 [(0, rv G.1 103), (1, .int x1), (2, .int x2)] [] M := by
  unfold fX13_swaps at zf
  refine g_aload_n h 0 rfl dX13_swaps_0 ?_
  refine gfX13_108 h (by decide : kd 103 = 11) dX13_swaps_1 ?_
  refine g_iload_n h 1 rfl dX13_swaps_4 ?_
  refine g_iald h 186 (by decide : kd 133 = 20) (by decide) zf dX13_swaps_5 ?_
  clear zf; intro vq1 zf
  refine g_istore_n h rfl [(3, .int vq1), (0, rv G.1 103), (1, .int x1), (2, .int x2)] (by decide) rfl dX13_swaps_6 ?_
  refine g_aload_n h 1 rfl dX13_swaps_7 ?_
  refine gfX13_108 h (by decide : kd 103 = 11) dX13_swaps_8 ?_
  refine g_iload_n h 2 rfl dX13_swaps_11 ?_
  refine g_aload_n h 1 rfl dX13_swaps_12 ?_
  refine gfX13_108 h (by decide : kd 103 = 11) dX13_swaps_13 ?_
  refine g_iload_n h 3 rfl dX13_swaps_16 ?_
  refine g_iald h 186 (by decide : kd 133 = 20) (by decide) zf dX13_swaps_17 ?_
  clear zf; intro vq2 zf
  refine g_iast h 186 (by decide : kd 133 = 20) (by decide) zf dX13_swaps_18 ?_
  clear zf; intro Mq3 zf
  refine g_aload_n h 1 rfl dX13_swaps_19 ?_
  refine gfX13_108 h (by decide : kd 103 = 11) dX13_swaps_20 ?_
  refine g_iload_n h 3 rfl dX13_swaps_23 ?_
  refine g_iload_n h 0 rfl dX13_swaps_24 ?_
  refine g_iast h 186 (by decide : kd 133 = 20) (by decide) zf dX13_swaps_25 ?_
  clear zf; intro Mq4 zf
  obtain rfl := Option.some.inj zf
  exact g_vret h rfl ⟨rfl, rfl⟩ (Nat.le_refl _) (Nat.le_refl _) dX13_swaps_26

theorem cmX13_swaps {l : Launch} {w : WX} {M : Mem} {x1 : Int32} {x2 : Int32} {res : Mem} (zf : fX13_swaps M x1 x2 = some res) : CM l w yX13_swaps cX13_swaps 4 none { frames := 0, cells := 0, slots := 0, locals := 0 } 0 0 [rv w 103, .int x1, .int x2] M (Pwv res) := by
  refine CM_of (by decide) (Nat.le_of_ble_eq_true rfl) (fun G hw hl h => ?_)
  subst hw
  exact kX13_swaps_e0 h zf

-- X13_swap
theorem kX13_swap_b119 {G : GX} (h : OKm G cX13_swap RX13 8 (some .int) { frames := 10, cells := 0, slots := 0, locals := 232 }) {a35 : Mem → Int32 → Int32 → Int32 → Int32 → Int32 → Option (Int32 × Mem)} (zh35 : ∀ (M : Mem) (x1 : Int32) (x2 : Int32) (x3 : Int32) (x4 : Int32) (x5 : Int32) (res : (Int32 × Mem)), a35 M x1 x2 x3 x4 x5 = some res → GG G (Qm G (Pwi res) 0 0) 0 0 35 [(0, rv G.1 103), (1, .int x1), (2, .int x2), (3, .int x3), (4, .int x4), (5, .int x5)] [] M) {a52 : Mem → Int32 → Int32 → Int32 → Int32 → Int32 → Int32 → Option (Int32 × Mem)} (zh52 : ∀ (M : Mem) (x1 : Int32) (x2 : Int32) (x3 : Int32) (x4 : Int32) (x5 : Int32) (x6 : Int32) (res : (Int32 × Mem)), a52 M x1 x2 x3 x4 x5 x6 = some res → GG G (Qm G (Pwi res) 0 0) 0 0 52 [(0, rv G.1 103), (1, .int x1), (2, .int x2), (3, .int x3), (4, .int x4), (5, .int x5), (6, .int x6)] [] M) {M : Mem} {x1 : Int32} {x2 : Int32} {x3 : Int32} {x4 : Int32} {x5 : Int32} {x6 : Int32} {res : (Int32 × Mem)} (zf : fX13_swap_b119 a35 a52 M x1 x2 x3 x4 x5 x6 = some res) : GG G (Qm G (Pwi res) 0 0) 0 0 119 [(0, rv G.1 103), (1, .int x1), (2, .int x2), (3, .int x3), (4, .int x4), (5, .int x5), (6, .int x6)] [] M := by
  unfold fX13_swap_b119 at zf
  refine g_iinc h 6 6 rfl (v := x6 + 1) (congrArg (fun z => x6 + z) (by decide : Int32.ofInt (1) = (1 : Int32))) [(6, .int (x6 + 1)), (0, rv G.1 103), (1, .int x1), (2, .int x2), (3, .int x3), (4, .int x4), (5, .int x5)] (by decide) rfl dX13_swap_119 ?_
  refine g_nmV zf ?_
  clear zf; intro vq16 zf
  refine g_goto h 52 (by decide) dX13_swap_122 ?_
  refine g_sub h [1, 2, 3, 4, 5, 6, 0] rfl ?_
  exact zh52 _ _ _ _ _ _ _ _ zf

theorem kX13_swap_l52 {G : GX} (h : OKm G cX13_swap RX13 8 (some .int) { frames := 10, cells := 0, slots := 0, locals := 232 }) {a35 : Mem → Int32 → Int32 → Int32 → Int32 → Int32 → Option (Int32 × Mem)} (zh35 : ∀ (M : Mem) (x1 : Int32) (x2 : Int32) (x3 : Int32) (x4 : Int32) (x5 : Int32) (res : (Int32 × Mem)), a35 M x1 x2 x3 x4 x5 = some res → GG G (Qm G (Pwi res) 0 0) 0 0 35 [(0, rv G.1 103), (1, .int x1), (2, .int x2), (3, .int x3), (4, .int x4), (5, .int x5)] [] M) : ∀ (n : Nat) (M : Mem) (x1 : Int32) (x2 : Int32) (x3 : Int32) (x4 : Int32) (x5 : Int32) (x6 : Int32) (res : (Int32 × Mem)), fX13_swap_l52 a35 n M x1 x2 x3 x4 x5 x6 = some res → GG G (Qm G (Pwi res) 0 0) 0 0 52 [(0, rv G.1 103), (1, .int x1), (2, .int x2), (3, .int x3), (4, .int x4), (5, .int x5), (6, .int x6)] [] M := by
  intro n
  induction n with
  | zero => intro M x1 x2 x3 x4 x5 x6 res zf; rw [fX13_swap_l52] at zf; cases zf
  | succ n ih =>
    intro M x1 x2 x3 x4 x5 x6 res zf
    rw [fX13_swap_l52] at zf
    refine g_iload h 6 rfl dX13_swap_52 ?_
    refine g_aload_n h 0 rfl dX13_swap_54 ?_
    refine gfX13_29 h (by decide : kd 103 = 11) dX13_swap_55 ?_
    refine g_iload_n h 1 rfl dX13_swap_58 ?_
    refine g_iald h 2 (by decide : kd 108 = 20) (by decide) zf dX13_swap_59 ?_
    clear zf; intro vq9 zf
    refine g_ic_ge h 125 (by decide) zf dX13_swap_60 ?_ ?_ <;> clear zf <;> intro zf
    · refine g_iinc h 5 5 rfl (v := x5 + 1) (congrArg (fun z => x5 + z) (by decide : Int32.ofInt (1) = (1 : Int32))) [(5, .int (x5 + 1)), (0, rv G.1 103), (1, .int x1), (2, .int x2), (3, .int x3), (4, .int x4), (6, .int x6)] (by decide) rfl dX13_swap_125 ?_
      refine g_nmV zf ?_
      clear zf; intro vq10 zf
      refine g_goto h 35 (by decide) dX13_swap_128 ?_
      refine g_sub h [1, 2, 3, 4, 5, 0] rfl ?_
      exact zh35 _ _ _ _ _ _ _ zf
    · refine g_aload_n h 0 rfl dX13_swap_63 ?_
      refine g_iload h 4 rfl dX13_swap_64 ?_
      refine g_iload h 5 rfl dX13_swap_66 ?_
      refine g_iadd h dX13_swap_68 ?_
      refine g_iload h 4 rfl dX13_swap_69 ?_
      refine g_iload h 6 rfl dX13_swap_71 ?_
      refine g_iadd h dX13_swap_73 ?_
      have zf1 := bd_some zf
      clear zf; obtain ⟨Mq11, zq, zf⟩ := zf1
      refine g_callVwv (As := [.int (x4 + x5), .int (x4 + x6)]) (rest := []) h ceX13_swaps mlX13_490 imX13_swaps seX13_swaps (by rfl) (kd_lt (by rw [(by decide : kd 103 = 11)]; decide)) (ent_11 (by decide : kd 103 = 11)) rfl rfl ⟨by decide, by decide⟩ ⟨by decide, by decide⟩ rfl dX13_swap_74 rfl (Nat.le_of_ble_eq_true rfl) (cmX13_swaps zq) ?_
      refine g_aload_n h 0 rfl dX13_swap_77 ?_
      refine g_iload_n h 1 rfl dX13_swap_78 ?_
      have zf1 := b2_some zf
      clear zf; obtain ⟨vq12, Mq13, zq, zf⟩ := zf1
      refine g_callVwi (As := [.int x1]) (rest := []) h ceX13_gloryIn mlX13_487 imX13_gloryIn seX13_gloryIn (by rfl) (kd_lt (by rw [(by decide : kd 103 = 11)]; decide)) (ent_11 (by decide : kd 103 = 11)) rfl rfl ⟨by decide, by decide⟩ ⟨by decide, by decide⟩ rfl dX13_swap_79 rfl (Nat.le_of_ble_eq_true rfl) (cmX13_gloryIn zq) ?_
      refine g_istore h [(7, .int vq12), (0, rv G.1 103), (1, .int x1), (2, .int x2), (3, .int x3), (4, .int x4), (5, .int x5), (6, .int x6)] (by decide) rfl dX13_swap_82 ?_
      refine g_aload_n h 1 rfl dX13_swap_84 ?_
      refine g_iload h 5 rfl dX13_swap_85 ?_
      refine g_iload h 6 rfl dX13_swap_87 ?_
      refine g_iadd h dX13_swap_89 ?_
      refine g_iload h 5 rfl dX13_swap_90 ?_
      refine g_iload h 7 rfl dX13_swap_92 ?_
      refine g_iadd h dX13_swap_94 ?_
      have zf1 := bd_some zf
      clear zf; obtain ⟨Mq14, zq, zf⟩ := zf1
      refine g_callVwv (As := [.int (x4 + x5), .int (x4 + x6)]) (rest := []) h ceX13_swaps mlX13_490 imX13_swaps seX13_swaps (by rfl) (kd_lt (by rw [(by decide : kd 103 = 11)]; decide)) (ent_11 (by decide : kd 103 = 11)) rfl rfl ⟨by decide, by decide⟩ ⟨by decide, by decide⟩ rfl dX13_swap_95 rfl (Nat.le_of_ble_eq_true rfl) (cmX13_swaps zq) ?_
      refine g_iload h 0 rfl dX13_swap_98 ?_
      refine g_iload_n h 4 rfl dX13_swap_100 ?_
      refine g_ic_gt h 107 (by decide) zf dX13_swap_101 ?_ ?_ <;> clear zf <;> intro zf
      · refine g_bipush h 10 (v := 10) (by decide) dX13_swap_107 ?_
        refine g_iload h 6 rfl dX13_swap_109 ?_
        refine g_imul h dX13_swap_111 ?_
        refine g_iload h 7 rfl dX13_swap_112 ?_
        refine g_iadd h dX13_swap_114 ?_
        refine g_nmI zf ?_
        clear zf; intro vq15 zf
        refine g_istore_n h rfl [(2, .int vq15), (7, .int vq12), (0, rv G.1 103), (1, .int x1), (3, .int x3), (4, .int x4), (5, .int x5), (6, .int x6)] (by decide) rfl dX13_swap_115 ?_
        refine g_iload h 1 rfl dX13_swap_116 ?_
        refine g_istore_n h rfl [(3, .int vq12), (2, .int vq15), (7, .int vq12), (0, rv G.1 103), (1, .int x1), (4, .int x4), (5, .int x5), (6, .int x6)] (by decide) rfl dX13_swap_118 ?_
        refine g_sub h [3, 4, 1, 0, 5, 6, 7] rfl ?_
        exact kX13_swap_b119 h zh35 ih zf
      · refine g_goto h 119 (by decide) dX13_swap_104 ?_
        refine g_sub h [1, 2, 3, 4, 5, 6, 7] rfl ?_
        exact kX13_swap_b119 h zh35 ih zf

theorem kX13_swap_l35 {G : GX} (h : OKm G cX13_swap RX13 8 (some .int) { frames := 10, cells := 0, slots := 0, locals := 232 }) : ∀ (n : Nat) (M : Mem) (x1 : Int32) (x2 : Int32) (x3 : Int32) (x4 : Int32) (x5 : Int32) (res : (Int32 × Mem)), fX13_swap_l35 n M x1 x2 x3 x4 x5 = some res → GG G (Qm G (Pwi res) 0 0) 0 0 35 [(0, rv G.1 103), (1, .int x1), (2, .int x2), (3, .int x3), (4, .int x4), (5, .int x5)] [] M := by
  intro n
  induction n with
  | zero => intro M x1 x2 x3 x4 x5 res zf; rw [fX13_swap_l35] at zf; cases zf
  | succ n ih =>
    intro M x1 x2 x3 x4 x5 res zf
    rw [fX13_swap_l35] at zf
    refine g_iload h 5 rfl dX13_swap_35 ?_
    refine g_aload_n h 0 rfl dX13_swap_37 ?_
    refine gfX13_29 h (by decide : kd 103 = 11) dX13_swap_38 ?_
    refine g_iload_n h 1 rfl dX13_swap_41 ?_
    refine g_iald h 2 (by decide : kd 108 = 20) (by decide) zf dX13_swap_42 ?_
    clear zf; intro vq7 zf
    refine g_ic_ge h 131 (by decide) zf dX13_swap_43 ?_ ?_ <;> clear zf <;> intro zf
    · refine g_iload_n h 2 rfl dX13_swap_131 ?_
      obtain rfl := Option.some.inj zf
      exact g_iret h rfl ⟨rfl, rfl⟩ (Nat.le_refl _) (Nat.le_refl _) dX13_swap_132
    · refine g_iload h 5 rfl dX13_swap_46 ?_
      refine g_iconst h 1 (v := 1) (by decide) dX13_swap_48 ?_
      refine g_iadd h dX13_swap_49 ?_
      refine g_nmI zf ?_
      clear zf; intro vq8 zf
      refine g_istore h [(6, .int vq8), (0, rv G.1 103), (1, .int x1), (2, .int x2), (3, .int x3), (4, .int x4), (5, .int x5)] (by decide) rfl dX13_swap_50 ?_
      refine g_sub h [1, 2, 3, 4, 5, 6, 0] rfl ?_
      exact kX13_swap_l52 h ih _ _ _ _ _ _ _ _ _ zf

theorem kX13_swap_e0 {G : GX} (h : OKm G cX13_swap RX13 8 (some .int) { frames := 10, cells := 0, slots := 0, locals := 232 }) {M : Mem} {x1 : Int32} {res : (Int32 × Mem)} (zf : fX13_swap M x1 = some res) : GG G (Qm G (Pwi res) 0 0) 0 0 0 [(0, rv G.1 103), (1, .int x1)] [] M := by
  unfold fX13_swap at zf
  refine g_aload_n h 0 rfl dX13_swap_0 ?_
  refine g_iconst h 0 (v := 0) (by decide) dX13_swap_1 ?_
  refine pfX13_141 h (by decide : kd 103 = 11) dX13_swap_2 ?_
  refine g_nmM zf ?_
  clear zf; intro Mq1 zf
  refine g_aload_n h 0 rfl dX13_swap_5 ?_
  refine g_iload_n h 1 rfl dX13_swap_6 ?_
  have zf1 := b2_some zf
  clear zf; obtain ⟨vq2, Mq3, zq, zf⟩ := zf1
  refine g_callVwi (As := [.int x1]) (rest := []) h ceX13_isBrother mlX13_417 imX13_isBrother seX13_isBrother (by rfl) (kd_lt (by rw [(by decide : kd 103 = 11)]; decide)) (ent_11 (by decide : kd 103 = 11)) rfl rfl ⟨by decide, by decide⟩ ⟨by decide, by decide⟩ rfl dX13_swap_7 rfl (Nat.le_of_ble_eq_true rfl) (cmX13_isBrother zq) ?_
  refine g_if_ne h 15 (by decide) zf dX13_swap_10 ?_ ?_ <;> clear zf <;> intro zf
  · refine g_iconst h (-1) (v := (-1)) (by decide) dX13_swap_15 ?_
    refine g_istore_n h rfl [(2, .int (-1)), (0, rv G.1 103), (1, .int x1)] (by decide) rfl dX13_swap_16 ?_
    refine g_aload_n h 1 rfl dX13_swap_17 ?_
    refine g_iload_n h 2 rfl dX13_swap_18 ?_
    have zf1 := b2_some zf
    clear zf; obtain ⟨vq4, Mq5, zq, zf⟩ := zf1
    refine g_callVwi (As := [.int x1]) (rest := []) h ceX13_gloryIn mlX13_487 imX13_gloryIn seX13_gloryIn (by rfl) (kd_lt (by rw [(by decide : kd 103 = 11)]; decide)) (ent_11 (by decide : kd 103 = 11)) rfl rfl ⟨by decide, by decide⟩ ⟨by decide, by decide⟩ rfl dX13_swap_19 rfl (Nat.le_of_ble_eq_true rfl) (cmX13_gloryIn zq) ?_
    refine g_istore_n h rfl [(3, .int vq4), (2, .int (-1)), (0, rv G.1 103), (1, .int x1)] (by decide) rfl dX13_swap_22 ?_
    refine g_bipush h 13 (v := 13) (by decide) dX13_swap_23 ?_
    refine g_bipush h 6 (v := 6) (by decide) dX13_swap_25 ?_
    refine g_iload_n h 3 rfl dX13_swap_27 ?_
    refine g_imul h dX13_swap_28 ?_
    refine g_iadd h dX13_swap_29 ?_
    refine g_nmI zf ?_
    clear zf; intro vq6 zf
    refine g_istore h [(4, .int vq6), (3, .int vq4), (2, .int (-1)), (0, rv G.1 103), (1, .int x1)] (by decide) rfl dX13_swap_30 ?_
    refine g_iconst h 0 (v := 0) (by decide) dX13_swap_32 ?_
    refine g_istore h [(5, .int 0), (4, .int vq6), (3, .int vq4), (2, .int (-1)), (0, rv G.1 103), (1, .int x1)] (by decide) rfl dX13_swap_33 ?_
    refine g_sub h [4, 5, 3, 2, 1, 0] rfl ?_
    exact kX13_swap_l35 h _ _ _ _ _ _ _ _ zf
  · refine g_iconst h 0 (v := 0) (by decide) dX13_swap_13 ?_
    obtain rfl := Option.some.inj zf
    exact g_iret h rfl ⟨rfl, rfl⟩ (Nat.le_refl _) (Nat.le_refl _) dX13_swap_14

theorem cmX13_swap {l : Launch} {w : WX} {M : Mem} {x1 : Int32} {res : (Int32 × Mem)} (zf : fX13_swap M x1 = some res) : CM l w yX13_swap cX13_swap 8 (some .int) { frames := 10, cells := 0, slots := 0, locals := 232 } 0 0 [rv w 103, .int x1] M (Pwi res) := by
  refine CM_of (by decide) (Nat.le_of_ble_eq_true rfl) (fun G hw hl h => ?_)
  subst hw
  exact kX13_swap_e0 h zf

-- X13_term
theorem kX13_term_e0 {G : GX} (h : OKm G cX13_term RX13 3 (some .int) { frames := 1, cells := 0, slots := 0, locals := 22 }) {M : Mem} {x1 : Int32} {res : (Int32 × Mem)} (zf : fX13_term M x1 = some res) : GG G (Qm G (Pwi res) 0 0) 0 0 0 [(0, rv G.1 103), (1, .int x1)] [] M := by
  unfold fX13_term at zf
  refine g_aload_n h 0 rfl dX13_term_0 ?_
  refine g_iconst h 0 (v := 0) (by decide) dX13_term_1 ?_
  refine pfX13_141 h (by decide : kd 103 = 11) dX13_term_2 ?_
  refine g_nmM zf ?_
  clear zf; intro Mq1 zf
  refine g_iload_n h 1 rfl dX13_term_5 ?_
  refine g_iconst h 1 (v := 1) (by decide) dX13_term_6 ?_
  refine g_iconst h 5 (v := 5) (by decide) dX13_term_7 ?_
  have zf1 := bd_some zf
  clear zf; obtain ⟨vq2, zq, zf⟩ := zf1
  refine g_callSri (As := [.int x1, .int 1, .int 5]) (rest := []) h ceX13_within mlX13_407 smX13_within rfl rfl ⟨by decide, by decide⟩ ⟨by decide, by decide⟩ rfl dX13_term_8 rfl (Nat.le_of_ble_eq_true rfl) (cmX13_within zq) ?_
  refine g_if_ne h 20 (by decide) zf dX13_term_11 ?_ ?_ <;> clear zf <;> intro zf
  · refine g_aload_n h 0 rfl dX13_term_20 ?_
    have zf1 := bd_some zf
    clear zf; obtain ⟨Mq3, zq, zf⟩ := zf1
    refine g_callVwv (As := []) (rest := []) h ceX13_keeps mlX13_426 imX13_keeps seX13_keeps (by rfl) (kd_lt (by rw [(by decide : kd 103 = 11)]; decide)) (ent_11 (by decide : kd 103 = 11)) rfl rfl ⟨by decide, by decide⟩ ⟨by decide, by decide⟩ rfl dX13_term_21 rfl (Nat.le_of_ble_eq_true rfl) (cmX13_keeps zq) ?_
    refine g_aload_n h 0 rfl dX13_term_24 ?_
    refine gfX13_108 h (by decide : kd 103 = 11) dX13_term_25 ?_
    refine g_bipush h 12 (v := 12) (by decide) dX13_term_28 ?_
    refine g_iald h 186 (by decide : kd 133 = 20) (by decide) zf dX13_term_30 ?_
    clear zf; intro vq4 zf
    refine g_istore_n h rfl [(2, .int vq4), (0, rv G.1 103), (1, .int x1)] (by decide) rfl dX13_term_31 ?_
    refine g_aload_n h 1 rfl dX13_term_32 ?_
    refine gfX13_108 h (by decide : kd 103 = 11) dX13_term_33 ?_
    refine g_bipush h 12 (v := 12) (by decide) dX13_term_36 ?_
    refine g_iload_n h 2 rfl dX13_term_38 ?_
    refine g_iast h 186 (by decide : kd 133 = 20) (by decide) zf dX13_term_39 ?_
    clear zf; intro Mq5 zf
    refine g_iload_n h 0 rfl dX13_term_40 ?_
    obtain rfl := Option.some.inj zf
    exact g_iret h rfl ⟨rfl, rfl⟩ (Nat.le_refl _) (Nat.le_refl _) dX13_term_41
  · refine g_aload_n h 0 rfl dX13_term_14 ?_
    refine g_iconst h 1 (v := 1) (by decide) dX13_term_15 ?_
    have zf1 := b2_some zf
    clear zf; obtain ⟨vq6, Mq7, zq, zf⟩ := zf1
    refine g_callVwi (As := [.int 1]) (rest := []) h ceX13_refuses mlX13_423 imX13_refuses seX13_refuses (by rfl) (kd_lt (by rw [(by decide : kd 103 = 11)]; decide)) (ent_11 (by decide : kd 103 = 11)) rfl rfl ⟨by decide, by decide⟩ ⟨by decide, by decide⟩ rfl dX13_term_16 rfl (Nat.le_of_ble_eq_true rfl) (cmX13_refuses zq) ?_
    obtain rfl := Option.some.inj zf
    exact g_iret h rfl ⟨rfl, rfl⟩ (Nat.le_refl _) (Nat.le_refl _) dX13_term_19

theorem cmX13_term {l : Launch} {w : WX} {M : Mem} {x1 : Int32} {res : (Int32 × Mem)} (zf : fX13_term M x1 = some res) : CM l w yX13_term cX13_term 3 (some .int) { frames := 1, cells := 0, slots := 0, locals := 22 } 0 0 [rv w 103, .int x1] M (Pwi res) := by
  refine CM_of (by decide) (Nat.le_of_ble_eq_true rfl) (fun G hw hl h => ?_)
  subst hw
  exact kX13_term_e0 h zf

-- X13_then
theorem kX13_then_e0 {G : GX} (h : OKm G cX13_then RX13 3 (some .int) { frames := 9, cells := 0, slots := 0, locals := 211 }) {M : Mem} {x1 : Int32} {x2 : Int32} {res : (Int32 × Mem)} (zf : fX13_then M x1 x2 = some res) : GG G (Qm G (Pwi res) 0 0) 0 0 0 [(0, rv G.1 103), (1, .int x1), (2, .int x2)] [] M := by
  unfold fX13_then at zf
  refine g_aload_n h 0 rfl dX13_then_0 ?_
  refine g_iconst h 0 (v := 0) (by decide) dX13_then_1 ?_
  refine pfX13_141 h (by decide : kd 103 = 11) dX13_then_2 ?_
  refine g_nmM zf ?_
  clear zf; intro Mq1 zf
  refine g_aload_n h 0 rfl dX13_then_5 ?_
  refine g_iload_n h 2 rfl dX13_then_6 ?_
  refine g_bipush h 6 (v := 6) (by decide) dX13_then_7 ?_
  have zf1 := b2_some zf
  clear zf; obtain ⟨vq2, Mq3, zq, zf⟩ := zf1
  refine g_callVwi (As := [.int x2, .int 6]) (rest := []) h ceX13_isWhat mlX13_414 imX13_isWhat seX13_isWhat (by rfl) (kd_lt (by rw [(by decide : kd 103 = 11)]; decide)) (ent_11 (by decide : kd 103 = 11)) rfl rfl ⟨by decide, by decide⟩ ⟨by decide, by decide⟩ rfl dX13_then_9 rfl (Nat.le_of_ble_eq_true rfl) (cmX13_isWhat zq) ?_
  refine g_if_eq h 30 (by decide) zf dX13_then_12 ?_ ?_ <;> clear zf <;> intro zf
  · refine g_iconst h 0 (v := 0) (by decide) dX13_then_30 ?_
    obtain rfl := Option.some.inj zf
    exact g_iret h rfl ⟨rfl, rfl⟩ (Nat.le_refl _) (Nat.le_refl _) dX13_then_31
  · refine g_aload_n h 0 rfl dX13_then_15 ?_
    refine g_iload_n h 1 rfl dX13_then_16 ?_
    refine g_iconst h 0 (v := 0) (by decide) dX13_then_17 ?_
    refine g_bipush h 60 (v := 60) (by decide) dX13_then_18 ?_
    have zf1 := bd_some zf
    clear zf; obtain ⟨vq4, zq, zf⟩ := zf1
    refine g_callSri (As := [.int x1, .int 0, .int 60]) (rest := [rv G.1 103]) h ceX13_within mlX13_407 smX13_within rfl rfl ⟨by decide, by decide⟩ ⟨by decide, by decide⟩ rfl dX13_then_20 rfl (Nat.le_of_ble_eq_true rfl) (cmX13_within zq) ?_
    refine g_iconst h 2 (v := 2) (by decide) dX13_then_23 ?_
    have zf1 := b2_some zf
    clear zf; obtain ⟨vq5, Mq6, zq, zf⟩ := zf1
    refine g_callVwi (As := [.int vq4, .int 2]) (rest := []) h ceX13_right mlX13_326 imX13_right seX13_right (by rfl) (kd_lt (by rw [(by decide : kd 103 = 11)]; decide)) (ent_11 (by decide : kd 103 = 11)) rfl rfl ⟨by decide, by decide⟩ ⟨by decide, by decide⟩ rfl dX13_then_24 rfl (Nat.le_of_ble_eq_true rfl) (cmX13_right zq) ?_
    refine g_if_ne h 32 (by decide) zf dX13_then_27 ?_ ?_ <;> clear zf <;> intro zf
    · refine g_aload_n h 0 rfl dX13_then_32 ?_
      refine g_iconst h 0 (v := 0) (by decide) dX13_then_33 ?_
      refine g_bipush h 31 (v := 31) (by decide) dX13_then_34 ?_
      have zf1 := bd_some zf
      clear zf; obtain ⟨Mq7, zq, zf⟩ := zf1
      refine g_callVwv (As := [.int 0, .int 31]) (rest := []) h ceX13_lays0 mlX13_432 imX13_lays0 seX13_lays0 (by rfl) (kd_lt (by rw [(by decide : kd 103 = 11)]; decide)) (ent_11 (by decide : kd 103 = 11)) rfl rfl ⟨by decide, by decide⟩ ⟨by decide, by decide⟩ rfl dX13_then_36 rfl (Nat.le_of_ble_eq_true rfl) (cmX13_lays0 zq) ?_
      refine g_aload_n h 0 rfl dX13_then_39 ?_
      refine g_bipush h 31 (v := 31) (by decide) dX13_then_40 ?_
      refine g_iload_n h 1 rfl dX13_then_42 ?_
      have zf1 := bd_some zf
      clear zf; obtain ⟨Mq8, zq, zf⟩ := zf1
      refine g_callVwv (As := [.int 31, .int x1]) (rest := []) h ceX13_goesYears mlX13_429 imX13_goesYears seX13_goesYears (by rfl) (kd_lt (by rw [(by decide : kd 103 = 11)]; decide)) (ent_11 (by decide : kd 103 = 11)) rfl rfl ⟨by decide, by decide⟩ ⟨by decide, by decide⟩ rfl dX13_then_43 rfl (Nat.le_of_ble_eq_true rfl) (cmX13_goesYears zq) ?_
      refine g_iload_n h 2 rfl dX13_then_46 ?_
      by_cases zx0 : x2 = 0
      · rw [if_pos zx0] at zf
        refine g_tabIn h (off := 37) 84 (by rw [zx0]; decide) (by rw [zx0]; decide) (by rw [zx0]; decide) (by decide) dX13_then_47 ?_
        refine g_aload_n h 0 rfl dX13_then_84 ?_
        refine gfX13_108 h (by decide : kd 103 = 11) dX13_then_85 ?_
        refine g_bipush h 31 (v := 31) (by decide) dX13_then_88 ?_
        refine g_iload_n h 2 rfl dX13_then_90 ?_
        refine g_iadd h dX13_then_91 ?_
        refine g_iald h 186 (by decide : kd 133 = 20) (by decide) zf dX13_then_92 ?_
        clear zf; intro vq9 zf
        obtain rfl := Option.some.inj zf
        exact g_iret h rfl ⟨rfl, rfl⟩ (Nat.le_refl _) (Nat.le_refl _) dX13_then_93
      rw [if_neg zx0] at zf
      have zy0 : x2.toInt ≠ 0 := fun q => zx0 (Int32.toInt_inj.mp (by rw [q]; rfl))
      by_cases zx1 : x2 = 1
      · rw [if_pos zx1] at zf
        refine g_tabIn h (off := 37) 84 (by rw [zx1]; decide) (by rw [zx1]; decide) (by rw [zx1]; decide) (by decide) dX13_then_47 ?_
        refine g_aload_n h 0 rfl dX13_then_84 ?_
        refine gfX13_108 h (by decide : kd 103 = 11) dX13_then_85 ?_
        refine g_bipush h 31 (v := 31) (by decide) dX13_then_88 ?_
        refine g_iload_n h 2 rfl dX13_then_90 ?_
        refine g_iadd h dX13_then_91 ?_
        refine g_iald h 186 (by decide : kd 133 = 20) (by decide) zf dX13_then_92 ?_
        clear zf; intro vq10 zf
        obtain rfl := Option.some.inj zf
        exact g_iret h rfl ⟨rfl, rfl⟩ (Nat.le_refl _) (Nat.le_refl _) dX13_then_93
      rw [if_neg zx1] at zf
      have zy1 : x2.toInt ≠ 1 := fun q => zx1 (Int32.toInt_inj.mp (by rw [q]; rfl))
      by_cases zx2 : x2 = 2
      · rw [if_pos zx2] at zf
        refine g_tabIn h (off := 37) 84 (by rw [zx2]; decide) (by rw [zx2]; decide) (by rw [zx2]; decide) (by decide) dX13_then_47 ?_
        refine g_aload_n h 0 rfl dX13_then_84 ?_
        refine gfX13_108 h (by decide : kd 103 = 11) dX13_then_85 ?_
        refine g_bipush h 31 (v := 31) (by decide) dX13_then_88 ?_
        refine g_iload_n h 2 rfl dX13_then_90 ?_
        refine g_iadd h dX13_then_91 ?_
        refine g_iald h 186 (by decide : kd 133 = 20) (by decide) zf dX13_then_92 ?_
        clear zf; intro vq11 zf
        obtain rfl := Option.some.inj zf
        exact g_iret h rfl ⟨rfl, rfl⟩ (Nat.le_refl _) (Nat.le_refl _) dX13_then_93
      rw [if_neg zx2] at zf
      have zy2 : x2.toInt ≠ 2 := fun q => zx2 (Int32.toInt_inj.mp (by rw [q]; rfl))
      by_cases zx3 : x2 = 3
      · rw [if_pos zx3] at zf
        refine g_tabIn h (off := 47) 94 (by rw [zx3]; decide) (by rw [zx3]; decide) (by rw [zx3]; decide) (by decide) dX13_then_47 ?_
        refine g_aload_n h 0 rfl dX13_then_94 ?_
        refine gfX13_108 h (by decide : kd 103 = 11) dX13_then_95 ?_
        refine g_bipush h 37 (v := 37) (by decide) dX13_then_98 ?_
        refine g_iload_n h 2 rfl dX13_then_100 ?_
        refine g_iadd h dX13_then_101 ?_
        refine g_iconst h 3 (v := 3) (by decide) dX13_then_102 ?_
        refine g_isub h dX13_then_103 ?_
        refine g_iald h 186 (by decide : kd 133 = 20) (by decide) zf dX13_then_104 ?_
        clear zf; intro vq12 zf
        obtain rfl := Option.some.inj zf
        exact g_iret h rfl ⟨rfl, rfl⟩ (Nat.le_refl _) (Nat.le_refl _) dX13_then_105
      rw [if_neg zx3] at zf
      have zy3 : x2.toInt ≠ 3 := fun q => zx3 (Int32.toInt_inj.mp (by rw [q]; rfl))
      by_cases zx4 : x2 = 4
      · rw [if_pos zx4] at zf
        refine g_tabIn h (off := 47) 94 (by rw [zx4]; decide) (by rw [zx4]; decide) (by rw [zx4]; decide) (by decide) dX13_then_47 ?_
        refine g_aload_n h 0 rfl dX13_then_94 ?_
        refine gfX13_108 h (by decide : kd 103 = 11) dX13_then_95 ?_
        refine g_bipush h 37 (v := 37) (by decide) dX13_then_98 ?_
        refine g_iload_n h 2 rfl dX13_then_100 ?_
        refine g_iadd h dX13_then_101 ?_
        refine g_iconst h 3 (v := 3) (by decide) dX13_then_102 ?_
        refine g_isub h dX13_then_103 ?_
        refine g_iald h 186 (by decide : kd 133 = 20) (by decide) zf dX13_then_104 ?_
        clear zf; intro vq13 zf
        obtain rfl := Option.some.inj zf
        exact g_iret h rfl ⟨rfl, rfl⟩ (Nat.le_refl _) (Nat.le_refl _) dX13_then_105
      rw [if_neg zx4] at zf
      have zy4 : x2.toInt ≠ 4 := fun q => zx4 (Int32.toInt_inj.mp (by rw [q]; rfl))
      by_cases zx5 : x2 = 5
      · rw [if_pos zx5] at zf
        refine g_tabIn h (off := 59) 106 (by rw [zx5]; decide) (by rw [zx5]; decide) (by rw [zx5]; decide) (by decide) dX13_then_47 ?_
        refine g_aload_n h 0 rfl dX13_then_106 ?_
        refine gfX13_108 h (by decide : kd 103 = 11) dX13_then_107 ?_
        refine g_bipush h 35 (v := 35) (by decide) dX13_then_110 ?_
        refine g_iald h 186 (by decide : kd 133 = 20) (by decide) zf dX13_then_112 ?_
        clear zf; intro vq14 zf
        obtain rfl := Option.some.inj zf
        exact g_iret h rfl ⟨rfl, rfl⟩ (Nat.le_refl _) (Nat.le_refl _) dX13_then_113
      rw [if_neg zx5] at zf
      have zy5 : x2.toInt ≠ 5 := fun q => zx5 (Int32.toInt_inj.mp (by rw [q]; rfl))
      refine g_tabOut h 114 (by omega) (by decide) dX13_then_47 ?_
      refine g_aload_n h 0 rfl dX13_then_114 ?_
      refine gfX13_108 h (by decide : kd 103 = 11) dX13_then_115 ?_
      refine g_bipush h 39 (v := 39) (by decide) dX13_then_118 ?_
      refine g_iald h 186 (by decide : kd 133 = 20) (by decide) zf dX13_then_120 ?_
      clear zf; intro vq15 zf
      obtain rfl := Option.some.inj zf
      exact g_iret h rfl ⟨rfl, rfl⟩ (Nat.le_refl _) (Nat.le_refl _) dX13_then_121
    · refine g_iconst h 0 (v := 0) (by decide) dX13_then_30 ?_
      obtain rfl := Option.some.inj zf
      exact g_iret h rfl ⟨rfl, rfl⟩ (Nat.le_refl _) (Nat.le_refl _) dX13_then_31

theorem cmX13_then {l : Launch} {w : WX} {M : Mem} {x1 : Int32} {x2 : Int32} {res : (Int32 × Mem)} (zf : fX13_then M x1 x2 = some res) : CM l w yX13_then cX13_then 3 (some .int) { frames := 9, cells := 0, slots := 0, locals := 211 } 0 0 [rv w 103, .int x1, .int x2] M (Pwi res) := by
  refine CM_of (by decide) (Nat.le_of_ble_eq_true rfl) (fun G hw hl h => ?_)
  subst hw
  exact kX13_then_e0 h zf

-- X13_thrown
theorem kX13_thrown_e0 {G : GX} (h : OKm G cX13_thrown RX13 1 (some .int) { frames := 0, cells := 0, slots := 0, locals := 0 }) {M : Mem} {res : Int32} (zf : fX13_thrown M = some res) : GG G (Qm G (Pri res M) 0 0) 0 0 0 [(0, rv G.1 103)] [] M := by
  unfold fX13_thrown at zf
  refine g_aload_n h 0 rfl dX13_thrown_0 ?_
  refine gfX13_141 h (by decide : kd 103 = 11) dX13_thrown_1 ?_
  refine g_nmI zf ?_
  clear zf; intro vq1 zf
  obtain rfl := Option.some.inj zf
  exact g_iret h rfl ⟨rfl, rfl⟩ (Nat.le_refl _) (Nat.le_refl _) dX13_thrown_4

theorem cmX13_thrown {l : Launch} {w : WX} {M : Mem} {res : Int32} (zf : fX13_thrown M = some res) : CM l w yX13_thrown cX13_thrown 1 (some .int) { frames := 0, cells := 0, slots := 0, locals := 0 } 0 0 [rv w 103] M (Pri res M) := by
  refine CM_of (by decide) (Nat.le_of_ble_eq_true rfl) (fun G hw hl h => ?_)
  subst hw
  exact kX13_thrown_e0 h zf

-- X13_undo
theorem kX13_undo_l26 {G : GX} (h : OKm G cX13_undo RX13 2 (some .int) { frames := 0, cells := 0, slots := 0, locals := 0 }) : ∀ (n : Nat) (M : Mem) (x1 : Int32) (res : (Int32 × Mem)), fX13_undo_l26 n M x1 = some res → GG G (Qm G (Pwi res) 0 0) 0 0 26 [(0, rv G.1 103), (1, .int x1)] [] M := by
  intro n
  induction n with
  | zero => intro M x1 res zf; rw [fX13_undo_l26] at zf; cases zf
  | succ n ih =>
    intro M x1 res zf
    rw [fX13_undo_l26] at zf
    refine g_iload_n h 1 rfl dX13_undo_26 ?_
    refine g_bipush h 31 (v := 31) (by decide) dX13_undo_27 ?_
    refine g_ic_ge h 58 (by decide) zf dX13_undo_29 ?_ ?_ <;> clear zf <;> intro zf
    · refine g_aload_n h 0 rfl dX13_undo_58 ?_
      refine gfX13_352 h (by decide : kd 103 = 11) dX13_undo_59 ?_
      refine g_nmI zf ?_
      clear zf; intro vq5 zf
      obtain rfl := Option.some.inj zf
      exact g_iret h rfl ⟨rfl, rfl⟩ (Nat.le_refl _) (Nat.le_refl _) dX13_undo_62
    · refine g_aload_n h 0 rfl dX13_undo_32 ?_
      refine gfX13_108 h (by decide : kd 103 = 11) dX13_undo_33 ?_
      refine g_iload_n h 1 rfl dX13_undo_36 ?_
      refine g_aload_n h 0 rfl dX13_undo_37 ?_
      refine gfX13_111 h (by decide : kd 103 = 11) dX13_undo_38 ?_
      refine g_bipush h 31 (v := 31) (by decide) dX13_undo_41 ?_
      refine g_aload_n h 0 rfl dX13_undo_43 ?_
      refine gfX13_352 h (by decide : kd 103 = 11) dX13_undo_44 ?_
      refine g_nmI zf ?_
      clear zf; intro vq6 zf
      refine g_imul h dX13_undo_47 ?_
      refine g_iload_n h 1 rfl dX13_undo_48 ?_
      refine g_iadd h dX13_undo_49 ?_
      refine g_iald h 1240 (by decide : kd 134 = 20) (by decide) zf dX13_undo_50 ?_
      clear zf; intro vq7 zf
      refine g_iast h 186 (by decide : kd 133 = 20) (by decide) zf dX13_undo_51 ?_
      clear zf; intro Mq8 zf
      refine g_iinc h 1 1 rfl (v := x1 + 1) (congrArg (fun z => x1 + z) (by decide : Int32.ofInt (1) = (1 : Int32))) [(1, .int (x1 + 1)), (0, rv G.1 103)] (by decide) rfl dX13_undo_52 ?_
      refine g_nmV zf ?_
      clear zf; intro vq9 zf
      refine g_goto h 26 (by decide) dX13_undo_55 ?_
      refine g_sub h [1, 0] rfl ?_
      exact ih _ _ _ zf

theorem kX13_undo_e0 {G : GX} (h : OKm G cX13_undo RX13 2 (some .int) { frames := 0, cells := 0, slots := 0, locals := 0 }) {M : Mem} {res : (Int32 × Mem)} (zf : fX13_undo M = some res) : GG G (Qm G (Pwi res) 0 0) 0 0 0 [(0, rv G.1 103)] [] M := by
  unfold fX13_undo at zf
  refine g_aload_n h 0 rfl dX13_undo_0 ?_
  refine g_iconst h 0 (v := 0) (by decide) dX13_undo_1 ?_
  refine pfX13_141 h (by decide : kd 103 = 11) dX13_undo_2 ?_
  refine g_nmM zf ?_
  clear zf; intro Mq1 zf
  refine g_aload_n h 0 rfl dX13_undo_5 ?_
  refine gfX13_352 h (by decide : kd 103 = 11) dX13_undo_6 ?_
  refine g_nmI zf ?_
  clear zf; intro vq2 zf
  refine g_if_ne h 14 (by decide) zf dX13_undo_9 ?_ ?_ <;> clear zf <;> intro zf
  · refine g_aload_n h 0 rfl dX13_undo_14 ?_
    refine g_dup h rfl dX13_undo_15 ?_
    refine gfX13_352 h (by decide : kd 103 = 11) dX13_undo_16 ?_
    refine g_nmI zf ?_
    clear zf; intro vq3 zf
    refine g_iconst h 1 (v := 1) (by decide) dX13_undo_19 ?_
    refine g_isub h dX13_undo_20 ?_
    refine pfX13_352 h (by decide : kd 103 = 11) dX13_undo_21 ?_
    refine g_nmM zf ?_
    clear zf; intro Mq4 zf
    refine g_iconst h 0 (v := 0) (by decide) dX13_undo_24 ?_
    refine g_istore_n h rfl [(1, .int 0), (0, rv G.1 103)] (by decide) rfl dX13_undo_25 ?_
    refine g_sub h [1, 0] rfl ?_
    exact kX13_undo_l26 h _ _ _ _ zf
  · refine g_iconst h (-1) (v := (-1)) (by decide) dX13_undo_12 ?_
    obtain rfl := Option.some.inj zf
    exact g_iret h rfl ⟨rfl, rfl⟩ (Nat.le_refl _) (Nat.le_refl _) dX13_undo_13

theorem cmX13_undo {l : Launch} {w : WX} {M : Mem} {res : (Int32 × Mem)} (zf : fX13_undo M = some res) : CM l w yX13_undo cX13_undo 2 (some .int) { frames := 0, cells := 0, slots := 0, locals := 0 } 0 0 [rv w 103] M (Pwi res) := by
  refine CM_of (by decide) (Nat.le_of_ble_eq_true rfl) (fun G hw hl h => ?_)
  subst hw
  exact kX13_undo_e0 h zf

-- X13_way
theorem kX13_way_b33 {G : GX} (h : OKm G cX13_way RX13 3 (some .int) { frames := 2, cells := 0, slots := 0, locals := 43 }) {M : Mem} {x1 : Int32} {x2 : Int32} {s0 : Int32} {res : (Int32 × Mem)} (zf : fX13_way_b33 M x1 x2 s0 = some res) : GG G (Qm G (Pwi res) 0 0) 0 0 33 [(0, rv G.1 103), (1, .int x1), (2, .int x2)] [.int s0, rv G.1 103] M := by
  unfold fX13_way_b33 at zf
  refine g_iconst h 1 (v := 1) (by decide) dX13_way_33 ?_
  have zf1 := b2_some zf
  clear zf; obtain ⟨vq4, Mq5, zq, zf⟩ := zf1
  refine g_callVwi (As := [.int s0, .int 1]) (rest := []) h ceX13_right mlX13_326 imX13_right seX13_right (by rfl) (kd_lt (by rw [(by decide : kd 103 = 11)]; decide)) (ent_11 (by decide : kd 103 = 11)) rfl rfl ⟨by decide, by decide⟩ ⟨by decide, by decide⟩ rfl dX13_way_34 rfl (Nat.le_of_ble_eq_true rfl) (cmX13_right zq) ?_
  refine g_if_eq h 57 (by decide) zf dX13_way_37 ?_ ?_ <;> clear zf <;> intro zf
  · refine g_iconst h 0 (v := 0) (by decide) dX13_way_57 ?_
    obtain rfl := Option.some.inj zf
    exact g_iret h rfl ⟨rfl, rfl⟩ (Nat.le_refl _) (Nat.le_refl _) dX13_way_58
  · refine g_aload_n h 0 rfl dX13_way_40 ?_
    refine gfX13_108 h (by decide : kd 103 = 11) dX13_way_41 ?_
    refine g_bipush h 13 (v := 13) (by decide) dX13_way_44 ?_
    refine g_bipush h 6 (v := 6) (by decide) dX13_way_46 ?_
    refine g_iload_n h 1 rfl dX13_way_48 ?_
    refine g_imul h dX13_way_49 ?_
    refine g_iadd h dX13_way_50 ?_
    refine g_iload_n h 2 rfl dX13_way_51 ?_
    refine g_iadd h dX13_way_52 ?_
    refine g_iald h 186 (by decide : kd 133 = 20) (by decide) zf dX13_way_53 ?_
    clear zf; intro vq6 zf
    refine g_goto h 58 (by decide) dX13_way_54 ?_
    obtain rfl := Option.some.inj zf
    exact g_iret h rfl ⟨rfl, rfl⟩ (Nat.le_refl _) (Nat.le_refl _) dX13_way_58

theorem kX13_way_b32 {G : GX} (h : OKm G cX13_way RX13 3 (some .int) { frames := 2, cells := 0, slots := 0, locals := 43 }) {M : Mem} {x1 : Int32} {x2 : Int32} {res : (Int32 × Mem)} (zf : fX13_way_b32 M x1 x2 = some res) : GG G (Qm G (Pwi res) 0 0) 0 0 32 [(0, rv G.1 103), (1, .int x1), (2, .int x2)] [rv G.1 103] M := by
  unfold fX13_way_b32 at zf
  refine g_iconst h 0 (v := 0) (by decide) dX13_way_32 ?_
  refine g_sub h [0, 1, 2] rfl ?_
  exact kX13_way_b33 h zf

theorem kX13_way_e0 {G : GX} (h : OKm G cX13_way RX13 3 (some .int) { frames := 2, cells := 0, slots := 0, locals := 43 }) {M : Mem} {x1 : Int32} {x2 : Int32} {res : (Int32 × Mem)} (zf : fX13_way M x1 x2 = some res) : GG G (Qm G (Pwi res) 0 0) 0 0 0 [(0, rv G.1 103), (1, .int x1), (2, .int x2)] [] M := by
  unfold fX13_way at zf
  refine g_aload_n h 0 rfl dX13_way_0 ?_
  refine g_iconst h 0 (v := 0) (by decide) dX13_way_1 ?_
  refine pfX13_141 h (by decide : kd 103 = 11) dX13_way_2 ?_
  refine g_nmM zf ?_
  clear zf; intro Mq1 zf
  refine g_aload_n h 0 rfl dX13_way_5 ?_
  refine g_iload_n h 1 rfl dX13_way_6 ?_
  have zf1 := b2_some zf
  clear zf; obtain ⟨vq2, Mq3, zq, zf⟩ := zf1
  refine g_callVwi (As := [.int x1]) (rest := []) h ceX13_isBrother mlX13_417 imX13_isBrother seX13_isBrother (by rfl) (kd_lt (by rw [(by decide : kd 103 = 11)]; decide)) (ent_11 (by decide : kd 103 = 11)) rfl rfl ⟨by decide, by decide⟩ ⟨by decide, by decide⟩ rfl dX13_way_7 rfl (Nat.le_of_ble_eq_true rfl) (cmX13_isBrother zq) ?_
  refine g_if_eq h 57 (by decide) zf dX13_way_10 ?_ ?_ <;> clear zf <;> intro zf
  · refine g_iconst h 0 (v := 0) (by decide) dX13_way_57 ?_
    obtain rfl := Option.some.inj zf
    exact g_iret h rfl ⟨rfl, rfl⟩ (Nat.le_refl _) (Nat.le_refl _) dX13_way_58
  · refine g_aload_n h 0 rfl dX13_way_13 ?_
    refine g_iload_n h 2 rfl dX13_way_14 ?_
    refine g_if_lt h 32 (by decide) zf dX13_way_15 ?_ ?_ <;> clear zf <;> intro zf
    · refine g_sub h [0, 1, 2] rfl ?_
      exact kX13_way_b32 h zf
    · refine g_iload_n h 2 rfl dX13_way_18 ?_
      refine g_aload_n h 0 rfl dX13_way_19 ?_
      refine gfX13_29 h (by decide : kd 103 = 11) dX13_way_20 ?_
      refine g_iload_n h 1 rfl dX13_way_23 ?_
      refine g_iald h 2 (by decide : kd 108 = 20) (by decide) zf dX13_way_24 ?_
      clear zf; intro vq7 zf
      refine g_ic_ge h 32 (by decide) zf dX13_way_25 ?_ ?_ <;> clear zf <;> intro zf
      · refine g_sub h [0, 1, 2] rfl ?_
        exact kX13_way_b32 h zf
      · refine g_iconst h 1 (v := 1) (by decide) dX13_way_28 ?_
        refine g_goto h 33 (by decide) dX13_way_29 ?_
        refine g_sub h [0, 1, 2] rfl ?_
        exact kX13_way_b33 h zf

theorem cmX13_way {l : Launch} {w : WX} {M : Mem} {x1 : Int32} {x2 : Int32} {res : (Int32 × Mem)} (zf : fX13_way M x1 x2 = some res) : CM l w yX13_way cX13_way 3 (some .int) { frames := 2, cells := 0, slots := 0, locals := 43 } 0 0 [rv w 103, .int x1, .int x2] M (Pwi res) := by
  refine CM_of (by decide) (Nat.le_of_ble_eq_true rfl) (fun G hw hl h => ?_)
  subst hw
  exact kX13_way_e0 h zf

-- X13_wins
theorem kX13_wins_b35 {G : GX} (h : OKm G cX13_wins RX13 3 (some .boolean) { frames := 1, cells := 0, slots := 0, locals := 22 }) {M : Mem} {x1 : Int32} {x2 : Int32} {s0 : Int32} {res : (Int32 × Mem)} (zf : fX13_wins_b35 M x1 x2 s0 = some res) : GG G (Qm G (Pwi res) 0 0) 0 0 35 [(0, rv G.1 103), (1, .int x1), (2, .int x2)] [.int s0, rv G.1 103] M := by
  unfold fX13_wins_b35 at zf
  refine g_iconst h 1 (v := 1) (by decide) dX13_wins_35 ?_
  have zf1 := b2_some zf
  clear zf; obtain ⟨vq2, Mq3, zq, zf⟩ := zf1
  refine g_callVwi (As := [.int s0, .int 1]) (rest := []) h ceX13_right mlX13_326 imX13_right seX13_right (by rfl) (kd_lt (by rw [(by decide : kd 103 = 11)]; decide)) (ent_11 (by decide : kd 103 = 11)) rfl rfl ⟨by decide, by decide⟩ ⟨by decide, by decide⟩ rfl dX13_wins_36 rfl (Nat.le_of_ble_eq_true rfl) (cmX13_right zq) ?_
  refine g_if_eq h 55 (by decide) zf dX13_wins_39 ?_ ?_ <;> clear zf <;> intro zf
  · refine g_iconst h 0 (v := 0) (by decide) dX13_wins_55 ?_
    obtain rfl := Option.some.inj zf
    exact g_zret h (by decide) rfl ⟨rfl, rfl⟩ (Nat.le_refl _) (Nat.le_refl _) dX13_wins_56
  · refine g_aload_n h 0 rfl dX13_wins_42 ?_
    refine g_iload_n h 1 rfl dX13_wins_43 ?_
    refine g_iload_n h 2 rfl dX13_wins_44 ?_
    have zf1 := bd_some zf
    clear zf; obtain ⟨vq4, zq, zf⟩ := zf1
    refine g_callVri (As := [.int x1, .int x2]) (rest := []) h ceX13_isWin mlX13_459 imX13_isWin seX13_isWin (by rfl) (kd_lt (by rw [(by decide : kd 103 = 11)]; decide)) (ent_11 (by decide : kd 103 = 11)) rfl rfl ⟨by decide, by decide⟩ ⟨by decide, by decide⟩ rfl dX13_wins_45 rfl (Nat.le_of_ble_eq_true rfl) (cmX13_isWin zq) ?_
    refine g_if_eq h 55 (by decide) zf dX13_wins_48 ?_ ?_ <;> clear zf <;> intro zf
    · refine g_iconst h 0 (v := 0) (by decide) dX13_wins_55 ?_
      obtain rfl := Option.some.inj zf
      exact g_zret h (by decide) rfl ⟨rfl, rfl⟩ (Nat.le_refl _) (Nat.le_refl _) dX13_wins_56
    · refine g_iconst h 1 (v := 1) (by decide) dX13_wins_51 ?_
      refine g_goto h 56 (by decide) dX13_wins_52 ?_
      obtain rfl := Option.some.inj zf
      exact g_zret h (by decide) rfl ⟨rfl, rfl⟩ (Nat.le_refl _) (Nat.le_refl _) dX13_wins_56

theorem kX13_wins_b34 {G : GX} (h : OKm G cX13_wins RX13 3 (some .boolean) { frames := 1, cells := 0, slots := 0, locals := 22 }) {M : Mem} {x1 : Int32} {x2 : Int32} {res : (Int32 × Mem)} (zf : fX13_wins_b34 M x1 x2 = some res) : GG G (Qm G (Pwi res) 0 0) 0 0 34 [(0, rv G.1 103), (1, .int x1), (2, .int x2)] [rv G.1 103] M := by
  unfold fX13_wins_b34 at zf
  refine g_iconst h 0 (v := 0) (by decide) dX13_wins_34 ?_
  refine g_sub h [0, 1, 2] rfl ?_
  exact kX13_wins_b35 h zf

theorem kX13_wins_e0 {G : GX} (h : OKm G cX13_wins RX13 3 (some .boolean) { frames := 1, cells := 0, slots := 0, locals := 22 }) {M : Mem} {x1 : Int32} {x2 : Int32} {res : (Int32 × Mem)} (zf : fX13_wins M x1 x2 = some res) : GG G (Qm G (Pwi res) 0 0) 0 0 0 [(0, rv G.1 103), (1, .int x1), (2, .int x2)] [] M := by
  unfold fX13_wins at zf
  refine g_aload_n h 0 rfl dX13_wins_0 ?_
  refine g_iconst h 0 (v := 0) (by decide) dX13_wins_1 ?_
  refine pfX13_141 h (by decide : kd 103 = 11) dX13_wins_2 ?_
  refine g_nmM zf ?_
  clear zf; intro Mq1 zf
  refine g_aload_n h 0 rfl dX13_wins_5 ?_
  refine g_iload_n h 1 rfl dX13_wins_6 ?_
  refine g_if_lt h 34 (by decide) zf dX13_wins_7 ?_ ?_ <;> clear zf <;> intro zf
  · refine g_sub h [0, 1, 2] rfl ?_
    exact kX13_wins_b34 h zf
  · refine g_iload_n h 1 rfl dX13_wins_10 ?_
    refine g_aload_n h 0 rfl dX13_wins_11 ?_
    refine gfX13_342 h (by decide : kd 103 = 11) dX13_wins_12 ?_
    refine g_nmI zf ?_
    clear zf; intro vq5 zf
    refine g_ic_ge h 34 (by decide) zf dX13_wins_15 ?_ ?_ <;> clear zf <;> intro zf
    · refine g_sub h [0, 1, 2] rfl ?_
      exact kX13_wins_b34 h zf
    · refine g_iload_n h 2 rfl dX13_wins_18 ?_
      refine g_if_lt h 34 (by decide) zf dX13_wins_19 ?_ ?_ <;> clear zf <;> intro zf
      · refine g_sub h [0, 1, 2] rfl ?_
        exact kX13_wins_b34 h zf
      · refine g_iload_n h 2 rfl dX13_wins_22 ?_
        refine g_aload_n h 0 rfl dX13_wins_23 ?_
        refine gfX13_345 h (by decide : kd 103 = 11) dX13_wins_24 ?_
        refine g_nmI zf ?_
        clear zf; intro vq6 zf
        refine g_ic_ge h 34 (by decide) zf dX13_wins_27 ?_ ?_ <;> clear zf <;> intro zf
        · refine g_sub h [0, 1, 2] rfl ?_
          exact kX13_wins_b34 h zf
        · refine g_iconst h 1 (v := 1) (by decide) dX13_wins_30 ?_
          refine g_goto h 35 (by decide) dX13_wins_31 ?_
          refine g_sub h [0, 1, 2] rfl ?_
          exact kX13_wins_b35 h zf

theorem cmX13_wins {l : Launch} {w : WX} {M : Mem} {x1 : Int32} {x2 : Int32} {res : (Int32 × Mem)} (zf : fX13_wins M x1 x2 = some res) : CM l w yX13_wins cX13_wins 3 (some .boolean) { frames := 1, cells := 0, slots := 0, locals := 22 } 0 0 [rv w 103, .int x1, .int x2] M (Pwi res) := by
  refine CM_of (by decide) (Nat.le_of_ble_eq_true rfl) (fun G hw hl h => ?_)
  subst hw
  exact kX13_wins_e0 h zf

-- X13_years
theorem kX13_years_b29 {G : GX} (h : OKm G cX13_years RX13 2 (some .int) { frames := 9, cells := 0, slots := 0, locals := 211 }) {M : Mem} {res : (Int32 × Mem)} (zf : fX13_years_b29 M = some res) : GG G (Qm G (Pwi res) 0 0) 0 0 29 [(0, rv G.1 103)] [] M := by
  unfold fX13_years_b29 at zf
  refine g_aload_n h 0 rfl dX13_years_29 ?_
  refine g_iconst h 1 (v := 1) (by decide) dX13_years_30 ?_
  have zf1 := b2_some zf
  clear zf; obtain ⟨vq3, Mq4, zq, zf⟩ := zf1
  refine g_callVwi (As := [.int 1]) (rest := []) h ceX13_refuses mlX13_423 imX13_refuses seX13_refuses (by rfl) (kd_lt (by rw [(by decide : kd 103 = 11)]; decide)) (ent_11 (by decide : kd 103 = 11)) rfl rfl ⟨by decide, by decide⟩ ⟨by decide, by decide⟩ rfl dX13_years_31 rfl (Nat.le_of_ble_eq_true rfl) (cmX13_refuses zq) ?_
  obtain rfl := Option.some.inj zf
  exact g_iret h rfl ⟨rfl, rfl⟩ (Nat.le_refl _) (Nat.le_refl _) dX13_years_34

theorem kX13_years_e0 {G : GX} (h : OKm G cX13_years RX13 2 (some .int) { frames := 9, cells := 0, slots := 0, locals := 211 }) {M : Mem} {x1 : Int32} {res : (Int32 × Mem)} (zf : fX13_years M x1 = some res) : GG G (Qm G (Pwi res) 0 0) 0 0 0 [(0, rv G.1 103), (1, .int x1)] [] M := by
  unfold fX13_years at zf
  refine g_aload_n h 0 rfl dX13_years_0 ?_
  refine g_iconst h 0 (v := 0) (by decide) dX13_years_1 ?_
  refine pfX13_141 h (by decide : kd 103 = 11) dX13_years_2 ?_
  refine g_nmM zf ?_
  clear zf; intro Mq1 zf
  refine g_iload_n h 1 rfl dX13_years_5 ?_
  refine g_iconst h 1 (v := 1) (by decide) dX13_years_6 ?_
  refine g_bipush h 20 (v := 20) (by decide) dX13_years_7 ?_
  have zf1 := bd_some zf
  clear zf; obtain ⟨vq2, zq, zf⟩ := zf1
  refine g_callSri (As := [.int x1, .int 1, .int 20]) (rest := []) h ceX13_within mlX13_407 smX13_within rfl rfl ⟨by decide, by decide⟩ ⟨by decide, by decide⟩ rfl dX13_years_9 rfl (Nat.le_of_ble_eq_true rfl) (cmX13_within zq) ?_
  refine g_if_eq h 29 (by decide) zf dX13_years_12 ?_ ?_ <;> clear zf <;> intro zf
  · refine g_sub h [0] rfl ?_
    exact kX13_years_b29 h zf
  · refine g_aload_n h 0 rfl dX13_years_15 ?_
    refine gfX13_108 h (by decide : kd 103 = 11) dX13_years_16 ?_
    refine g_iconst h 3 (v := 3) (by decide) dX13_years_19 ?_
    refine g_iald h 186 (by decide : kd 133 = 20) (by decide) zf dX13_years_20 ?_
    clear zf; intro vq5 zf
    refine g_iload_n h 1 rfl dX13_years_21 ?_
    refine g_iadd h dX13_years_22 ?_
    refine g_sipush h 999 (v := 999) (by decide) dX13_years_23 ?_
    refine g_ic_le h 35 (by decide) zf dX13_years_26 ?_ ?_ <;> clear zf <;> intro zf
    · refine g_aload_n h 0 rfl dX13_years_35 ?_
      have zf1 := bd_some zf
      clear zf; obtain ⟨Mq6, zq, zf⟩ := zf1
      refine g_callVwv (As := []) (rest := []) h ceX13_keeps mlX13_426 imX13_keeps seX13_keeps (by rfl) (kd_lt (by rw [(by decide : kd 103 = 11)]; decide)) (ent_11 (by decide : kd 103 = 11)) rfl rfl ⟨by decide, by decide⟩ ⟨by decide, by decide⟩ rfl dX13_years_36 rfl (Nat.le_of_ble_eq_true rfl) (cmX13_keeps zq) ?_
      refine g_aload_n h 0 rfl dX13_years_39 ?_
      refine g_iconst h 0 (v := 0) (by decide) dX13_years_40 ?_
      refine g_iload_n h 1 rfl dX13_years_41 ?_
      have zf1 := bd_some zf
      clear zf; obtain ⟨Mq7, zq, zf⟩ := zf1
      refine g_callVwv (As := [.int 0, .int x1]) (rest := []) h ceX13_goesYears mlX13_429 imX13_goesYears seX13_goesYears (by rfl) (kd_lt (by rw [(by decide : kd 103 = 11)]; decide)) (ent_11 (by decide : kd 103 = 11)) rfl rfl ⟨by decide, by decide⟩ ⟨by decide, by decide⟩ rfl dX13_years_42 rfl (Nat.le_of_ble_eq_true rfl) (cmX13_goesYears zq) ?_
      refine g_aload_n h 0 rfl dX13_years_45 ?_
      refine gfX13_108 h (by decide : kd 103 = 11) dX13_years_46 ?_
      refine g_iconst h 3 (v := 3) (by decide) dX13_years_49 ?_
      refine g_iald h 186 (by decide : kd 133 = 20) (by decide) zf dX13_years_50 ?_
      clear zf; intro vq8 zf
      obtain rfl := Option.some.inj zf
      exact g_iret h rfl ⟨rfl, rfl⟩ (Nat.le_refl _) (Nat.le_refl _) dX13_years_51
    · refine g_sub h [0] rfl ?_
      exact kX13_years_b29 h zf

theorem cmX13_years {l : Launch} {w : WX} {M : Mem} {x1 : Int32} {res : (Int32 × Mem)} (zf : fX13_years M x1 = some res) : CM l w yX13_years cX13_years 2 (some .int) { frames := 9, cells := 0, slots := 0, locals := 211 } 0 0 [rv w 103, .int x1] M (Pwi res) := by
  refine CM_of (by decide) (Nat.le_of_ble_eq_true rfl) (fun G hw hl h => ?_)
  subst hw
  exact kX13_years_e0 h zf

