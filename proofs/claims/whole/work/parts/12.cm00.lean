-- X6_refuse
theorem kX6_refuse_e0 {G : GX} (h : OKm G cX6_refuse RX6 2 (some .boolean) { frames := 0, cells := 0, slots := 0, locals := 0 }) {M : Mem} {x1 : Int32} {res : (Int32 × Mem)} (zf : fX6_refuse M x1 = some res) : GG G (Qm G (Pwi res) 0 0) 0 0 0 [(0, rv G.1 3), (1, .int x1)] [] M := by
  unfold fX6_refuse at zf
  refine g_aload_n h 0 rfl dX6_refuse_0 ?_
  refine g_iload_n h 1 rfl dX6_refuse_1 ?_
  refine pfX6_25 h (by decide : kd 3 = 5) dX6_refuse_2 ?_
  refine g_nmM zf ?_
  clear zf; intro Mq1 zf
  refine g_aload_n h 0 rfl dX6_refuse_5 ?_
  refine g_aload_n h 0 rfl dX6_refuse_6 ?_
  refine gfX6_44 h (by decide : kd 3 = 5) dX6_refuse_7 ?_
  refine gfX6_72 h (by decide : kd 27 = 9) dX6_refuse_10 ?_
  refine g_nmI zf ?_
  clear zf; intro vq2 zf
  refine pfX6_29 h (by decide : kd 3 = 5) dX6_refuse_13 ?_
  refine g_nmM zf ?_
  clear zf; intro Mq3 zf
  refine g_iconst h 0 (v := 0) (by decide) dX6_refuse_16 ?_
  obtain rfl := Option.some.inj zf
  exact g_zret h (by decide) rfl ⟨rfl, rfl⟩ (Nat.le_refl _) (Nat.le_refl _) dX6_refuse_17

theorem cmX6_refuse {l : Launch} {w : WX} {M : Mem} {x1 : Int32} {res : (Int32 × Mem)} (zf : fX6_refuse M x1 = some res) : CM l w yX6_refuse cX6_refuse 2 (some .boolean) { frames := 0, cells := 0, slots := 0, locals := 0 } 0 0 [rv w 3, .int x1] M (Pwi res) := by
  refine CM_of (by decide) (Nat.le_of_ble_eq_true rfl) (fun G hw hl h => ?_)
  subst hw
  exact kX6_refuse_e0 h zf

-- X10_isLetter
theorem kX10_isLetter_e0 {G : GX} {M : Mem} (h : OKm G cX10_isLetter RX10 1 (some .boolean) { frames := 0, cells := 0, slots := 0, locals := 0 }) {x0 : Int32} {res : Int32} (zf : fX10_isLetter x0 = some res) : GG G (Qm G (Pri res M) 0 0) 0 0 0 [(0, .int x0)] [] M := by
  unfold fX10_isLetter at zf
  refine g_iload_n h 0 rfl dX10_isLetter_0 ?_
  refine g_bipush h 97 (v := 97) (by decide) dX10_isLetter_1 ?_
  refine g_ic_lt h 16 (by decide) zf dX10_isLetter_3 ?_ ?_ <;> clear zf <;> intro zf
  · refine g_iconst h 0 (v := 0) (by decide) dX10_isLetter_16 ?_
    obtain rfl := Option.some.inj zf
    exact g_zret h (by decide) rfl ⟨rfl, rfl⟩ (Nat.le_refl _) (Nat.le_refl _) dX10_isLetter_17
  · refine g_iload_n h 0 rfl dX10_isLetter_6 ?_
    refine g_bipush h 122 (v := 122) (by decide) dX10_isLetter_7 ?_
    refine g_ic_gt h 16 (by decide) zf dX10_isLetter_9 ?_ ?_ <;> clear zf <;> intro zf
    · refine g_iconst h 0 (v := 0) (by decide) dX10_isLetter_16 ?_
      obtain rfl := Option.some.inj zf
      exact g_zret h (by decide) rfl ⟨rfl, rfl⟩ (Nat.le_refl _) (Nat.le_refl _) dX10_isLetter_17
    · refine g_iconst h 1 (v := 1) (by decide) dX10_isLetter_12 ?_
      refine g_goto h 17 (by decide) dX10_isLetter_13 ?_
      obtain rfl := Option.some.inj zf
      exact g_zret h (by decide) rfl ⟨rfl, rfl⟩ (Nat.le_refl _) (Nat.le_refl _) dX10_isLetter_17

theorem cmX10_isLetter {l : Launch} {w : WX} {M : Mem} {x0 : Int32} {res : Int32} (zf : fX10_isLetter x0 = some res) : CM l w yX10_isLetter cX10_isLetter 1 (some .boolean) { frames := 0, cells := 0, slots := 0, locals := 0 } 0 0 [.int x0] M (Pri res M) := by
  refine CM_of (by decide) (Nat.le_of_ble_eq_true rfl) (fun G hw hl h => ?_)
  subst hw
  exact kX10_isLetter_e0 h zf

-- X10_readWord
theorem kX10_readWord_b132 {G : GX} (h : OKm G cX10_readWord RX10 5 none { frames := 6, cells := 0, slots := 0, locals := 160 }) {a56 : Mem → Int32 → Int32 → Option Mem} (zh56 : ∀ (M : Mem) (x1 : Int32) (x2 : Int32) (res : Mem), a56 M x1 x2 = some res → GG G (Qm G (Pwv res) 0 0) 0 0 56 [(0, rv G.1 27), (1, .int x1), (2, .int x2)] [] M) {M : Mem} {x1 : Int32} {x2 : Int32} {res : Mem} (zf : fX10_readWord_b132 a56 M x1 x2 = some res) : GG G (Qm G (Pwv res) 0 0) 0 0 132 [(0, rv G.1 27), (1, .int x1), (2, .int x2)] [] M := by
  unfold fX10_readWord_b132 at zf
  refine g_iinc h 2 2 rfl (v := x2 + 1) (congrArg (fun z => x2 + z) (by decide : Int32.ofInt (1) = (1 : Int32))) [(2, .int (x2 + 1)), (0, rv G.1 27), (1, .int x1)] (by decide) rfl dX10_readWord_132 ?_
  refine g_nmV zf ?_
  clear zf; intro vq8 zf
  refine g_goto h 56 (by decide) dX10_readWord_135 ?_
  refine g_sub h [1, 2, 0] rfl ?_
  exact zh56 _ _ _ _ zf

theorem kX10_readWord_b117 {G : GX} (h : OKm G cX10_readWord RX10 5 none { frames := 6, cells := 0, slots := 0, locals := 160 }) {a56 : Mem → Int32 → Int32 → Option Mem} (zh56 : ∀ (M : Mem) (x1 : Int32) (x2 : Int32) (res : Mem), a56 M x1 x2 = some res → GG G (Qm G (Pwv res) 0 0) 0 0 56 [(0, rv G.1 27), (1, .int x1), (2, .int x2)] [] M) {M : Mem} {x1 : Int32} {x2 : Int32} {x4 : Int32} {res : Mem} (zf : fX10_readWord_b117 a56 M x1 x2 x4 = some res) : GG G (Qm G (Pwv res) 0 0) 0 0 117 [(0, rv G.1 27), (1, .int x1), (2, .int x2), (4, .int x4)] [] M := by
  unfold fX10_readWord_b117 at zf
  refine g_iload h 3 rfl dX10_readWord_117 ?_
  refine g_iload_n h 1 rfl dX10_readWord_119 ?_
  refine g_ic_ne h 132 (by decide) zf dX10_readWord_120 ?_ ?_ <;> clear zf <;> intro zf
  · refine g_sub h [0, 1, 2] rfl ?_
    exact kX10_readWord_b132 h zh56 zf
  · refine g_aload_n h 0 rfl dX10_readWord_123 ?_
    refine g_gsW h dX10_readWord_124 ?_
    refine g_iload_n h 2 rfl dX10_readWord_127 ?_
    refine g_wald h zf dX10_readWord_128 ?_
    clear zf; intro oq9 zf zk_oq9
    have zf1 := pre_ck zf
    clear zf; obtain ⟨zk_oq9, zf⟩ := zf1
    refine pfX10_31 h (by decide : kd 27 = 9) dX10_readWord_129 ?_
    refine g_nmM zf ?_
    clear zf; intro Mq10 zf
    refine g_sub h [0, 1, 2] rfl ?_
    exact kX10_readWord_b132 h zh56 zf

theorem kX10_readWord_l76 {G : GX} (h : OKm G cX10_readWord RX10 5 none { frames := 6, cells := 0, slots := 0, locals := 160 }) {a56 : Mem → Int32 → Int32 → Option Mem} (zh56 : ∀ (M : Mem) (x1 : Int32) (x2 : Int32) (res : Mem), a56 M x1 x2 = some res → GG G (Qm G (Pwv res) 0 0) 0 0 56 [(0, rv G.1 27), (1, .int x1), (2, .int x2)] [] M) : ∀ (n : Nat) (M : Mem) (x1 : Int32) (x2 : Int32) (x3 : Nat) (x4 : Int32) (res : Mem), fX10_readWord_l76 a56 n M x1 x2 x3 x4 = some res → GG G (Qm G (Pwv res) 0 0) 0 0 76 [(0, rv G.1 27), (1, .int x1), (2, .int x2), (3, rv G.1 x3), (4, .int x4)] [] M := by
  intro n
  induction n with
  | zero => intro M x1 x2 x3 x4 res zf; rw [fX10_readWord_l76] at zf; cases zf
  | succ n ih =>
    intro M x1 x2 x3 x4 res zf
    rw [fX10_readWord_l76] at zf
    have zf1 := pre_ck zf
    clear zf; obtain ⟨zk_x3, zf⟩ := zf1
    refine g_iload h 4 rfl dX10_readWord_76 ?_
    refine g_iload_n h 1 rfl dX10_readWord_78 ?_
    refine g_ic_ge h 117 (by decide) zf dX10_readWord_79 ?_ ?_ <;> clear zf <;> intro zf
    · refine g_sub h [0, 1, 2, 4] rfl ?_
      exact kX10_readWord_b117 h zh56 zf
    · refine g_iload_n h 1 rfl dX10_readWord_82 ?_
      refine g_aload_n h 3 rfl dX10_readWord_83 ?_
      have zf1 := bd_some zf
      clear zf; obtain ⟨vq11, zq, zf⟩ := zf1
      refine g_callTri (As := []) (rest := [.int x1]) h ceJ0_length_8abf5 mlX10_72 rfl imJ0_length_8abf5 seJ0_length_8abf5 zk_x3 rfl rfl ⟨by decide, by decide⟩ ⟨Nat.le_of_ble_eq_true rfl, Nat.le_of_ble_eq_true rfl⟩ rfl dX10_readWord_84 rfl (Nat.le_of_ble_eq_true rfl) (cmJ0_length zq) ?_
      refine g_ic_ne h 117 (by decide) zf dX10_readWord_87 ?_ ?_ <;> clear zf <;> intro zf
      · refine g_sub h [0, 1, 2, 4] rfl ?_
        exact kX10_readWord_b117 h zh56 zf
      · refine g_aload_n h 3 rfl dX10_readWord_90 ?_
        refine g_iload h 4 rfl dX10_readWord_91 ?_
        have zf1 := bd_some zf
        clear zf; obtain ⟨vq12, zq, zf⟩ := zf1
        refine g_callTri (As := [.int x4]) (rest := []) h ceJ0_charAt_5068e mlX10_77 rfl imJ0_charAt_5068e seJ0_charAt_5068e zk_x3 rfl rfl ⟨by decide, by decide⟩ ⟨Nat.le_of_ble_eq_true rfl, Nat.le_of_ble_eq_true rfl⟩ rfl dX10_readWord_93 rfl (Nat.le_of_ble_eq_true rfl) (cmJ0_charAt zq) ?_
        refine g_aload_n h 0 rfl dX10_readWord_96 ?_
        refine gfX10_34 h (by decide : kd 27 = 9) dX10_readWord_97 ?_
        refine g_aload_n h 0 rfl dX10_readWord_100 ?_
        refine gfX10_16 h (by decide : kd 27 = 9) dX10_readWord_101 ?_
        refine g_nmI zf ?_
        clear zf; intro vq13 zf
        refine g_iload h 4 rfl dX10_readWord_104 ?_
        refine g_iadd h dX10_readWord_106 ?_
        refine g_bald h 700 (by decide : kd 1 = 21) (by decide) zf dX10_readWord_107 ?_
        clear zf; intro vq14 zf
        refine g_ic_ne h 117 (by decide) zf dX10_readWord_108 ?_ ?_ <;> clear zf <;> intro zf
        · refine g_sub h [0, 1, 2, 4] rfl ?_
          exact kX10_readWord_b117 h zh56 zf
        · refine g_iinc h 4 4 rfl (v := x4 + 1) (congrArg (fun z => x4 + z) (by decide : Int32.ofInt (1) = (1 : Int32))) [(4, .int (x4 + 1)), (0, rv G.1 27), (1, .int x1), (2, .int x2), (3, rv G.1 x3)] (by decide) rfl dX10_readWord_111 ?_
          refine g_nmV zf ?_
          clear zf; intro vq15 zf
          refine g_goto h 76 (by decide) dX10_readWord_114 ?_
          refine g_sub h [1, 2, 3, 4, 0] rfl ?_
          exact ih _ _ _ _ _ _ zf

theorem kX10_readWord_l56 {G : GX} (h : OKm G cX10_readWord RX10 5 none { frames := 6, cells := 0, slots := 0, locals := 160 }) : ∀ (n : Nat) (M : Mem) (x1 : Int32) (x2 : Int32) (res : Mem), fX10_readWord_l56 n M x1 x2 = some res → GG G (Qm G (Pwv res) 0 0) 0 0 56 [(0, rv G.1 27), (1, .int x1), (2, .int x2)] [] M := by
  intro n
  induction n with
  | zero => intro M x1 x2 res zf; rw [fX10_readWord_l56] at zf; cases zf
  | succ n ih =>
    intro M x1 x2 res zf
    rw [fX10_readWord_l56] at zf
    refine g_iload_n h 2 rfl dX10_readWord_56 ?_
    refine g_gsW h dX10_readWord_57 ?_
    refine g_wlen h dX10_readWord_60 ?_
    refine g_ic_ge h 138 (by decide) zf dX10_readWord_61 ?_ ?_ <;> clear zf <;> intro zf
    · obtain rfl := Option.some.inj zf
      exact g_vret h rfl ⟨rfl, rfl⟩ (Nat.le_refl _) (Nat.le_refl _) dX10_readWord_138
    · refine g_gsW h dX10_readWord_64 ?_
      refine g_iload_n h 2 rfl dX10_readWord_67 ?_
      refine g_wald h zf dX10_readWord_68 ?_
      clear zf; intro oq7 zf zk_oq7
      have zf1 := pre_ck zf
      clear zf; obtain ⟨zk_oq7, zf⟩ := zf1
      refine g_getTx h zk_oq7 flX10_69 dX10_readWord_69 ?_
      refine g_astore_n h rfl [(3, rv G.1 (oq7 + 100)), (0, rv G.1 27), (1, .int x1), (2, .int x2)] (by decide) rfl dX10_readWord_72 ?_
      refine g_iconst h 0 (v := 0) (by decide) dX10_readWord_73 ?_
      refine g_istore h [(4, .int 0), (3, rv G.1 (oq7 + 100)), (0, rv G.1 27), (1, .int x1), (2, .int x2)] (by decide) rfl dX10_readWord_74 ?_
      refine g_sub h [2, 3, 4, 1, 0] rfl ?_
      exact kX10_readWord_l76 h ih _ _ _ _ _ _ _ zf

theorem kX10_readWord_b39 {G : GX} (h : OKm G cX10_readWord RX10 5 none { frames := 6, cells := 0, slots := 0, locals := 160 }) {M : Mem} {res : Mem} (zf : fX10_readWord_b39 M = some res) : GG G (Qm G (Pwv res) 0 0) 0 0 39 [(0, rv G.1 27)] [] M := by
  unfold fX10_readWord_b39 at zf
  refine g_aload_n h 0 rfl dX10_readWord_39 ?_
  refine g_iconst h 1 (v := 1) (by decide) dX10_readWord_40 ?_
  refine pfX10_19 h (by decide : kd 27 = 9) dX10_readWord_41 ?_
  refine g_nmM zf ?_
  clear zf; intro Mq3 zf
  refine g_aload_n h 0 rfl dX10_readWord_44 ?_
  refine gfX10_13 h (by decide : kd 27 = 9) dX10_readWord_45 ?_
  refine g_nmI zf ?_
  clear zf; intro vq4 zf
  refine g_aload_n h 0 rfl dX10_readWord_48 ?_
  refine gfX10_16 h (by decide : kd 27 = 9) dX10_readWord_49 ?_
  refine g_nmI zf ?_
  clear zf; intro vq5 zf
  refine g_isub h dX10_readWord_52 ?_
  refine g_nmI zf ?_
  clear zf; intro vq6 zf
  refine g_istore_n h rfl [(1, .int vq6), (0, rv G.1 27)] (by decide) rfl dX10_readWord_53 ?_
  refine g_iconst h 0 (v := 0) (by decide) dX10_readWord_54 ?_
  refine g_istore_n h rfl [(2, .int 0), (1, .int vq6), (0, rv G.1 27)] (by decide) rfl dX10_readWord_55 ?_
  refine g_sub h [2, 1, 0] rfl ?_
  exact kX10_readWord_l56 h _ _ _ _ _ zf

theorem kX10_readWord_l0 {G : GX} (h : OKm G cX10_readWord RX10 5 none { frames := 6, cells := 0, slots := 0, locals := 160 }) : ∀ (n : Nat) (M : Mem) (res : Mem), fX10_readWord_l0 n M = some res → GG G (Qm G (Pwv res) 0 0) 0 0 0 [(0, rv G.1 27)] [] M := by
  intro n
  induction n with
  | zero => intro M res zf; rw [fX10_readWord_l0] at zf; cases zf
  | succ n ih =>
    intro M res zf
    rw [fX10_readWord_l0] at zf
    refine g_aload_n h 0 rfl dX10_readWord_0 ?_
    refine gfX10_13 h (by decide : kd 27 = 9) dX10_readWord_1 ?_
    refine g_nmI zf ?_
    clear zf; intro vq1 zf
    refine g_aload_n h 0 rfl dX10_readWord_4 ?_
    refine gfX10_7 h (by decide : kd 27 = 9) dX10_readWord_5 ?_
    refine g_nmI zf ?_
    clear zf; intro vq2 zf
    refine g_ic_ge h 39 (by decide) zf dX10_readWord_8 ?_ ?_ <;> clear zf <;> intro zf
    · refine g_sub h [0] rfl ?_
      exact kX10_readWord_b39 h zf
    · refine g_aload_n h 0 rfl dX10_readWord_11 ?_
      refine gfX10_34 h (by decide : kd 27 = 9) dX10_readWord_12 ?_
      refine g_aload_n h 0 rfl dX10_readWord_15 ?_
      refine gfX10_13 h (by decide : kd 27 = 9) dX10_readWord_16 ?_
      refine g_nmI zf ?_
      clear zf; intro vq16 zf
      refine g_bald h 700 (by decide : kd 1 = 21) (by decide) zf dX10_readWord_19 ?_
      clear zf; intro vq17 zf
      have zf1 := bd_some zf
      clear zf; obtain ⟨vq18, zq, zf⟩ := zf1
      refine g_callSri (As := [.int vq17]) (rest := []) h ceX10_isLetter mlX10_47 smX10_isLetter rfl rfl ⟨by decide, by decide⟩ ⟨by decide, by decide⟩ rfl dX10_readWord_20 rfl (Nat.le_of_ble_eq_true rfl) (cmX10_isLetter zq) ?_
      refine g_if_eq h 39 (by decide) zf dX10_readWord_23 ?_ ?_ <;> clear zf <;> intro zf
      · refine g_sub h [0] rfl ?_
        exact kX10_readWord_b39 h zf
      · refine g_aload_n h 0 rfl dX10_readWord_26 ?_
        refine g_dup h rfl dX10_readWord_27 ?_
        refine gfX10_13 h (by decide : kd 27 = 9) dX10_readWord_28 ?_
        refine g_nmI zf ?_
        clear zf; intro vq19 zf
        refine g_iconst h 1 (v := 1) (by decide) dX10_readWord_31 ?_
        refine g_iadd h dX10_readWord_32 ?_
        refine pfX10_13 h (by decide : kd 27 = 9) dX10_readWord_33 ?_
        refine g_nmM zf ?_
        clear zf; intro Mq20 zf
        refine g_goto h 0 (by decide) dX10_readWord_36 ?_
        refine g_sub h [0] rfl ?_
        exact ih _ _ zf

theorem kX10_readWord_e0 {G : GX} (h : OKm G cX10_readWord RX10 5 none { frames := 6, cells := 0, slots := 0, locals := 160 }) {M : Mem} {res : Mem} (zf : fX10_readWord M = some res) : GG G (Qm G (Pwv res) 0 0) 0 0 0 [(0, rv G.1 27)] [] M := by
  unfold fX10_readWord at zf
  refine g_sub h [0] rfl ?_
  exact kX10_readWord_l0 h _ _ _ zf

theorem cmX10_readWord {l : Launch} {w : WX} {M : Mem} {res : Mem} (zf : fX10_readWord M = some res) : CM l w yX10_readWord cX10_readWord 5 none { frames := 6, cells := 0, slots := 0, locals := 160 } 0 0 [rv w 27] M (Pwv res) := by
  refine CM_of (by decide) (Nat.le_of_ble_eq_true rfl) (fun G hw hl h => ?_)
  subst hw
  exact kX10_readWord_e0 h zf

-- X10_isDigit
theorem kX10_isDigit_e0 {G : GX} {M : Mem} (h : OKm G cX10_isDigit RX10 1 (some .boolean) { frames := 0, cells := 0, slots := 0, locals := 0 }) {x0 : Int32} {res : Int32} (zf : fX10_isDigit x0 = some res) : GG G (Qm G (Pri res M) 0 0) 0 0 0 [(0, .int x0)] [] M := by
  unfold fX10_isDigit at zf
  refine g_iload_n h 0 rfl dX10_isDigit_0 ?_
  refine g_bipush h 48 (v := 48) (by decide) dX10_isDigit_1 ?_
  refine g_ic_lt h 16 (by decide) zf dX10_isDigit_3 ?_ ?_ <;> clear zf <;> intro zf
  · refine g_iconst h 0 (v := 0) (by decide) dX10_isDigit_16 ?_
    obtain rfl := Option.some.inj zf
    exact g_zret h (by decide) rfl ⟨rfl, rfl⟩ (Nat.le_refl _) (Nat.le_refl _) dX10_isDigit_17
  · refine g_iload_n h 0 rfl dX10_isDigit_6 ?_
    refine g_bipush h 57 (v := 57) (by decide) dX10_isDigit_7 ?_
    refine g_ic_gt h 16 (by decide) zf dX10_isDigit_9 ?_ ?_ <;> clear zf <;> intro zf
    · refine g_iconst h 0 (v := 0) (by decide) dX10_isDigit_16 ?_
      obtain rfl := Option.some.inj zf
      exact g_zret h (by decide) rfl ⟨rfl, rfl⟩ (Nat.le_refl _) (Nat.le_refl _) dX10_isDigit_17
    · refine g_iconst h 1 (v := 1) (by decide) dX10_isDigit_12 ?_
      refine g_goto h 17 (by decide) dX10_isDigit_13 ?_
      obtain rfl := Option.some.inj zf
      exact g_zret h (by decide) rfl ⟨rfl, rfl⟩ (Nat.le_refl _) (Nat.le_refl _) dX10_isDigit_17

theorem cmX10_isDigit {l : Launch} {w : WX} {M : Mem} {x0 : Int32} {res : Int32} (zf : fX10_isDigit x0 = some res) : CM l w yX10_isDigit cX10_isDigit 1 (some .boolean) { frames := 0, cells := 0, slots := 0, locals := 0 } 0 0 [.int x0] M (Pri res M) := by
  refine CM_of (by decide) (Nat.le_of_ble_eq_true rfl) (fun G hw hl h => ?_)
  subst hw
  exact kX10_isDigit_e0 h zf

-- X10_readNumber
theorem kX10_readNumber_b76 {G : GX} (h : OKm G cX10_readNumber RX10 1 none { frames := 1, cells := 0, slots := 0, locals := 20 }) {M : Mem} {res : Mem} (zf : fX10_readNumber_b76 M = some res) : GG G (Qm G (Pwv res) 0 0) 0 0 76 [(0, rv G.1 27)] [] M := by
  unfold fX10_readNumber_b76 at zf
  refine g_aload_n h 0 rfl dX10_readNumber_76 ?_
  refine g_iconst h 2 (v := 2) (by decide) dX10_readNumber_77 ?_
  refine pfX10_19 h (by decide : kd 27 = 9) dX10_readNumber_78 ?_
  refine g_nmM zf ?_
  clear zf; intro Mq3 zf
  refine g_aload_n h 0 rfl dX10_readNumber_81 ?_
  refine gfX10_13 h (by decide : kd 27 = 9) dX10_readNumber_82 ?_
  refine g_nmI zf ?_
  clear zf; intro vq4 zf
  refine g_aload_n h 0 rfl dX10_readNumber_85 ?_
  refine gfX10_16 h (by decide : kd 27 = 9) dX10_readNumber_86 ?_
  refine g_nmI zf ?_
  clear zf; intro vq5 zf
  refine g_isub h dX10_readNumber_89 ?_
  refine g_iconst h 4 (v := 4) (by decide) dX10_readNumber_90 ?_
  refine g_ic_le h 101 (by decide) zf dX10_readNumber_91 ?_ ?_ <;> clear zf <;> intro zf
  · obtain rfl := Option.some.inj zf
    exact g_vret h rfl ⟨rfl, rfl⟩ (Nat.le_refl _) (Nat.le_refl _) dX10_readNumber_101
  · refine g_aload_n h 0 rfl dX10_readNumber_94 ?_
    refine g_sipush h 10000 (v := 10000) (by decide) dX10_readNumber_95 ?_
    refine pfX10_22 h (by decide : kd 27 = 9) dX10_readNumber_98 ?_
    refine g_nmM zf ?_
    clear zf; intro Mq6 zf
    obtain rfl := Option.some.inj zf
    exact g_vret h rfl ⟨rfl, rfl⟩ (Nat.le_refl _) (Nat.le_refl _) dX10_readNumber_101

theorem kX10_readNumber_b63 {G : GX} (h : OKm G cX10_readNumber RX10 1 none { frames := 1, cells := 0, slots := 0, locals := 20 }) {a0 : Mem → Option Mem} (zh0 : ∀ (M : Mem) (res : Mem), a0 M = some res → GG G (Qm G (Pwv res) 0 0) 0 0 0 [(0, rv G.1 27)] [] M) {M : Mem} {res : Mem} (zf : fX10_readNumber_b63 a0 M = some res) : GG G (Qm G (Pwv res) 0 0) 0 0 63 [(0, rv G.1 27)] [] M := by
  unfold fX10_readNumber_b63 at zf
  refine g_aload_n h 0 rfl dX10_readNumber_63 ?_
  refine g_dup h rfl dX10_readNumber_64 ?_
  refine gfX10_13 h (by decide : kd 27 = 9) dX10_readNumber_65 ?_
  refine g_nmI zf ?_
  clear zf; intro vq12 zf
  refine g_iconst h 1 (v := 1) (by decide) dX10_readNumber_68 ?_
  refine g_iadd h dX10_readNumber_69 ?_
  refine pfX10_13 h (by decide : kd 27 = 9) dX10_readNumber_70 ?_
  refine g_nmM zf ?_
  clear zf; intro Mq13 zf
  refine g_goto h 0 (by decide) dX10_readNumber_73 ?_
  refine g_sub h [0] rfl ?_
  exact zh0 _ _ zf

theorem kX10_readNumber_l0 {G : GX} (h : OKm G cX10_readNumber RX10 1 none { frames := 1, cells := 0, slots := 0, locals := 20 }) : ∀ (n : Nat) (M : Mem) (res : Mem), fX10_readNumber_l0 n M = some res → GG G (Qm G (Pwv res) 0 0) 0 0 0 [(0, rv G.1 27)] [] M := by
  intro n
  induction n with
  | zero => intro M res zf; rw [fX10_readNumber_l0] at zf; cases zf
  | succ n ih =>
    intro M res zf
    rw [fX10_readNumber_l0] at zf
    refine g_aload_n h 0 rfl dX10_readNumber_0 ?_
    refine gfX10_13 h (by decide : kd 27 = 9) dX10_readNumber_1 ?_
    refine g_nmI zf ?_
    clear zf; intro vq1 zf
    refine g_aload_n h 0 rfl dX10_readNumber_4 ?_
    refine gfX10_7 h (by decide : kd 27 = 9) dX10_readNumber_5 ?_
    refine g_nmI zf ?_
    clear zf; intro vq2 zf
    refine g_ic_ge h 76 (by decide) zf dX10_readNumber_8 ?_ ?_ <;> clear zf <;> intro zf
    · refine g_sub h [0] rfl ?_
      exact kX10_readNumber_b76 h zf
    · refine g_aload_n h 0 rfl dX10_readNumber_11 ?_
      refine gfX10_34 h (by decide : kd 27 = 9) dX10_readNumber_12 ?_
      refine g_aload_n h 0 rfl dX10_readNumber_15 ?_
      refine gfX10_13 h (by decide : kd 27 = 9) dX10_readNumber_16 ?_
      refine g_nmI zf ?_
      clear zf; intro vq7 zf
      refine g_bald h 700 (by decide : kd 1 = 21) (by decide) zf dX10_readNumber_19 ?_
      clear zf; intro vq8 zf
      have zf1 := bd_some zf
      clear zf; obtain ⟨vq9, zq, zf⟩ := zf1
      refine g_callSri (As := [.int vq8]) (rest := []) h ceX10_isDigit mlX10_54 smX10_isDigit rfl rfl ⟨by decide, by decide⟩ ⟨by decide, by decide⟩ rfl dX10_readNumber_20 rfl (Nat.le_of_ble_eq_true rfl) (cmX10_isDigit zq) ?_
      refine g_if_eq h 76 (by decide) zf dX10_readNumber_23 ?_ ?_ <;> clear zf <;> intro zf
      · refine g_sub h [0] rfl ?_
        exact kX10_readNumber_b76 h zf
      · refine g_aload_n h 0 rfl dX10_readNumber_26 ?_
        refine gfX10_13 h (by decide : kd 27 = 9) dX10_readNumber_27 ?_
        refine g_nmI zf ?_
        clear zf; intro vq10 zf
        refine g_aload_n h 0 rfl dX10_readNumber_30 ?_
        refine gfX10_16 h (by decide : kd 27 = 9) dX10_readNumber_31 ?_
        refine g_nmI zf ?_
        clear zf; intro vq11 zf
        refine g_isub h dX10_readNumber_34 ?_
        refine g_iconst h 4 (v := 4) (by decide) dX10_readNumber_35 ?_
        refine g_ic_ge h 63 (by decide) zf dX10_readNumber_36 ?_ ?_ <;> clear zf <;> intro zf
        · refine g_sub h [0] rfl ?_
          exact kX10_readNumber_b63 h ih zf
        · refine g_aload_n h 0 rfl dX10_readNumber_39 ?_
          refine g_aload_n h 0 rfl dX10_readNumber_40 ?_
          refine gfX10_22 h (by decide : kd 27 = 9) dX10_readNumber_41 ?_
          refine g_nmI zf ?_
          clear zf; intro vq14 zf
          refine g_bipush h 10 (v := 10) (by decide) dX10_readNumber_44 ?_
          refine g_imul h dX10_readNumber_46 ?_
          refine g_aload_n h 0 rfl dX10_readNumber_47 ?_
          refine gfX10_34 h (by decide : kd 27 = 9) dX10_readNumber_48 ?_
          refine g_aload_n h 0 rfl dX10_readNumber_51 ?_
          refine gfX10_13 h (by decide : kd 27 = 9) dX10_readNumber_52 ?_
          refine g_nmI zf ?_
          clear zf; intro vq15 zf
          refine g_bald h 700 (by decide : kd 1 = 21) (by decide) zf dX10_readNumber_55 ?_
          clear zf; intro vq16 zf
          refine g_iadd h dX10_readNumber_56 ?_
          refine g_bipush h 48 (v := 48) (by decide) dX10_readNumber_57 ?_
          refine g_isub h dX10_readNumber_59 ?_
          refine pfX10_22 h (by decide : kd 27 = 9) dX10_readNumber_60 ?_
          refine g_nmM zf ?_
          clear zf; intro Mq17 zf
          refine g_sub h [0] rfl ?_
          exact kX10_readNumber_b63 h ih zf

theorem kX10_readNumber_e0 {G : GX} (h : OKm G cX10_readNumber RX10 1 none { frames := 1, cells := 0, slots := 0, locals := 20 }) {M : Mem} {res : Mem} (zf : fX10_readNumber M = some res) : GG G (Qm G (Pwv res) 0 0) 0 0 0 [(0, rv G.1 27)] [] M := by
  unfold fX10_readNumber at zf
  refine g_sub h [0] rfl ?_
  exact kX10_readNumber_l0 h _ _ _ zf

theorem cmX10_readNumber {l : Launch} {w : WX} {M : Mem} {res : Mem} (zf : fX10_readNumber M = some res) : CM l w yX10_readNumber cX10_readNumber 1 none { frames := 1, cells := 0, slots := 0, locals := 20 } 0 0 [rv w 27] M (Pwv res) := by
  refine CM_of (by decide) (Nat.le_of_ble_eq_true rfl) (fun G hw hl h => ?_)
  subst hw
  exact kX10_readNumber_e0 h zf

-- X10_isSign
theorem kX10_isSign_e0 {G : GX} {M : Mem} (h : OKm G cX10_isSign RX10 1 (some .boolean) { frames := 0, cells := 0, slots := 0, locals := 0 }) {x0 : Int32} {res : Int32} (zf : fX10_isSign x0 = some res) : GG G (Qm G (Pri res M) 0 0) 0 0 0 [(0, .int x0)] [] M := by
  unfold fX10_isSign at zf
  refine g_iload_n h 0 rfl dX10_isSign_0 ?_
  refine g_bipush h 59 (v := 59) (by decide) dX10_isSign_1 ?_
  refine g_ic_eq h 42 (by decide) zf dX10_isSign_3 ?_ ?_ <;> clear zf <;> intro zf
  · refine g_iconst h 1 (v := 1) (by decide) dX10_isSign_42 ?_
    refine g_goto h 47 (by decide) dX10_isSign_43 ?_
    obtain rfl := Option.some.inj zf
    exact g_zret h (by decide) rfl ⟨rfl, rfl⟩ (Nat.le_refl _) (Nat.le_refl _) dX10_isSign_47
  · refine g_iload_n h 0 rfl dX10_isSign_6 ?_
    refine g_bipush h 60 (v := 60) (by decide) dX10_isSign_7 ?_
    refine g_ic_eq h 42 (by decide) zf dX10_isSign_9 ?_ ?_ <;> clear zf <;> intro zf
    · refine g_iconst h 1 (v := 1) (by decide) dX10_isSign_42 ?_
      refine g_goto h 47 (by decide) dX10_isSign_43 ?_
      obtain rfl := Option.some.inj zf
      exact g_zret h (by decide) rfl ⟨rfl, rfl⟩ (Nat.le_refl _) (Nat.le_refl _) dX10_isSign_47
    · refine g_iload_n h 0 rfl dX10_isSign_12 ?_
      refine g_bipush h 61 (v := 61) (by decide) dX10_isSign_13 ?_
      refine g_ic_eq h 42 (by decide) zf dX10_isSign_15 ?_ ?_ <;> clear zf <;> intro zf
      · refine g_iconst h 1 (v := 1) (by decide) dX10_isSign_42 ?_
        refine g_goto h 47 (by decide) dX10_isSign_43 ?_
        obtain rfl := Option.some.inj zf
        exact g_zret h (by decide) rfl ⟨rfl, rfl⟩ (Nat.le_refl _) (Nat.le_refl _) dX10_isSign_47
      · refine g_iload_n h 0 rfl dX10_isSign_18 ?_
        refine g_bipush h 47 (v := 47) (by decide) dX10_isSign_19 ?_
        refine g_ic_eq h 42 (by decide) zf dX10_isSign_21 ?_ ?_ <;> clear zf <;> intro zf
        · refine g_iconst h 1 (v := 1) (by decide) dX10_isSign_42 ?_
          refine g_goto h 47 (by decide) dX10_isSign_43 ?_
          obtain rfl := Option.some.inj zf
          exact g_zret h (by decide) rfl ⟨rfl, rfl⟩ (Nat.le_refl _) (Nat.le_refl _) dX10_isSign_47
        · refine g_iload_n h 0 rfl dX10_isSign_24 ?_
          refine g_bipush h 40 (v := 40) (by decide) dX10_isSign_25 ?_
          refine g_ic_lt h 46 (by decide) zf dX10_isSign_27 ?_ ?_ <;> clear zf <;> intro zf
          · refine g_iconst h 0 (v := 0) (by decide) dX10_isSign_46 ?_
            obtain rfl := Option.some.inj zf
            exact g_zret h (by decide) rfl ⟨rfl, rfl⟩ (Nat.le_refl _) (Nat.le_refl _) dX10_isSign_47
          · refine g_iload_n h 0 rfl dX10_isSign_30 ?_
            refine g_bipush h 45 (v := 45) (by decide) dX10_isSign_31 ?_
            refine g_ic_gt h 46 (by decide) zf dX10_isSign_33 ?_ ?_ <;> clear zf <;> intro zf
            · refine g_iconst h 0 (v := 0) (by decide) dX10_isSign_46 ?_
              obtain rfl := Option.some.inj zf
              exact g_zret h (by decide) rfl ⟨rfl, rfl⟩ (Nat.le_refl _) (Nat.le_refl _) dX10_isSign_47
            · refine g_iload_n h 0 rfl dX10_isSign_36 ?_
              refine g_bipush h 44 (v := 44) (by decide) dX10_isSign_37 ?_
              refine g_ic_eq h 46 (by decide) zf dX10_isSign_39 ?_ ?_ <;> clear zf <;> intro zf
              · refine g_iconst h 0 (v := 0) (by decide) dX10_isSign_46 ?_
                obtain rfl := Option.some.inj zf
                exact g_zret h (by decide) rfl ⟨rfl, rfl⟩ (Nat.le_refl _) (Nat.le_refl _) dX10_isSign_47
              · refine g_iconst h 1 (v := 1) (by decide) dX10_isSign_42 ?_
                refine g_goto h 47 (by decide) dX10_isSign_43 ?_
                obtain rfl := Option.some.inj zf
                exact g_zret h (by decide) rfl ⟨rfl, rfl⟩ (Nat.le_refl _) (Nat.le_refl _) dX10_isSign_47

theorem cmX10_isSign {l : Launch} {w : WX} {M : Mem} {x0 : Int32} {res : Int32} (zf : fX10_isSign x0 = some res) : CM l w yX10_isSign cX10_isSign 1 (some .boolean) { frames := 0, cells := 0, slots := 0, locals := 0 } 0 0 [.int x0] M (Pri res M) := by
  refine CM_of (by decide) (Nat.le_of_ble_eq_true rfl) (fun G hw hl h => ?_)
  subst hw
  exact kX10_isSign_e0 h zf

-- X10_step
theorem kX10_step_b172 {G : GX} (h : OKm G cX10_step RX10 1 none { frames := 7, cells := 0, slots := 0, locals := 184 }) {M : Mem} {s0 : Int32} {res : Mem} (zf : fX10_step_b172 M s0 = some res) : GG G (Qm G (Pwv res) 0 0) 0 0 172 [(0, rv G.1 27)] [.int s0, rv G.1 27] M := by
  unfold fX10_step_b172 at zf
  refine pfX10_19 h (by decide : kd 27 = 9) dX10_step_172 ?_
  refine g_nmM zf ?_
  clear zf; intro Mq20 zf
  refine g_aload_n h 0 rfl dX10_step_175 ?_
  refine g_dup h rfl dX10_step_176 ?_
  refine gfX10_13 h (by decide : kd 27 = 9) dX10_step_177 ?_
  refine g_nmI zf ?_
  clear zf; intro vq21 zf
  refine g_iconst h 1 (v := 1) (by decide) dX10_step_180 ?_
  refine g_iadd h dX10_step_181 ?_
  refine pfX10_13 h (by decide : kd 27 = 9) dX10_step_182 ?_
  refine g_nmM zf ?_
  clear zf; intro Mq22 zf
  obtain rfl := Option.some.inj zf
  exact g_vret h rfl ⟨rfl, rfl⟩ (Nat.le_refl _) (Nat.le_refl _) dX10_step_185

theorem kX10_step_b60 {G : GX} (h : OKm G cX10_step RX10 1 none { frames := 7, cells := 0, slots := 0, locals := 184 }) {M : Mem} {res : Mem} (zf : fX10_step_b60 M = some res) : GG G (Qm G (Pwv res) 0 0) 0 0 60 [(0, rv G.1 27)] [] M := by
  unfold fX10_step_b60 at zf
  refine g_aload_n h 0 rfl dX10_step_60 ?_
  refine g_gsE h 22 (by decide) flX10_25 dX10_step_61 ?_
  change GG G _ _ _ _ _ (rv G.1 1022 :: _) _
  refine pfX10_31 h (by decide : kd 27 = 9) dX10_step_64 ?_
  refine g_nmM zf ?_
  clear zf; intro Mq5 zf
  refine g_aload_n h 0 rfl dX10_step_67 ?_
  refine g_iconst h 0 (v := 0) (by decide) dX10_step_68 ?_
  refine pfX10_22 h (by decide : kd 27 = 9) dX10_step_69 ?_
  refine g_nmM zf ?_
  clear zf; intro Mq6 zf
  refine g_aload_n h 0 rfl dX10_step_72 ?_
  refine g_aload_n h 0 rfl dX10_step_73 ?_
  refine gfX10_16 h (by decide : kd 27 = 9) dX10_step_74 ?_
  refine g_nmI zf ?_
  clear zf; intro vq7 zf
  refine pfX10_13 h (by decide : kd 27 = 9) dX10_step_77 ?_
  refine g_nmM zf ?_
  clear zf; intro Mq8 zf
  refine g_aload_n h 0 rfl dX10_step_80 ?_
  refine gfX10_16 h (by decide : kd 27 = 9) dX10_step_81 ?_
  refine g_nmI zf ?_
  clear zf; intro vq9 zf
  refine g_aload_n h 0 rfl dX10_step_84 ?_
  refine gfX10_7 h (by decide : kd 27 = 9) dX10_step_85 ?_
  refine g_nmI zf ?_
  clear zf; intro vq10 zf
  refine g_ic_lt h 99 (by decide) zf dX10_step_88 ?_ ?_ <;> clear zf <;> intro zf
  · refine g_aload_n h 0 rfl dX10_step_99 ?_
    refine gfX10_34 h (by decide : kd 27 = 9) dX10_step_100 ?_
    refine g_aload_n h 0 rfl dX10_step_103 ?_
    refine gfX10_16 h (by decide : kd 27 = 9) dX10_step_104 ?_
    refine g_nmI zf ?_
    clear zf; intro vq11 zf
    refine g_bald h 700 (by decide : kd 1 = 21) (by decide) zf dX10_step_107 ?_
    clear zf; intro vq12 zf
    have zf1 := bd_some zf
    clear zf; obtain ⟨vq13, zq, zf⟩ := zf1
    refine g_callSri (As := [.int vq12]) (rest := []) h ceX10_isLetter mlX10_47 smX10_isLetter rfl rfl ⟨by decide, by decide⟩ ⟨by decide, by decide⟩ rfl dX10_step_108 rfl (Nat.le_of_ble_eq_true rfl) (cmX10_isLetter zq) ?_
    refine g_if_eq h 121 (by decide) zf dX10_step_111 ?_ ?_ <;> clear zf <;> intro zf
    · refine g_aload_n h 0 rfl dX10_step_121 ?_
      refine gfX10_34 h (by decide : kd 27 = 9) dX10_step_122 ?_
      refine g_aload_n h 0 rfl dX10_step_125 ?_
      refine gfX10_16 h (by decide : kd 27 = 9) dX10_step_126 ?_
      refine g_nmI zf ?_
      clear zf; intro vq14 zf
      refine g_bald h 700 (by decide : kd 1 = 21) (by decide) zf dX10_step_129 ?_
      clear zf; intro vq15 zf
      have zf1 := bd_some zf
      clear zf; obtain ⟨vq16, zq, zf⟩ := zf1
      refine g_callSri (As := [.int vq15]) (rest := []) h ceX10_isDigit mlX10_54 smX10_isDigit rfl rfl ⟨by decide, by decide⟩ ⟨by decide, by decide⟩ rfl dX10_step_130 rfl (Nat.le_of_ble_eq_true rfl) (cmX10_isDigit zq) ?_
      refine g_if_eq h 143 (by decide) zf dX10_step_133 ?_ ?_ <;> clear zf <;> intro zf
      · refine g_aload_n h 0 rfl dX10_step_143 ?_
        refine g_aload_n h 0 rfl dX10_step_144 ?_
        refine gfX10_34 h (by decide : kd 27 = 9) dX10_step_145 ?_
        refine g_aload_n h 0 rfl dX10_step_148 ?_
        refine gfX10_16 h (by decide : kd 27 = 9) dX10_step_149 ?_
        refine g_nmI zf ?_
        clear zf; intro vq17 zf
        refine g_bald h 700 (by decide : kd 1 = 21) (by decide) zf dX10_step_152 ?_
        clear zf; intro vq18 zf
        have zf1 := bd_some zf
        clear zf; obtain ⟨vq19, zq, zf⟩ := zf1
        refine g_callSri (As := [.int vq18]) (rest := [rv G.1 27]) h ceX10_isSign mlX10_60 smX10_isSign rfl rfl ⟨by decide, by decide⟩ ⟨by decide, by decide⟩ rfl dX10_step_153 rfl (Nat.le_of_ble_eq_true rfl) (cmX10_isSign zq) ?_
        refine g_if_eq h 171 (by decide) zf dX10_step_156 ?_ ?_ <;> clear zf <;> intro zf
        · refine g_iconst h 3 (v := 3) (by decide) dX10_step_171 ?_
          refine g_sub h [0] rfl ?_
          exact kX10_step_b172 h zf
        · refine g_aload_n h 0 rfl dX10_step_159 ?_
          refine gfX10_34 h (by decide : kd 27 = 9) dX10_step_160 ?_
          refine g_aload_n h 0 rfl dX10_step_163 ?_
          refine gfX10_16 h (by decide : kd 27 = 9) dX10_step_164 ?_
          refine g_nmI zf ?_
          clear zf; intro vq23 zf
          refine g_bald h 700 (by decide : kd 1 = 21) (by decide) zf dX10_step_167 ?_
          clear zf; intro vq24 zf
          refine g_goto h 172 (by decide) dX10_step_168 ?_
          refine g_sub h [0] rfl ?_
          exact kX10_step_b172 h zf
      · refine g_aload_n h 0 rfl dX10_step_136 ?_
        have zf1 := bd_some zf
        clear zf; obtain ⟨Mq25, zq, zf⟩ := zf1
        refine g_callVwv (As := []) (rest := []) h ceX10_readNumber mlX10_57 imX10_readNumber seX10_readNumber (by rfl) (kd_lt (by rw [(by decide : kd 27 = 9)]; decide)) (ent_9 (by decide : kd 27 = 9)) rfl rfl ⟨by decide, by decide⟩ ⟨by decide, by decide⟩ rfl dX10_step_137 rfl (Nat.le_of_ble_eq_true rfl) (cmX10_readNumber zq) ?_
        refine g_goto h 185 (by decide) dX10_step_140 ?_
        obtain rfl := Option.some.inj zf
        exact g_vret h rfl ⟨rfl, rfl⟩ (Nat.le_refl _) (Nat.le_refl _) dX10_step_185
    · refine g_aload_n h 0 rfl dX10_step_114 ?_
      have zf1 := bd_some zf
      clear zf; obtain ⟨Mq26, zq, zf⟩ := zf1
      refine g_callVwv (As := []) (rest := []) h ceX10_readWord mlX10_51 imX10_readWord seX10_readWord (by rfl) (kd_lt (by rw [(by decide : kd 27 = 9)]; decide)) (ent_9 (by decide : kd 27 = 9)) rfl rfl ⟨by decide, by decide⟩ ⟨by decide, by decide⟩ rfl dX10_step_115 rfl (Nat.le_of_ble_eq_true rfl) (cmX10_readWord zq) ?_
      refine g_goto h 185 (by decide) dX10_step_118 ?_
      obtain rfl := Option.some.inj zf
      exact g_vret h rfl ⟨rfl, rfl⟩ (Nat.le_refl _) (Nat.le_refl _) dX10_step_185
  · refine g_aload_n h 0 rfl dX10_step_91 ?_
    refine g_iconst h 0 (v := 0) (by decide) dX10_step_92 ?_
    refine pfX10_19 h (by decide : kd 27 = 9) dX10_step_93 ?_
    refine g_nmM zf ?_
    clear zf; intro Mq27 zf
    refine g_goto h 185 (by decide) dX10_step_96 ?_
    obtain rfl := Option.some.inj zf
    exact g_vret h rfl ⟨rfl, rfl⟩ (Nat.le_refl _) (Nat.le_refl _) dX10_step_185

theorem kX10_step_b47 {G : GX} (h : OKm G cX10_step RX10 1 none { frames := 7, cells := 0, slots := 0, locals := 184 }) {a8 : Mem → Option Mem} (zh8 : ∀ (M : Mem) (res : Mem), a8 M = some res → GG G (Qm G (Pwv res) 0 0) 0 0 8 [(0, rv G.1 27)] [] M) {M : Mem} {res : Mem} (zf : fX10_step_b47 a8 M = some res) : GG G (Qm G (Pwv res) 0 0) 0 0 47 [(0, rv G.1 27)] [] M := by
  unfold fX10_step_b47 at zf
  refine g_aload_n h 0 rfl dX10_step_47 ?_
  refine g_dup h rfl dX10_step_48 ?_
  refine gfX10_16 h (by decide : kd 27 = 9) dX10_step_49 ?_
  refine g_nmI zf ?_
  clear zf; intro vq30 zf
  refine g_iconst h 1 (v := 1) (by decide) dX10_step_52 ?_
  refine g_iadd h dX10_step_53 ?_
  refine pfX10_16 h (by decide : kd 27 = 9) dX10_step_54 ?_
  refine g_nmM zf ?_
  clear zf; intro Mq31 zf
  refine g_goto h 8 (by decide) dX10_step_57 ?_
  refine g_sub h [0] rfl ?_
  exact zh8 _ _ zf

theorem kX10_step_l8 {G : GX} (h : OKm G cX10_step RX10 1 none { frames := 7, cells := 0, slots := 0, locals := 184 }) : ∀ (n : Nat) (M : Mem) (res : Mem), fX10_step_l8 n M = some res → GG G (Qm G (Pwv res) 0 0) 0 0 8 [(0, rv G.1 27)] [] M := by
  intro n
  induction n with
  | zero => intro M res zf; rw [fX10_step_l8] at zf; cases zf
  | succ n ih =>
    intro M res zf
    rw [fX10_step_l8] at zf
    refine g_aload_n h 0 rfl dX10_step_8 ?_
    refine gfX10_16 h (by decide : kd 27 = 9) dX10_step_9 ?_
    refine g_nmI zf ?_
    clear zf; intro vq3 zf
    refine g_aload_n h 0 rfl dX10_step_12 ?_
    refine gfX10_7 h (by decide : kd 27 = 9) dX10_step_13 ?_
    refine g_nmI zf ?_
    clear zf; intro vq4 zf
    refine g_ic_ge h 60 (by decide) zf dX10_step_16 ?_ ?_ <;> clear zf <;> intro zf
    · refine g_sub h [0] rfl ?_
      exact kX10_step_b60 h zf
    · refine g_aload_n h 0 rfl dX10_step_19 ?_
      refine gfX10_34 h (by decide : kd 27 = 9) dX10_step_20 ?_
      refine g_aload_n h 0 rfl dX10_step_23 ?_
      refine gfX10_16 h (by decide : kd 27 = 9) dX10_step_24 ?_
      refine g_nmI zf ?_
      clear zf; intro vq28 zf
      refine g_bald h 700 (by decide : kd 1 = 21) (by decide) zf dX10_step_27 ?_
      clear zf; intro vq29 zf
      refine g_bipush h 32 (v := 32) (by decide) dX10_step_28 ?_
      refine g_ic_eq h 47 (by decide) zf dX10_step_30 ?_ ?_ <;> clear zf <;> intro zf
      · refine g_sub h [0] rfl ?_
        exact kX10_step_b47 h ih zf
      · refine g_aload_n h 0 rfl dX10_step_33 ?_
        refine gfX10_34 h (by decide : kd 27 = 9) dX10_step_34 ?_
        refine g_aload_n h 0 rfl dX10_step_37 ?_
        refine gfX10_16 h (by decide : kd 27 = 9) dX10_step_38 ?_
        refine g_nmI zf ?_
        clear zf; intro vq32 zf
        refine g_bald h 700 (by decide : kd 1 = 21) (by decide) zf dX10_step_41 ?_
        clear zf; intro vq33 zf
        refine g_bipush h 10 (v := 10) (by decide) dX10_step_42 ?_
        refine g_ic_ne h 60 (by decide) zf dX10_step_44 ?_ ?_ <;> clear zf <;> intro zf
        · refine g_sub h [0] rfl ?_
          exact kX10_step_b60 h zf
        · refine g_sub h [0] rfl ?_
          exact kX10_step_b47 h ih zf

theorem kX10_step_e0 {G : GX} (h : OKm G cX10_step RX10 1 none { frames := 7, cells := 0, slots := 0, locals := 184 }) {M : Mem} {res : Mem} (zf : fX10_step M = some res) : GG G (Qm G (Pwv res) 0 0) 0 0 0 [(0, rv G.1 27)] [] M := by
  unfold fX10_step at zf
  refine g_aload_n h 0 rfl dX10_step_0 ?_
  refine g_aload_n h 0 rfl dX10_step_1 ?_
  refine gfX10_13 h (by decide : kd 27 = 9) dX10_step_2 ?_
  refine g_nmI zf ?_
  clear zf; intro vq1 zf
  refine pfX10_16 h (by decide : kd 27 = 9) dX10_step_5 ?_
  refine g_nmM zf ?_
  clear zf; intro Mq2 zf
  refine g_sub h [0] rfl ?_
  exact kX10_step_l8 h _ _ _ zf

theorem cmX10_step {l : Launch} {w : WX} {M : Mem} {res : Mem} (zf : fX10_step M = some res) : CM l w yX10_step cX10_step 1 none { frames := 7, cells := 0, slots := 0, locals := 184 } 0 0 [rv w 27] M (Pwv res) := by
  refine CM_of (by decide) (Nat.le_of_ble_eq_true rfl) (fun G hw hl h => ?_)
  subst hw
  exact kX10_step_e0 h zf

-- X8_append
theorem kX8_append_e0 {G : GX} (h : OKm G cX8_append RX8 2 none { frames := 0, cells := 0, slots := 0, locals := 0 }) {M : Mem} {x0 : Nat} {x1 : Int32} {res : Mem} (zf : fX8_append M x0 x1 = some res) : GG G (Qm G (Pwv res) 0 0) 0 0 0 [(0, rv G.1 x0), (1, .int x1)] [] M := by
  unfold fX8_append at zf
  have zf1 := pre_ck zf
  clear zf; obtain ⟨zk_x0, zf⟩ := zf1
  refine g_aload_n h 0 rfl dX8_append_0 ?_
  refine gfX8_13 h zk_x0 dX8_append_1 ?_
  refine g_nmI zf ?_
  clear zf; intro vq1 zf
  refine g_aload_n h 0 rfl dX8_append_4 ?_
  refine gfX8_20 h zk_x0 dX8_append_5 ?_
  refine g_ilen h 700 (z := 700) (kfrc zk_x0) (lfrc zk_x0) (by decide) dX8_append_8 ?_
  refine g_ic_ge h 32 (by decide) zf dX8_append_9 ?_ ?_ <;> clear zf <;> intro zf
  · obtain rfl := Option.some.inj zf
    exact g_vret h rfl ⟨rfl, rfl⟩ (Nat.le_refl _) (Nat.le_refl _) dX8_append_32
  · refine g_aload_n h 0 rfl dX8_append_12 ?_
    refine gfX8_20 h zk_x0 dX8_append_13 ?_
    refine g_aload_n h 0 rfl dX8_append_16 ?_
    refine gfX8_13 h zk_x0 dX8_append_17 ?_
    refine g_nmI zf ?_
    clear zf; intro vq2 zf
    refine g_iload_n h 1 rfl dX8_append_20 ?_
    refine g_iast h 700 (kfrc zk_x0) (lfrc zk_x0) zf dX8_append_21 ?_
    clear zf; intro Mq3 zf
    refine g_aload_n h 0 rfl dX8_append_22 ?_
    refine g_dup h rfl dX8_append_23 ?_
    refine gfX8_13 h zk_x0 dX8_append_24 ?_
    refine g_nmI zf ?_
    clear zf; intro vq4 zf
    refine g_iconst h 1 (v := 1) (by decide) dX8_append_27 ?_
    refine g_iadd h dX8_append_28 ?_
    refine pfX8_13 h zk_x0 dX8_append_29 ?_
    refine g_nmM zf ?_
    clear zf; intro Mq5 zf
    obtain rfl := Option.some.inj zf
    exact g_vret h rfl ⟨rfl, rfl⟩ (Nat.le_refl _) (Nat.le_refl _) dX8_append_32

theorem cmX8_append {l : Launch} {w : WX} {M : Mem} {x0 : Nat} {x1 : Int32} {res : Mem} (zf : fX8_append M x0 x1 = some res) : CM l w yX8_append cX8_append 2 none { frames := 0, cells := 0, slots := 0, locals := 0 } 0 0 [rv w x0, .int x1] M (Pwv res) := by
  refine CM_of (by decide) (Nat.le_of_ble_eq_true rfl) (fun G hw hl h => ?_)
  subst hw
  exact kX8_append_e0 h zf

-- X6_part
theorem kX6_part_b155 {G : GX} {r : Mem → Int32 → Option (Int32 × Mem)} {fr lo : Nat} (zr : ∀ (M : Mem) (u0 : Int32) (res : (Int32 × Mem)), r M u0 = some res → CM G.2.2.1 G.1 yX6_expr cX6_expr 4 (some .boolean) { frames := fr, cells := 0, slots := 0, locals := lo } 0 0 [rv G.1 3, .int u0] M (Pwi res)) (h : OKm G cX6_part RX6 3 (some .boolean) { frames := fr + 8, cells := 0, slots := 0, locals := lo + 204 }) {M : Mem} {s0 : Int32} {s1 : Nat} {res : (Int32 × Mem)} (zf : fX6_part_b155 r M s0 s1 = some res) : GG G (Qm G (Pwi res) 0 0) 0 0 155 [(0, rv G.1 3)] [.int s0, rv G.1 s1] M := by
  unfold fX6_part_b155 at zf
  have zf1 := pre_ck zf
  clear zf; obtain ⟨zk_s1, zf⟩ := zf1
  have zf1 := pre_ck zf
  clear zf; obtain ⟨zz9, zf⟩ := zf1
  refine pfX6_259 h zk_s1 zz9 dX6_part_155 ?_
  refine g_nmM zf ?_
  clear zf; intro Mq22 zf
  refine g_aload_n h 0 rfl dX6_part_158 ?_
  refine gfX6_44 h (by decide : kd 3 = 5) dX6_part_159 ?_
  have zf1 := bd_some zf
  clear zf; obtain ⟨Mq23, zq, zf⟩ := zf1
  refine g_callVwv (As := []) (rest := []) h ceX10_step mlX6_146 imX10_step seX10_step (by rfl) (kd_lt (by rw [(by decide : kd 27 = 9)]; decide)) (ent_9 (by decide : kd 27 = 9)) rfl rfl ⟨by dsimp only; omega, by dsimp only; omega⟩ ⟨Nat.le_of_ble_eq_true rfl, Nat.le_of_ble_eq_true rfl⟩ rfl dX6_part_162 rfl (Nat.le_of_ble_eq_true rfl) (cmX10_step zq) ?_
  refine g_iconst h 1 (v := 1) (by decide) dX6_part_165 ?_
  obtain rfl := Option.some.inj zf
  exact g_zret h (by decide) rfl ⟨rfl, rfl⟩ (Nat.le_refl _) (Nat.le_refl _) dX6_part_166

theorem kX6_part_b150 {G : GX} {r : Mem → Int32 → Option (Int32 × Mem)} {fr lo : Nat} (zr : ∀ (M : Mem) (u0 : Int32) (res : (Int32 × Mem)), r M u0 = some res → CM G.2.2.1 G.1 yX6_expr cX6_expr 4 (some .boolean) { frames := fr, cells := 0, slots := 0, locals := lo } 0 0 [rv G.1 3, .int u0] M (Pwi res)) (h : OKm G cX6_part RX6 3 (some .boolean) { frames := fr + 8, cells := 0, slots := 0, locals := lo + 204 }) {M : Mem} {s0 : Nat} {res : (Int32 × Mem)} (zf : fX6_part_b150 r M s0 = some res) : GG G (Qm G (Pwi res) 0 0) 0 0 150 [(0, rv G.1 3)] [rv G.1 s0] M := by
  unfold fX6_part_b150 at zf
  have zf1 := pre_ck zf
  clear zf; obtain ⟨zk_s0, zf⟩ := zf1
  refine g_iconst h 1 (v := 1) (by decide) dX6_part_150 ?_
  refine g_goto h 155 (by decide) dX6_part_151 ?_
  refine g_sub h [0] rfl ?_
  exact kX6_part_b155 zr h zf

theorem kX6_part_b101 {G : GX} {r : Mem → Int32 → Option (Int32 × Mem)} {fr lo : Nat} (zr : ∀ (M : Mem) (u0 : Int32) (res : (Int32 × Mem)), r M u0 = some res → CM G.2.2.1 G.1 yX6_expr cX6_expr 4 (some .boolean) { frames := fr, cells := 0, slots := 0, locals := lo } 0 0 [rv G.1 3, .int u0] M (Pwi res)) (h : OKm G cX6_part RX6 3 (some .boolean) { frames := fr + 8, cells := 0, slots := 0, locals := lo + 204 }) {M : Mem} {s0 : Int32} {res : (Int32 × Mem)} (zf : fX6_part_b101 r M s0 = some res) : GG G (Qm G (Pwi res) 0 0) 0 0 101 [(0, rv G.1 3)] [.int s0] M := by
  unfold fX6_part_b101 at zf
  refine g_istore_n h rfl [(2, .int s0), (0, rv G.1 3)] (by decide) rfl dX6_part_101 ?_
  refine g_iload_n h 0 rfl dX6_part_102 ?_
  refine g_iconst h (-1) (v := (-1)) (by decide) dX6_part_103 ?_
  refine g_ic_ne h 113 (by decide) zf dX6_part_104 ?_ ?_ <;> clear zf <;> intro zf
  · refine g_aload_n h 1 rfl dX6_part_113 ?_
    refine gfX6_52 h (by decide : kd 3 = 5) dX6_part_114 ?_
    refine g_nmR zf ?_
    clear zf; intro oq17 zf
    have zf1 := pre_ck zf
    clear zf; obtain ⟨zk_oq17, zf⟩ := zf1
    refine g_iconst h (-1) (v := (-1)) (by decide) dX6_part_117 ?_
    refine g_iload_n h 0 rfl dX6_part_118 ?_
    refine g_isub h dX6_part_119 ?_
    have zf1 := bd_some zf
    clear zf; obtain ⟨Mq18, zq, zf⟩ := zf1
    refine g_callVwv (As := [.int ((-1) - s0)]) (rest := []) h ceX8_append mlX6_229 imX8_append seX8_append (by rfl) (kd_lt (by rw [zk_oq17]; decide)) (ent_7 zk_oq17) rfl rfl ⟨by dsimp only; omega, by dsimp only; omega⟩ ⟨Nat.le_of_ble_eq_true rfl, Nat.le_of_ble_eq_true rfl⟩ rfl dX6_part_120 rfl (Nat.le_of_ble_eq_true rfl) (cmX8_append zq) ?_
    refine g_aload_n h 1 rfl dX6_part_123 ?_
    refine gfX6_52 h (by decide : kd 3 = 5) dX6_part_124 ?_
    refine g_nmR zf ?_
    clear zf; intro oq19 zf
    have zf1 := pre_ck zf
    clear zf; obtain ⟨zk_oq19, zf⟩ := zf1
    refine g_aload_n h 1 rfl dX6_part_127 ?_
    refine gfX6_52 h (by decide : kd 3 = 5) dX6_part_128 ?_
    refine g_nmR zf ?_
    clear zf; intro oq20 zf
    have zf1 := pre_ck zf
    clear zf; obtain ⟨zk_oq20, zf⟩ := zf1
    refine gfX6_259 h zk_oq20 dX6_part_131 ?_
    refine g_nmI zf ?_
    clear zf; intro vq21 zf
    refine g_if_ne h 150 (by decide) zf dX6_part_134 ?_ ?_ <;> clear zf <;> intro zf
    · refine g_sub h [1] rfl ?_
      exact kX6_part_b150 zr h zf
    · refine g_aload_n h 1 rfl dX6_part_137 ?_
      refine gfX6_44 h (by decide : kd 3 = 5) dX6_part_138 ?_
      refine gfX6_78 h (by decide : kd 27 = 9) dX6_part_141 ?_
      refine g_nmR zf ?_
      clear zf; intro oq24 zf
      have zf1 := pre_ck zf
      clear zf; obtain ⟨zk_oq24, zf⟩ := zf1
      refine g_gsE h 19 (by decide) flX6_263 dX6_part_144 ?_
      change GG G _ _ _ _ _ (rv G.1 1019 :: _) _
      refine g_ac_ne h 154 zk_oq24 (by decide) (by decide) zf dX6_part_147 ?_ ?_ <;> clear zf <;> intro zf
      · refine g_iconst h 0 (v := 0) (by decide) dX6_part_154 ?_
        refine g_sub h [1] rfl ?_
        exact kX6_part_b155 zr h zf
      · refine g_sub h [1] rfl ?_
        exact kX6_part_b150 zr h zf
  · refine g_aload_n h 1 rfl dX6_part_107 ?_
    refine g_iconst h 3 (v := 3) (by decide) dX6_part_108 ?_
    have zf1 := b2_some zf
    clear zf; obtain ⟨vq25, Mq26, zq, zf⟩ := zf1
    refine g_callVwi (As := [.int 3]) (rest := []) h ceX6_refuse mlX6_143 imX6_refuse seX6_refuse (by rfl) (kd_lt (by rw [(by decide : kd 3 = 5)]; decide)) (ent_5 (by decide : kd 3 = 5)) rfl rfl ⟨by dsimp only; omega, by dsimp only; omega⟩ ⟨Nat.le_of_ble_eq_true rfl, Nat.le_of_ble_eq_true rfl⟩ rfl dX6_part_109 rfl (Nat.le_of_ble_eq_true rfl) (cmX6_refuse zq) ?_
    have zf1 := pre_ck zf
    clear zf; obtain ⟨zz9, zf⟩ := zf1
    obtain rfl := Option.some.inj zf
    exact g_zret h zz9 rfl ⟨rfl, rfl⟩ (Nat.le_refl _) (Nat.le_refl _) dX6_part_112

theorem kX6_part_e0 {G : GX} {r : Mem → Int32 → Option (Int32 × Mem)} {fr lo : Nat} (zr : ∀ (M : Mem) (u0 : Int32) (res : (Int32 × Mem)), r M u0 = some res → CM G.2.2.1 G.1 yX6_expr cX6_expr 4 (some .boolean) { frames := fr, cells := 0, slots := 0, locals := lo } 0 0 [rv G.1 3, .int u0] M (Pwi res)) (h : OKm G cX6_part RX6 3 (some .boolean) { frames := fr + 8, cells := 0, slots := 0, locals := lo + 204 }) {M : Mem} {x1 : Int32} {res : (Int32 × Mem)} (zf : fX6_part r M x1 = some res) : GG G (Qm G (Pwi res) 0 0) 0 0 0 [(0, rv G.1 3), (1, .int x1)] [] M := by
  unfold fX6_part at zf
  refine g_aload_n h 0 rfl dX6_part_0 ?_
  refine gfX6_44 h (by decide : kd 3 = 5) dX6_part_1 ?_
  refine gfX6_65 h (by decide : kd 27 = 9) dX6_part_4 ?_
  refine g_nmI zf ?_
  clear zf; intro vq1 zf
  refine g_iconst h 2 (v := 2) (by decide) dX6_part_7 ?_
  refine g_ic_ne h 53 (by decide) zf dX6_part_8 ?_ ?_ <;> clear zf <;> intro zf
  · refine g_aload_n h 0 rfl dX6_part_53 ?_
    refine gfX6_44 h (by decide : kd 3 = 5) dX6_part_54 ?_
    refine gfX6_65 h (by decide : kd 27 = 9) dX6_part_57 ?_
    refine g_nmI zf ?_
    clear zf; intro vq2 zf
    refine g_iconst h 1 (v := 1) (by decide) dX6_part_60 ?_
    refine g_ic_ne h 167 (by decide) zf dX6_part_61 ?_ ?_ <;> clear zf <;> intro zf
    · refine g_aload_n h 0 rfl dX6_part_167 ?_
      refine gfX6_44 h (by decide : kd 3 = 5) dX6_part_168 ?_
      refine gfX6_65 h (by decide : kd 27 = 9) dX6_part_171 ?_
      refine g_nmI zf ?_
      clear zf; intro vq3 zf
      refine g_bipush h 40 (v := 40) (by decide) dX6_part_174 ?_
      refine g_ic_eq h 185 (by decide) zf dX6_part_176 ?_ ?_ <;> clear zf <;> intro zf
      · refine g_aload_n h 0 rfl dX6_part_185 ?_
        refine gfX6_44 h (by decide : kd 3 = 5) dX6_part_186 ?_
        have zf1 := bd_some zf
        clear zf; obtain ⟨Mq4, zq, zf⟩ := zf1
        refine g_callVwv (As := []) (rest := []) h ceX10_step mlX6_146 imX10_step seX10_step (by rfl) (kd_lt (by rw [(by decide : kd 27 = 9)]; decide)) (ent_9 (by decide : kd 27 = 9)) rfl rfl ⟨by dsimp only; omega, by dsimp only; omega⟩ ⟨Nat.le_of_ble_eq_true rfl, Nat.le_of_ble_eq_true rfl⟩ rfl dX6_part_189 rfl (Nat.le_of_ble_eq_true rfl) (cmX10_step zq) ?_
        refine g_aload_n h 0 rfl dX6_part_192 ?_
        refine g_iload_n h 1 rfl dX6_part_193 ?_
        refine g_iconst h 1 (v := 1) (by decide) dX6_part_194 ?_
        refine g_iadd h dX6_part_195 ?_
        have zf1 := b2_some zf
        clear zf; obtain ⟨vq5, Mq6, zq, zf⟩ := zf1
        refine g_callVwi (As := [.int (x1 + 1)]) (rest := []) h ceX6_expr mlX6_220 imX6_expr seX6_expr (by rfl) (kd_lt (by rw [(by decide : kd 3 = 5)]; decide)) (ent_5 (by decide : kd 3 = 5)) rfl rfl ⟨by dsimp only; omega, by dsimp only; omega⟩ ⟨Nat.le_of_ble_eq_true rfl, Nat.le_of_ble_eq_true rfl⟩ rfl dX6_part_196 rfl (Nat.le_of_ble_eq_true rfl) (zr _ _ _ zq) ?_
        refine g_if_ne h 204 (by decide) zf dX6_part_199 ?_ ?_ <;> clear zf <;> intro zf
        · refine g_aload_n h 0 rfl dX6_part_204 ?_
          refine gfX6_44 h (by decide : kd 3 = 5) dX6_part_205 ?_
          refine gfX6_65 h (by decide : kd 27 = 9) dX6_part_208 ?_
          refine g_nmI zf ?_
          clear zf; intro vq7 zf
          refine g_bipush h 41 (v := 41) (by decide) dX6_part_211 ?_
          refine g_ic_eq h 222 (by decide) zf dX6_part_213 ?_ ?_ <;> clear zf <;> intro zf
          · refine g_aload_n h 0 rfl dX6_part_222 ?_
            refine gfX6_44 h (by decide : kd 3 = 5) dX6_part_223 ?_
            have zf1 := bd_some zf
            clear zf; obtain ⟨Mq8, zq, zf⟩ := zf1
            refine g_callVwv (As := []) (rest := []) h ceX10_step mlX6_146 imX10_step seX10_step (by rfl) (kd_lt (by rw [(by decide : kd 27 = 9)]; decide)) (ent_9 (by decide : kd 27 = 9)) rfl rfl ⟨by dsimp only; omega, by dsimp only; omega⟩ ⟨Nat.le_of_ble_eq_true rfl, Nat.le_of_ble_eq_true rfl⟩ rfl dX6_part_226 rfl (Nat.le_of_ble_eq_true rfl) (cmX10_step zq) ?_
            refine g_iconst h 1 (v := 1) (by decide) dX6_part_229 ?_
            obtain rfl := Option.some.inj zf
            exact g_zret h (by decide) rfl ⟨rfl, rfl⟩ (Nat.le_refl _) (Nat.le_refl _) dX6_part_230
          · refine g_aload_n h 0 rfl dX6_part_216 ?_
            refine g_iconst h 1 (v := 1) (by decide) dX6_part_217 ?_
            have zf1 := b2_some zf
            clear zf; obtain ⟨vq9, Mq10, zq, zf⟩ := zf1
            refine g_callVwi (As := [.int 1]) (rest := []) h ceX6_refuse mlX6_143 imX6_refuse seX6_refuse (by rfl) (kd_lt (by rw [(by decide : kd 3 = 5)]; decide)) (ent_5 (by decide : kd 3 = 5)) rfl rfl ⟨by dsimp only; omega, by dsimp only; omega⟩ ⟨Nat.le_of_ble_eq_true rfl, Nat.le_of_ble_eq_true rfl⟩ rfl dX6_part_218 rfl (Nat.le_of_ble_eq_true rfl) (cmX6_refuse zq) ?_
            have zf1 := pre_ck zf
            clear zf; obtain ⟨zz9, zf⟩ := zf1
            obtain rfl := Option.some.inj zf
            exact g_zret h zz9 rfl ⟨rfl, rfl⟩ (Nat.le_refl _) (Nat.le_refl _) dX6_part_221
        · refine g_iconst h 0 (v := 0) (by decide) dX6_part_202 ?_
          obtain rfl := Option.some.inj zf
          exact g_zret h (by decide) rfl ⟨rfl, rfl⟩ (Nat.le_refl _) (Nat.le_refl _) dX6_part_203
      · refine g_aload_n h 0 rfl dX6_part_179 ?_
        refine g_iconst h 1 (v := 1) (by decide) dX6_part_180 ?_
        have zf1 := b2_some zf
        clear zf; obtain ⟨vq11, Mq12, zq, zf⟩ := zf1
        refine g_callVwi (As := [.int 1]) (rest := []) h ceX6_refuse mlX6_143 imX6_refuse seX6_refuse (by rfl) (kd_lt (by rw [(by decide : kd 3 = 5)]; decide)) (ent_5 (by decide : kd 3 = 5)) rfl rfl ⟨by dsimp only; omega, by dsimp only; omega⟩ ⟨Nat.le_of_ble_eq_true rfl, Nat.le_of_ble_eq_true rfl⟩ rfl dX6_part_181 rfl (Nat.le_of_ble_eq_true rfl) (cmX6_refuse zq) ?_
        have zf1 := pre_ck zf
        clear zf; obtain ⟨zz9, zf⟩ := zf1
        obtain rfl := Option.some.inj zf
        exact g_zret h zz9 rfl ⟨rfl, rfl⟩ (Nat.le_refl _) (Nat.le_refl _) dX6_part_184
    · refine g_aload_n h 0 rfl dX6_part_64 ?_
      refine gfX6_52 h (by decide : kd 3 = 5) dX6_part_65 ?_
      refine g_nmR zf ?_
      clear zf; intro oq13 zf
      have zf1 := pre_ck zf
      clear zf; obtain ⟨zk_oq13, zf⟩ := zf1
      refine g_aload_n h 0 rfl dX6_part_68 ?_
      refine gfX6_12 h (by decide : kd 3 = 5) dX6_part_69 ?_
      refine g_nmR zf ?_
      clear zf; intro oq14 zf
      have zf1 := pre_ck zf
      clear zf; obtain ⟨zk_oq14, zf⟩ := zf1
      refine gfX6_48 h zk_oq14 dX6_part_72 ?_
      refine g_ap_ne h 91 (kd_lt (by rw [zk_oq13]; decide)) (kd_lt (by rw [(kf4_15 zk_oq14)]; decide)) (by decide) zf dX6_part_75 ?_ ?_ <;> clear zf <;> intro zf
      · refine g_aload_n h 0 rfl dX6_part_91 ?_
        refine gfX6_44 h (by decide : kd 3 = 5) dX6_part_92 ?_
        refine gfX6_78 h (by decide : kd 27 = 9) dX6_part_95 ?_
        refine g_nmR zf ?_
        clear zf; intro oq15 zf
        have zf1 := pre_ck zf
        clear zf; obtain ⟨zk_oq15, zf⟩ := zf1
        refine g_getIL h zk_oq15 flX6_256 dX6_part_98 ?_
        refine g_nmI zf ?_
        clear zf; intro vq16 zf
        refine g_sub h [0] rfl ?_
        exact kX6_part_b101 zr h zf
      · refine g_aload_n h 0 rfl dX6_part_78 ?_
        refine gfX6_44 h (by decide : kd 3 = 5) dX6_part_79 ?_
        refine gfX6_78 h (by decide : kd 27 = 9) dX6_part_82 ?_
        refine g_nmR zf ?_
        clear zf; intro oq27 zf
        have zf1 := pre_ck zf
        clear zf; obtain ⟨zk_oq27, zf⟩ := zf1
        refine g_getIS h zk_oq27 flX6_253 dX6_part_85 ?_
        refine g_nmI zf ?_
        clear zf; intro vq28 zf
        refine g_goto h 101 (by decide) dX6_part_88 ?_
        refine g_sub h [0] rfl ?_
        exact kX6_part_b101 zr h zf
  · refine g_aload_n h 0 rfl dX6_part_11 ?_
    refine gfX6_44 h (by decide : kd 3 = 5) dX6_part_12 ?_
    refine gfX6_149 h (by decide : kd 27 = 9) dX6_part_15 ?_
    refine g_nmI zf ?_
    clear zf; intro vq29 zf
    refine g_sipush h 10000 (v := 10000) (by decide) dX6_part_18 ?_
    refine g_ic_ne h 30 (by decide) zf dX6_part_21 ?_ ?_ <;> clear zf <;> intro zf
    · refine g_aload_n h 0 rfl dX6_part_30 ?_
      refine gfX6_52 h (by decide : kd 3 = 5) dX6_part_31 ?_
      refine g_nmR zf ?_
      clear zf; intro oq30 zf
      have zf1 := pre_ck zf
      clear zf; obtain ⟨zk_oq30, zf⟩ := zf1
      refine g_aload_n h 0 rfl dX6_part_34 ?_
      refine gfX6_44 h (by decide : kd 3 = 5) dX6_part_35 ?_
      refine gfX6_149 h (by decide : kd 27 = 9) dX6_part_38 ?_
      refine g_nmI zf ?_
      clear zf; intro vq31 zf
      have zf1 := bd_some zf
      clear zf; obtain ⟨Mq32, zq, zf⟩ := zf1
      refine g_callVwv (As := [.int vq31]) (rest := []) h ceX8_append mlX6_229 imX8_append seX8_append (by rfl) (kd_lt (by rw [zk_oq30]; decide)) (ent_7 zk_oq30) rfl rfl ⟨by dsimp only; omega, by dsimp only; omega⟩ ⟨Nat.le_of_ble_eq_true rfl, Nat.le_of_ble_eq_true rfl⟩ rfl dX6_part_41 rfl (Nat.le_of_ble_eq_true rfl) (cmX8_append zq) ?_
      refine g_aload_n h 0 rfl dX6_part_44 ?_
      refine gfX6_44 h (by decide : kd 3 = 5) dX6_part_45 ?_
      have zf1 := bd_some zf
      clear zf; obtain ⟨Mq33, zq, zf⟩ := zf1
      refine g_callVwv (As := []) (rest := []) h ceX10_step mlX6_146 imX10_step seX10_step (by rfl) (kd_lt (by rw [(by decide : kd 27 = 9)]; decide)) (ent_9 (by decide : kd 27 = 9)) rfl rfl ⟨by dsimp only; omega, by dsimp only; omega⟩ ⟨Nat.le_of_ble_eq_true rfl, Nat.le_of_ble_eq_true rfl⟩ rfl dX6_part_48 rfl (Nat.le_of_ble_eq_true rfl) (cmX10_step zq) ?_
      refine g_iconst h 1 (v := 1) (by decide) dX6_part_51 ?_
      obtain rfl := Option.some.inj zf
      exact g_zret h (by decide) rfl ⟨rfl, rfl⟩ (Nat.le_refl _) (Nat.le_refl _) dX6_part_52
    · refine g_aload_n h 0 rfl dX6_part_24 ?_
      refine g_iconst h 2 (v := 2) (by decide) dX6_part_25 ?_
      have zf1 := b2_some zf
      clear zf; obtain ⟨vq34, Mq35, zq, zf⟩ := zf1
      refine g_callVwi (As := [.int 2]) (rest := []) h ceX6_refuse mlX6_143 imX6_refuse seX6_refuse (by rfl) (kd_lt (by rw [(by decide : kd 3 = 5)]; decide)) (ent_5 (by decide : kd 3 = 5)) rfl rfl ⟨by dsimp only; omega, by dsimp only; omega⟩ ⟨Nat.le_of_ble_eq_true rfl, Nat.le_of_ble_eq_true rfl⟩ rfl dX6_part_26 rfl (Nat.le_of_ble_eq_true rfl) (cmX6_refuse zq) ?_
      have zf1 := pre_ck zf
      clear zf; obtain ⟨zz9, zf⟩ := zf1
      obtain rfl := Option.some.inj zf
      exact g_zret h zz9 rfl ⟨rfl, rfl⟩ (Nat.le_refl _) (Nat.le_refl _) dX6_part_29

theorem cmX6_part {l : Launch} {w : WX} {r : Mem → Int32 → Option (Int32 × Mem)} {fr lo : Nat} (zr : ∀ (M : Mem) (u0 : Int32) (res : (Int32 × Mem)), r M u0 = some res → CM l w yX6_expr cX6_expr 4 (some .boolean) { frames := fr, cells := 0, slots := 0, locals := lo } 0 0 [rv w 3, .int u0] M (Pwi res)) {M : Mem} {x1 : Int32} {res : (Int32 × Mem)} (zf : fX6_part r M x1 = some res) : CM l w yX6_part cX6_part 3 (some .boolean) { frames := fr + 8, cells := 0, slots := 0, locals := lo + 204 } 0 0 [rv w 3, .int x1] M (Pwi res) := by
  refine CM_of (by decide) (Nat.le_of_ble_eq_true rfl) (fun G hw hl h => ?_)
  subst hw
  subst hl
  exact kX6_part_e0 zr h zf

-- X6_product
theorem kX6_product_b62 {G : GX} {r : Mem → Int32 → Option (Int32 × Mem)} {fr lo : Nat} (zr : ∀ (M : Mem) (u0 : Int32) (res : (Int32 × Mem)), r M u0 = some res → CM G.2.2.1 G.1 yX6_expr cX6_expr 4 (some .boolean) { frames := fr, cells := 0, slots := 0, locals := lo } 0 0 [rv G.1 3, .int u0] M (Pwi res)) (h : OKm G cX6_product RX6 4 (some .boolean) { frames := fr + 9, cells := 0, slots := 0, locals := lo + 226 }) {a12 : Mem → Int32 → Int32 → Option (Int32 × Mem)} (zh12 : ∀ (M : Mem) (x1 : Int32) (x2 : Int32) (res : (Int32 × Mem)), a12 M x1 x2 = some res → GG G (Qm G (Pwi res) 0 0) 0 0 12 [(0, rv G.1 3), (1, .int x1), (2, .int x2)] [] M) {M : Mem} {x1 : Int32} {x2 : Int32} {s0 : Int32} {res : (Int32 × Mem)} (zf : fX6_product_b62 r a12 M x1 x2 s0 = some res) : GG G (Qm G (Pwi res) 0 0) 0 0 62 [(0, rv G.1 3), (1, .int x1), (2, .int x2)] [.int s0] M := by
  unfold fX6_product_b62 at zf
  refine g_istore_n h rfl [(3, .int s0), (0, rv G.1 3), (1, .int x1), (2, .int x2)] (by decide) rfl dX6_product_62 ?_
  refine g_aload_n h 1 rfl dX6_product_63 ?_
  refine gfX6_44 h (by decide : kd 3 = 5) dX6_product_64 ?_
  have zf1 := bd_some zf
  clear zf; obtain ⟨Mq5, zq, zf⟩ := zf1
  refine g_callVwv (As := []) (rest := []) h ceX10_step mlX6_146 imX10_step seX10_step (by rfl) (kd_lt (by rw [(by decide : kd 27 = 9)]; decide)) (ent_9 (by decide : kd 27 = 9)) rfl rfl ⟨by dsimp only; omega, by dsimp only; omega⟩ ⟨Nat.le_of_ble_eq_true rfl, Nat.le_of_ble_eq_true rfl⟩ rfl dX6_product_67 rfl (Nat.le_of_ble_eq_true rfl) (cmX10_step zq) ?_
  refine g_aload_n h 1 rfl dX6_product_70 ?_
  refine g_iload_n h 2 rfl dX6_product_71 ?_
  have zf1 := b2_some zf
  clear zf; obtain ⟨vq6, Mq7, zq, zf⟩ := zf1
  refine g_callVwi (As := [.int x1]) (rest := []) h ceX6_part mlX6_250 imX6_part seX6_part (by rfl) (kd_lt (by rw [(by decide : kd 3 = 5)]; decide)) (ent_5 (by decide : kd 3 = 5)) rfl rfl ⟨by dsimp only; omega, by dsimp only; omega⟩ ⟨Nat.le_of_ble_eq_true rfl, Nat.le_of_ble_eq_true rfl⟩ rfl dX6_product_72 rfl (Nat.le_of_ble_eq_true rfl) (cmX6_part zr zq) ?_
  refine g_if_ne h 80 (by decide) zf dX6_product_75 ?_ ?_ <;> clear zf <;> intro zf
  · refine g_aload_n h 1 rfl dX6_product_80 ?_
    refine gfX6_52 h (by decide : kd 3 = 5) dX6_product_81 ?_
    refine g_nmR zf ?_
    clear zf; intro oq8 zf
    have zf1 := pre_ck zf
    clear zf; obtain ⟨zk_oq8, zf⟩ := zf1
    refine g_iload_n h 0 rfl dX6_product_84 ?_
    have zf1 := bd_some zf
    clear zf; obtain ⟨Mq9, zq, zf⟩ := zf1
    refine g_callVwv (As := [.int s0]) (rest := []) h ceX8_append mlX6_229 imX8_append seX8_append (by rfl) (kd_lt (by rw [zk_oq8]; decide)) (ent_7 zk_oq8) rfl rfl ⟨by dsimp only; omega, by dsimp only; omega⟩ ⟨Nat.le_of_ble_eq_true rfl, Nat.le_of_ble_eq_true rfl⟩ rfl dX6_product_85 rfl (Nat.le_of_ble_eq_true rfl) (cmX8_append zq) ?_
    refine g_iinc h 2 3 rfl (v := x2 + 1) (congrArg (fun z => x2 + z) (by decide : Int32.ofInt (1) = (1 : Int32))) [(2, .int (x2 + 1)), (3, .int s0), (0, rv G.1 3), (1, .int x1)] (by decide) rfl dX6_product_88 ?_
    refine g_nmV zf ?_
    clear zf; intro vq10 zf
    refine g_goto h 12 (by decide) dX6_product_91 ?_
    refine g_sub h [2, 3, 0] rfl ?_
    exact zh12 _ _ _ _ zf
  · refine g_iconst h 0 (v := 0) (by decide) dX6_product_78 ?_
    obtain rfl := Option.some.inj zf
    exact g_zret h (by decide) rfl ⟨rfl, rfl⟩ (Nat.le_refl _) (Nat.le_refl _) dX6_product_79

theorem kX6_product_b43 {G : GX} {r : Mem → Int32 → Option (Int32 × Mem)} {fr lo : Nat} (zr : ∀ (M : Mem) (u0 : Int32) (res : (Int32 × Mem)), r M u0 = some res → CM G.2.2.1 G.1 yX6_expr cX6_expr 4 (some .boolean) { frames := fr, cells := 0, slots := 0, locals := lo } 0 0 [rv G.1 3, .int u0] M (Pwi res)) (h : OKm G cX6_product RX6 4 (some .boolean) { frames := fr + 9, cells := 0, slots := 0, locals := lo + 226 }) {a12 : Mem → Int32 → Int32 → Option (Int32 × Mem)} (zh12 : ∀ (M : Mem) (x1 : Int32) (x2 : Int32) (res : (Int32 × Mem)), a12 M x1 x2 = some res → GG G (Qm G (Pwi res) 0 0) 0 0 12 [(0, rv G.1 3), (1, .int x1), (2, .int x2)] [] M) {M : Mem} {x1 : Int32} {x2 : Int32} {res : (Int32 × Mem)} (zf : fX6_product_b43 r a12 M x1 x2 = some res) : GG G (Qm G (Pwi res) 0 0) 0 0 43 [(0, rv G.1 3), (1, .int x1), (2, .int x2)] [] M := by
  unfold fX6_product_b43 at zf
  refine g_aload_n h 0 rfl dX6_product_43 ?_
  refine gfX6_44 h (by decide : kd 3 = 5) dX6_product_44 ?_
  refine gfX6_65 h (by decide : kd 27 = 9) dX6_product_47 ?_
  refine g_nmI zf ?_
  clear zf; intro vq4 zf
  refine g_bipush h 42 (v := 42) (by decide) dX6_product_50 ?_
  refine g_ic_ne h 60 (by decide) zf dX6_product_52 ?_ ?_ <;> clear zf <;> intro zf
  · refine g_bipush h (-15) (v := (-15)) (by decide) dX6_product_60 ?_
    refine g_sub h [0, 1, 2] rfl ?_
    exact kX6_product_b62 zr h zh12 zf
  · refine g_bipush h (-14) (v := (-14)) (by decide) dX6_product_55 ?_
    refine g_goto h 62 (by decide) dX6_product_57 ?_
    refine g_sub h [0, 1, 2] rfl ?_
    exact kX6_product_b62 zr h zh12 zf

theorem kX6_product_l12 {G : GX} {r : Mem → Int32 → Option (Int32 × Mem)} {fr lo : Nat} (zr : ∀ (M : Mem) (u0 : Int32) (res : (Int32 × Mem)), r M u0 = some res → CM G.2.2.1 G.1 yX6_expr cX6_expr 4 (some .boolean) { frames := fr, cells := 0, slots := 0, locals := lo } 0 0 [rv G.1 3, .int u0] M (Pwi res)) (h : OKm G cX6_product RX6 4 (some .boolean) { frames := fr + 9, cells := 0, slots := 0, locals := lo + 226 }) : ∀ (n : Nat) (M : Mem) (x1 : Int32) (x2 : Int32) (res : (Int32 × Mem)), fX6_product_l12 r n M x1 x2 = some res → GG G (Qm G (Pwi res) 0 0) 0 0 12 [(0, rv G.1 3), (1, .int x1), (2, .int x2)] [] M := by
  intro n
  induction n with
  | zero => intro M x1 x2 res zf; rw [fX6_product_l12] at zf; cases zf
  | succ n ih =>
    intro M x1 x2 res zf
    rw [fX6_product_l12] at zf
    refine g_iload_n h 2 rfl dX6_product_12 ?_
    refine g_sipush h 700 (v := 700) (by decide) dX6_product_13 ?_
    refine g_ic_ge h 94 (by decide) zf dX6_product_16 ?_ ?_ <;> clear zf <;> intro zf
    · refine g_iconst h 1 (v := 1) (by decide) dX6_product_94 ?_
      obtain rfl := Option.some.inj zf
      exact g_zret h (by decide) rfl ⟨rfl, rfl⟩ (Nat.le_refl _) (Nat.le_refl _) dX6_product_95
    · refine g_aload_n h 0 rfl dX6_product_19 ?_
      refine gfX6_44 h (by decide : kd 3 = 5) dX6_product_20 ?_
      refine gfX6_65 h (by decide : kd 27 = 9) dX6_product_23 ?_
      refine g_nmI zf ?_
      clear zf; intro vq3 zf
      refine g_bipush h 42 (v := 42) (by decide) dX6_product_26 ?_
      refine g_ic_eq h 43 (by decide) zf dX6_product_28 ?_ ?_ <;> clear zf <;> intro zf
      · refine g_sub h [0, 1, 2] rfl ?_
        exact kX6_product_b43 zr h ih zf
      · refine g_aload_n h 0 rfl dX6_product_31 ?_
        refine gfX6_44 h (by decide : kd 3 = 5) dX6_product_32 ?_
        refine gfX6_65 h (by decide : kd 27 = 9) dX6_product_35 ?_
        refine g_nmI zf ?_
        clear zf; intro vq11 zf
        refine g_bipush h 47 (v := 47) (by decide) dX6_product_38 ?_
        refine g_ic_ne h 94 (by decide) zf dX6_product_40 ?_ ?_ <;> clear zf <;> intro zf
        · refine g_iconst h 1 (v := 1) (by decide) dX6_product_94 ?_
          obtain rfl := Option.some.inj zf
          exact g_zret h (by decide) rfl ⟨rfl, rfl⟩ (Nat.le_refl _) (Nat.le_refl _) dX6_product_95
        · refine g_sub h [0, 1, 2] rfl ?_
          exact kX6_product_b43 zr h ih zf

theorem kX6_product_e0 {G : GX} {r : Mem → Int32 → Option (Int32 × Mem)} {fr lo : Nat} (zr : ∀ (M : Mem) (u0 : Int32) (res : (Int32 × Mem)), r M u0 = some res → CM G.2.2.1 G.1 yX6_expr cX6_expr 4 (some .boolean) { frames := fr, cells := 0, slots := 0, locals := lo } 0 0 [rv G.1 3, .int u0] M (Pwi res)) (h : OKm G cX6_product RX6 4 (some .boolean) { frames := fr + 9, cells := 0, slots := 0, locals := lo + 226 }) {M : Mem} {x1 : Int32} {res : (Int32 × Mem)} (zf : fX6_product r M x1 = some res) : GG G (Qm G (Pwi res) 0 0) 0 0 0 [(0, rv G.1 3), (1, .int x1)] [] M := by
  unfold fX6_product at zf
  refine g_aload_n h 0 rfl dX6_product_0 ?_
  refine g_iload_n h 1 rfl dX6_product_1 ?_
  have zf1 := b2_some zf
  clear zf; obtain ⟨vq1, Mq2, zq, zf⟩ := zf1
  refine g_callVwi (As := [.int x1]) (rest := []) h ceX6_part mlX6_250 imX6_part seX6_part (by rfl) (kd_lt (by rw [(by decide : kd 3 = 5)]; decide)) (ent_5 (by decide : kd 3 = 5)) rfl rfl ⟨by dsimp only; omega, by dsimp only; omega⟩ ⟨Nat.le_of_ble_eq_true rfl, Nat.le_of_ble_eq_true rfl⟩ rfl dX6_product_2 rfl (Nat.le_of_ble_eq_true rfl) (cmX6_part zr zq) ?_
  refine g_if_ne h 10 (by decide) zf dX6_product_5 ?_ ?_ <;> clear zf <;> intro zf
  · refine g_iconst h 0 (v := 0) (by decide) dX6_product_10 ?_
    refine g_istore_n h rfl [(2, .int 0), (0, rv G.1 3), (1, .int x1)] (by decide) rfl dX6_product_11 ?_
    refine g_sub h [1, 2, 0] rfl ?_
    exact kX6_product_l12 zr h _ _ _ _ _ zf
  · refine g_iconst h 0 (v := 0) (by decide) dX6_product_8 ?_
    obtain rfl := Option.some.inj zf
    exact g_zret h (by decide) rfl ⟨rfl, rfl⟩ (Nat.le_refl _) (Nat.le_refl _) dX6_product_9

theorem cmX6_product {l : Launch} {w : WX} {r : Mem → Int32 → Option (Int32 × Mem)} {fr lo : Nat} (zr : ∀ (M : Mem) (u0 : Int32) (res : (Int32 × Mem)), r M u0 = some res → CM l w yX6_expr cX6_expr 4 (some .boolean) { frames := fr, cells := 0, slots := 0, locals := lo } 0 0 [rv w 3, .int u0] M (Pwi res)) {M : Mem} {x1 : Int32} {res : (Int32 × Mem)} (zf : fX6_product r M x1 = some res) : CM l w yX6_product cX6_product 4 (some .boolean) { frames := fr + 9, cells := 0, slots := 0, locals := lo + 226 } 0 0 [rv w 3, .int x1] M (Pwi res) := by
  refine CM_of (by decide) (Nat.le_of_ble_eq_true rfl) (fun G hw hl h => ?_)
  subst hw
  subst hl
  exact kX6_product_e0 zr h zf

-- X6_sum
theorem kX6_sum_b62 {G : GX} {r : Mem → Int32 → Option (Int32 × Mem)} {fr lo : Nat} (zr : ∀ (M : Mem) (u0 : Int32) (res : (Int32 × Mem)), r M u0 = some res → CM G.2.2.1 G.1 yX6_expr cX6_expr 4 (some .boolean) { frames := fr, cells := 0, slots := 0, locals := lo } 0 0 [rv G.1 3, .int u0] M (Pwi res)) (h : OKm G cX6_sum RX6 4 (some .boolean) { frames := fr + 10, cells := 0, slots := 0, locals := lo + 249 }) {a12 : Mem → Int32 → Int32 → Option (Int32 × Mem)} (zh12 : ∀ (M : Mem) (x1 : Int32) (x2 : Int32) (res : (Int32 × Mem)), a12 M x1 x2 = some res → GG G (Qm G (Pwi res) 0 0) 0 0 12 [(0, rv G.1 3), (1, .int x1), (2, .int x2)] [] M) {M : Mem} {x1 : Int32} {x2 : Int32} {s0 : Int32} {res : (Int32 × Mem)} (zf : fX6_sum_b62 r a12 M x1 x2 s0 = some res) : GG G (Qm G (Pwi res) 0 0) 0 0 62 [(0, rv G.1 3), (1, .int x1), (2, .int x2)] [.int s0] M := by
  unfold fX6_sum_b62 at zf
  refine g_istore_n h rfl [(3, .int s0), (0, rv G.1 3), (1, .int x1), (2, .int x2)] (by decide) rfl dX6_sum_62 ?_
  refine g_aload_n h 1 rfl dX6_sum_63 ?_
  refine gfX6_44 h (by decide : kd 3 = 5) dX6_sum_64 ?_
  have zf1 := bd_some zf
  clear zf; obtain ⟨Mq5, zq, zf⟩ := zf1
  refine g_callVwv (As := []) (rest := []) h ceX10_step mlX6_146 imX10_step seX10_step (by rfl) (kd_lt (by rw [(by decide : kd 27 = 9)]; decide)) (ent_9 (by decide : kd 27 = 9)) rfl rfl ⟨by dsimp only; omega, by dsimp only; omega⟩ ⟨Nat.le_of_ble_eq_true rfl, Nat.le_of_ble_eq_true rfl⟩ rfl dX6_sum_67 rfl (Nat.le_of_ble_eq_true rfl) (cmX10_step zq) ?_
  refine g_aload_n h 1 rfl dX6_sum_70 ?_
  refine g_iload_n h 2 rfl dX6_sum_71 ?_
  have zf1 := b2_some zf
  clear zf; obtain ⟨vq6, Mq7, zq, zf⟩ := zf1
  refine g_callVwi (As := [.int x1]) (rest := []) h ceX6_product mlX6_247 imX6_product seX6_product (by rfl) (kd_lt (by rw [(by decide : kd 3 = 5)]; decide)) (ent_5 (by decide : kd 3 = 5)) rfl rfl ⟨by dsimp only; omega, by dsimp only; omega⟩ ⟨Nat.le_of_ble_eq_true rfl, Nat.le_of_ble_eq_true rfl⟩ rfl dX6_sum_72 rfl (Nat.le_of_ble_eq_true rfl) (cmX6_product zr zq) ?_
  refine g_if_ne h 80 (by decide) zf dX6_sum_75 ?_ ?_ <;> clear zf <;> intro zf
  · refine g_aload_n h 1 rfl dX6_sum_80 ?_
    refine gfX6_52 h (by decide : kd 3 = 5) dX6_sum_81 ?_
    refine g_nmR zf ?_
    clear zf; intro oq8 zf
    have zf1 := pre_ck zf
    clear zf; obtain ⟨zk_oq8, zf⟩ := zf1
    refine g_iload_n h 0 rfl dX6_sum_84 ?_
    have zf1 := bd_some zf
    clear zf; obtain ⟨Mq9, zq, zf⟩ := zf1
    refine g_callVwv (As := [.int s0]) (rest := []) h ceX8_append mlX6_229 imX8_append seX8_append (by rfl) (kd_lt (by rw [zk_oq8]; decide)) (ent_7 zk_oq8) rfl rfl ⟨by dsimp only; omega, by dsimp only; omega⟩ ⟨Nat.le_of_ble_eq_true rfl, Nat.le_of_ble_eq_true rfl⟩ rfl dX6_sum_85 rfl (Nat.le_of_ble_eq_true rfl) (cmX8_append zq) ?_
    refine g_iinc h 2 3 rfl (v := x2 + 1) (congrArg (fun z => x2 + z) (by decide : Int32.ofInt (1) = (1 : Int32))) [(2, .int (x2 + 1)), (3, .int s0), (0, rv G.1 3), (1, .int x1)] (by decide) rfl dX6_sum_88 ?_
    refine g_nmV zf ?_
    clear zf; intro vq10 zf
    refine g_goto h 12 (by decide) dX6_sum_91 ?_
    refine g_sub h [2, 3, 0] rfl ?_
    exact zh12 _ _ _ _ zf
  · refine g_iconst h 0 (v := 0) (by decide) dX6_sum_78 ?_
    obtain rfl := Option.some.inj zf
    exact g_zret h (by decide) rfl ⟨rfl, rfl⟩ (Nat.le_refl _) (Nat.le_refl _) dX6_sum_79

theorem kX6_sum_b43 {G : GX} {r : Mem → Int32 → Option (Int32 × Mem)} {fr lo : Nat} (zr : ∀ (M : Mem) (u0 : Int32) (res : (Int32 × Mem)), r M u0 = some res → CM G.2.2.1 G.1 yX6_expr cX6_expr 4 (some .boolean) { frames := fr, cells := 0, slots := 0, locals := lo } 0 0 [rv G.1 3, .int u0] M (Pwi res)) (h : OKm G cX6_sum RX6 4 (some .boolean) { frames := fr + 10, cells := 0, slots := 0, locals := lo + 249 }) {a12 : Mem → Int32 → Int32 → Option (Int32 × Mem)} (zh12 : ∀ (M : Mem) (x1 : Int32) (x2 : Int32) (res : (Int32 × Mem)), a12 M x1 x2 = some res → GG G (Qm G (Pwi res) 0 0) 0 0 12 [(0, rv G.1 3), (1, .int x1), (2, .int x2)] [] M) {M : Mem} {x1 : Int32} {x2 : Int32} {res : (Int32 × Mem)} (zf : fX6_sum_b43 r a12 M x1 x2 = some res) : GG G (Qm G (Pwi res) 0 0) 0 0 43 [(0, rv G.1 3), (1, .int x1), (2, .int x2)] [] M := by
  unfold fX6_sum_b43 at zf
  refine g_aload_n h 0 rfl dX6_sum_43 ?_
  refine gfX6_44 h (by decide : kd 3 = 5) dX6_sum_44 ?_
  refine gfX6_65 h (by decide : kd 27 = 9) dX6_sum_47 ?_
  refine g_nmI zf ?_
  clear zf; intro vq4 zf
  refine g_bipush h 43 (v := 43) (by decide) dX6_sum_50 ?_
  refine g_ic_ne h 60 (by decide) zf dX6_sum_52 ?_ ?_ <;> clear zf <;> intro zf
  · refine g_bipush h (-13) (v := (-13)) (by decide) dX6_sum_60 ?_
    refine g_sub h [0, 1, 2] rfl ?_
    exact kX6_sum_b62 zr h zh12 zf
  · refine g_bipush h (-12) (v := (-12)) (by decide) dX6_sum_55 ?_
    refine g_goto h 62 (by decide) dX6_sum_57 ?_
    refine g_sub h [0, 1, 2] rfl ?_
    exact kX6_sum_b62 zr h zh12 zf

theorem kX6_sum_l12 {G : GX} {r : Mem → Int32 → Option (Int32 × Mem)} {fr lo : Nat} (zr : ∀ (M : Mem) (u0 : Int32) (res : (Int32 × Mem)), r M u0 = some res → CM G.2.2.1 G.1 yX6_expr cX6_expr 4 (some .boolean) { frames := fr, cells := 0, slots := 0, locals := lo } 0 0 [rv G.1 3, .int u0] M (Pwi res)) (h : OKm G cX6_sum RX6 4 (some .boolean) { frames := fr + 10, cells := 0, slots := 0, locals := lo + 249 }) : ∀ (n : Nat) (M : Mem) (x1 : Int32) (x2 : Int32) (res : (Int32 × Mem)), fX6_sum_l12 r n M x1 x2 = some res → GG G (Qm G (Pwi res) 0 0) 0 0 12 [(0, rv G.1 3), (1, .int x1), (2, .int x2)] [] M := by
  intro n
  induction n with
  | zero => intro M x1 x2 res zf; rw [fX6_sum_l12] at zf; cases zf
  | succ n ih =>
    intro M x1 x2 res zf
    rw [fX6_sum_l12] at zf
    refine g_iload_n h 2 rfl dX6_sum_12 ?_
    refine g_sipush h 700 (v := 700) (by decide) dX6_sum_13 ?_
    refine g_ic_ge h 94 (by decide) zf dX6_sum_16 ?_ ?_ <;> clear zf <;> intro zf
    · refine g_iconst h 1 (v := 1) (by decide) dX6_sum_94 ?_
      obtain rfl := Option.some.inj zf
      exact g_zret h (by decide) rfl ⟨rfl, rfl⟩ (Nat.le_refl _) (Nat.le_refl _) dX6_sum_95
    · refine g_aload_n h 0 rfl dX6_sum_19 ?_
      refine gfX6_44 h (by decide : kd 3 = 5) dX6_sum_20 ?_
      refine gfX6_65 h (by decide : kd 27 = 9) dX6_sum_23 ?_
      refine g_nmI zf ?_
      clear zf; intro vq3 zf
      refine g_bipush h 43 (v := 43) (by decide) dX6_sum_26 ?_
      refine g_ic_eq h 43 (by decide) zf dX6_sum_28 ?_ ?_ <;> clear zf <;> intro zf
      · refine g_sub h [0, 1, 2] rfl ?_
        exact kX6_sum_b43 zr h ih zf
      · refine g_aload_n h 0 rfl dX6_sum_31 ?_
        refine gfX6_44 h (by decide : kd 3 = 5) dX6_sum_32 ?_
        refine gfX6_65 h (by decide : kd 27 = 9) dX6_sum_35 ?_
        refine g_nmI zf ?_
        clear zf; intro vq11 zf
        refine g_bipush h 45 (v := 45) (by decide) dX6_sum_38 ?_
        refine g_ic_ne h 94 (by decide) zf dX6_sum_40 ?_ ?_ <;> clear zf <;> intro zf
        · refine g_iconst h 1 (v := 1) (by decide) dX6_sum_94 ?_
          obtain rfl := Option.some.inj zf
          exact g_zret h (by decide) rfl ⟨rfl, rfl⟩ (Nat.le_refl _) (Nat.le_refl _) dX6_sum_95
        · refine g_sub h [0, 1, 2] rfl ?_
          exact kX6_sum_b43 zr h ih zf

theorem kX6_sum_e0 {G : GX} {r : Mem → Int32 → Option (Int32 × Mem)} {fr lo : Nat} (zr : ∀ (M : Mem) (u0 : Int32) (res : (Int32 × Mem)), r M u0 = some res → CM G.2.2.1 G.1 yX6_expr cX6_expr 4 (some .boolean) { frames := fr, cells := 0, slots := 0, locals := lo } 0 0 [rv G.1 3, .int u0] M (Pwi res)) (h : OKm G cX6_sum RX6 4 (some .boolean) { frames := fr + 10, cells := 0, slots := 0, locals := lo + 249 }) {M : Mem} {x1 : Int32} {res : (Int32 × Mem)} (zf : fX6_sum r M x1 = some res) : GG G (Qm G (Pwi res) 0 0) 0 0 0 [(0, rv G.1 3), (1, .int x1)] [] M := by
  unfold fX6_sum at zf
  refine g_aload_n h 0 rfl dX6_sum_0 ?_
  refine g_iload_n h 1 rfl dX6_sum_1 ?_
  have zf1 := b2_some zf
  clear zf; obtain ⟨vq1, Mq2, zq, zf⟩ := zf1
  refine g_callVwi (As := [.int x1]) (rest := []) h ceX6_product mlX6_247 imX6_product seX6_product (by rfl) (kd_lt (by rw [(by decide : kd 3 = 5)]; decide)) (ent_5 (by decide : kd 3 = 5)) rfl rfl ⟨by dsimp only; omega, by dsimp only; omega⟩ ⟨Nat.le_of_ble_eq_true rfl, Nat.le_of_ble_eq_true rfl⟩ rfl dX6_sum_2 rfl (Nat.le_of_ble_eq_true rfl) (cmX6_product zr zq) ?_
  refine g_if_ne h 10 (by decide) zf dX6_sum_5 ?_ ?_ <;> clear zf <;> intro zf
  · refine g_iconst h 0 (v := 0) (by decide) dX6_sum_10 ?_
    refine g_istore_n h rfl [(2, .int 0), (0, rv G.1 3), (1, .int x1)] (by decide) rfl dX6_sum_11 ?_
    refine g_sub h [1, 2, 0] rfl ?_
    exact kX6_sum_l12 zr h _ _ _ _ _ zf
  · refine g_iconst h 0 (v := 0) (by decide) dX6_sum_8 ?_
    obtain rfl := Option.some.inj zf
    exact g_zret h (by decide) rfl ⟨rfl, rfl⟩ (Nat.le_refl _) (Nat.le_refl _) dX6_sum_9

theorem cmX6_sum {l : Launch} {w : WX} {r : Mem → Int32 → Option (Int32 × Mem)} {fr lo : Nat} (zr : ∀ (M : Mem) (u0 : Int32) (res : (Int32 × Mem)), r M u0 = some res → CM l w yX6_expr cX6_expr 4 (some .boolean) { frames := fr, cells := 0, slots := 0, locals := lo } 0 0 [rv w 3, .int u0] M (Pwi res)) {M : Mem} {x1 : Int32} {res : (Int32 × Mem)} (zf : fX6_sum r M x1 = some res) : CM l w yX6_sum cX6_sum 4 (some .boolean) { frames := fr + 10, cells := 0, slots := 0, locals := lo + 249 } 0 0 [rv w 3, .int x1] M (Pwi res) := by
  refine CM_of (by decide) (Nat.le_of_ble_eq_true rfl) (fun G hw hl h => ?_)
  subst hw
  subst hl
  exact kX6_sum_e0 zr h zf

-- X6_test
theorem kX6_test_b55 {G : GX} {r : Mem → Int32 → Option (Int32 × Mem)} {fr lo : Nat} (zr : ∀ (M : Mem) (u0 : Int32) (res : (Int32 × Mem)), r M u0 = some res → CM G.2.2.1 G.1 yX6_expr cX6_expr 4 (some .boolean) { frames := fr, cells := 0, slots := 0, locals := lo } 0 0 [rv G.1 3, .int u0] M (Pwi res)) (h : OKm G cX6_test RX6 3 (some .boolean) { frames := fr + 11, cells := 0, slots := 0, locals := lo + 272 }) {M : Mem} {x1 : Int32} {s0 : Int32} {res : (Int32 × Mem)} (zf : fX6_test_b55 r M x1 s0 = some res) : GG G (Qm G (Pwi res) 0 0) 0 0 55 [(0, rv G.1 3), (1, .int x1)] [.int s0] M := by
  unfold fX6_test_b55 at zf
  refine g_istore_n h rfl [(2, .int s0), (0, rv G.1 3), (1, .int x1)] (by decide) rfl dX6_test_55 ?_
  refine g_aload_n h 1 rfl dX6_test_56 ?_
  refine gfX6_44 h (by decide : kd 3 = 5) dX6_test_57 ?_
  have zf1 := bd_some zf
  clear zf; obtain ⟨Mq5, zq, zf⟩ := zf1
  refine g_callVwv (As := []) (rest := []) h ceX10_step mlX6_146 imX10_step seX10_step (by rfl) (kd_lt (by rw [(by decide : kd 27 = 9)]; decide)) (ent_9 (by decide : kd 27 = 9)) rfl rfl ⟨by dsimp only; omega, by dsimp only; omega⟩ ⟨Nat.le_of_ble_eq_true rfl, Nat.le_of_ble_eq_true rfl⟩ rfl dX6_test_60 rfl (Nat.le_of_ble_eq_true rfl) (cmX10_step zq) ?_
  refine g_aload_n h 1 rfl dX6_test_63 ?_
  refine g_iload_n h 2 rfl dX6_test_64 ?_
  have zf1 := b2_some zf
  clear zf; obtain ⟨vq6, Mq7, zq, zf⟩ := zf1
  refine g_callVwi (As := [.int x1]) (rest := []) h ceX6_sum mlX6_244 imX6_sum seX6_sum (by rfl) (kd_lt (by rw [(by decide : kd 3 = 5)]; decide)) (ent_5 (by decide : kd 3 = 5)) rfl rfl ⟨by dsimp only; omega, by dsimp only; omega⟩ ⟨Nat.le_of_ble_eq_true rfl, Nat.le_of_ble_eq_true rfl⟩ rfl dX6_test_65 rfl (Nat.le_of_ble_eq_true rfl) (cmX6_sum zr zq) ?_
  refine g_if_ne h 73 (by decide) zf dX6_test_68 ?_ ?_ <;> clear zf <;> intro zf
  · refine g_aload_n h 1 rfl dX6_test_73 ?_
    refine gfX6_52 h (by decide : kd 3 = 5) dX6_test_74 ?_
    refine g_nmR zf ?_
    clear zf; intro oq8 zf
    have zf1 := pre_ck zf
    clear zf; obtain ⟨zk_oq8, zf⟩ := zf1
    refine g_iload_n h 0 rfl dX6_test_77 ?_
    have zf1 := bd_some zf
    clear zf; obtain ⟨Mq9, zq, zf⟩ := zf1
    refine g_callVwv (As := [.int s0]) (rest := []) h ceX8_append mlX6_229 imX8_append seX8_append (by rfl) (kd_lt (by rw [zk_oq8]; decide)) (ent_7 zk_oq8) rfl rfl ⟨by dsimp only; omega, by dsimp only; omega⟩ ⟨Nat.le_of_ble_eq_true rfl, Nat.le_of_ble_eq_true rfl⟩ rfl dX6_test_78 rfl (Nat.le_of_ble_eq_true rfl) (cmX8_append zq) ?_
    refine g_iconst h 1 (v := 1) (by decide) dX6_test_81 ?_
    obtain rfl := Option.some.inj zf
    exact g_zret h (by decide) rfl ⟨rfl, rfl⟩ (Nat.le_refl _) (Nat.le_refl _) dX6_test_82
  · refine g_iconst h 0 (v := 0) (by decide) dX6_test_71 ?_
    obtain rfl := Option.some.inj zf
    exact g_zret h (by decide) rfl ⟨rfl, rfl⟩ (Nat.le_refl _) (Nat.le_refl _) dX6_test_72

theorem kX6_test_b36 {G : GX} {r : Mem → Int32 → Option (Int32 × Mem)} {fr lo : Nat} (zr : ∀ (M : Mem) (u0 : Int32) (res : (Int32 × Mem)), r M u0 = some res → CM G.2.2.1 G.1 yX6_expr cX6_expr 4 (some .boolean) { frames := fr, cells := 0, slots := 0, locals := lo } 0 0 [rv G.1 3, .int u0] M (Pwi res)) (h : OKm G cX6_test RX6 3 (some .boolean) { frames := fr + 11, cells := 0, slots := 0, locals := lo + 272 }) {M : Mem} {x1 : Int32} {res : (Int32 × Mem)} (zf : fX6_test_b36 r M x1 = some res) : GG G (Qm G (Pwi res) 0 0) 0 0 36 [(0, rv G.1 3), (1, .int x1)] [] M := by
  unfold fX6_test_b36 at zf
  refine g_aload_n h 0 rfl dX6_test_36 ?_
  refine gfX6_44 h (by decide : kd 3 = 5) dX6_test_37 ?_
  refine gfX6_65 h (by decide : kd 27 = 9) dX6_test_40 ?_
  refine g_nmI zf ?_
  clear zf; intro vq4 zf
  refine g_bipush h 60 (v := 60) (by decide) dX6_test_43 ?_
  refine g_ic_ne h 53 (by decide) zf dX6_test_45 ?_ ?_ <;> clear zf <;> intro zf
  · refine g_bipush h (-11) (v := (-11)) (by decide) dX6_test_53 ?_
    refine g_sub h [0, 1] rfl ?_
    exact kX6_test_b55 zr h zf
  · refine g_bipush h (-10) (v := (-10)) (by decide) dX6_test_48 ?_
    refine g_goto h 55 (by decide) dX6_test_50 ?_
    refine g_sub h [0, 1] rfl ?_
    exact kX6_test_b55 zr h zf

theorem kX6_test_e0 {G : GX} {r : Mem → Int32 → Option (Int32 × Mem)} {fr lo : Nat} (zr : ∀ (M : Mem) (u0 : Int32) (res : (Int32 × Mem)), r M u0 = some res → CM G.2.2.1 G.1 yX6_expr cX6_expr 4 (some .boolean) { frames := fr, cells := 0, slots := 0, locals := lo } 0 0 [rv G.1 3, .int u0] M (Pwi res)) (h : OKm G cX6_test RX6 3 (some .boolean) { frames := fr + 11, cells := 0, slots := 0, locals := lo + 272 }) {M : Mem} {x1 : Int32} {res : (Int32 × Mem)} (zf : fX6_test r M x1 = some res) : GG G (Qm G (Pwi res) 0 0) 0 0 0 [(0, rv G.1 3), (1, .int x1)] [] M := by
  unfold fX6_test at zf
  refine g_aload_n h 0 rfl dX6_test_0 ?_
  refine g_iload_n h 1 rfl dX6_test_1 ?_
  have zf1 := b2_some zf
  clear zf; obtain ⟨vq1, Mq2, zq, zf⟩ := zf1
  refine g_callVwi (As := [.int x1]) (rest := []) h ceX6_sum mlX6_244 imX6_sum seX6_sum (by rfl) (kd_lt (by rw [(by decide : kd 3 = 5)]; decide)) (ent_5 (by decide : kd 3 = 5)) rfl rfl ⟨by dsimp only; omega, by dsimp only; omega⟩ ⟨Nat.le_of_ble_eq_true rfl, Nat.le_of_ble_eq_true rfl⟩ rfl dX6_test_2 rfl (Nat.le_of_ble_eq_true rfl) (cmX6_sum zr zq) ?_
  refine g_if_ne h 10 (by decide) zf dX6_test_5 ?_ ?_ <;> clear zf <;> intro zf
  · refine g_aload_n h 0 rfl dX6_test_10 ?_
    refine gfX6_44 h (by decide : kd 3 = 5) dX6_test_11 ?_
    refine gfX6_65 h (by decide : kd 27 = 9) dX6_test_14 ?_
    refine g_nmI zf ?_
    clear zf; intro vq3 zf
    refine g_bipush h 60 (v := 60) (by decide) dX6_test_17 ?_
    refine g_ic_eq h 36 (by decide) zf dX6_test_19 ?_ ?_ <;> clear zf <;> intro zf
    · refine g_sub h [0, 1] rfl ?_
      exact kX6_test_b36 zr h zf
    · refine g_aload_n h 0 rfl dX6_test_22 ?_
      refine gfX6_44 h (by decide : kd 3 = 5) dX6_test_23 ?_
      refine gfX6_65 h (by decide : kd 27 = 9) dX6_test_26 ?_
      refine g_nmI zf ?_
      clear zf; intro vq10 zf
      refine g_bipush h 61 (v := 61) (by decide) dX6_test_29 ?_
      refine g_ic_eq h 36 (by decide) zf dX6_test_31 ?_ ?_ <;> clear zf <;> intro zf
      · refine g_sub h [0, 1] rfl ?_
        exact kX6_test_b36 zr h zf
      · refine g_iconst h 1 (v := 1) (by decide) dX6_test_34 ?_
        obtain rfl := Option.some.inj zf
        exact g_zret h (by decide) rfl ⟨rfl, rfl⟩ (Nat.le_refl _) (Nat.le_refl _) dX6_test_35
  · refine g_iconst h 0 (v := 0) (by decide) dX6_test_8 ?_
    obtain rfl := Option.some.inj zf
    exact g_zret h (by decide) rfl ⟨rfl, rfl⟩ (Nat.le_refl _) (Nat.le_refl _) dX6_test_9

theorem cmX6_test {l : Launch} {w : WX} {r : Mem → Int32 → Option (Int32 × Mem)} {fr lo : Nat} (zr : ∀ (M : Mem) (u0 : Int32) (res : (Int32 × Mem)), r M u0 = some res → CM l w yX6_expr cX6_expr 4 (some .boolean) { frames := fr, cells := 0, slots := 0, locals := lo } 0 0 [rv w 3, .int u0] M (Pwi res)) {M : Mem} {x1 : Int32} {res : (Int32 × Mem)} (zf : fX6_test r M x1 = some res) : CM l w yX6_test cX6_test 3 (some .boolean) { frames := fr + 11, cells := 0, slots := 0, locals := lo + 272 } 0 0 [rv w 3, .int x1] M (Pwi res) := by
  refine CM_of (by decide) (Nat.le_of_ble_eq_true rfl) (fun G hw hl h => ?_)
  subst hw
  subst hl
  exact kX6_test_e0 zr h zf

-- X6_not
theorem kX6_not_l58 {G : GX} {r : Mem → Int32 → Option (Int32 × Mem)} {fr lo : Nat} (zr : ∀ (M : Mem) (u0 : Int32) (res : (Int32 × Mem)), r M u0 = some res → CM G.2.2.1 G.1 yX6_expr cX6_expr 4 (some .boolean) { frames := fr, cells := 0, slots := 0, locals := lo } 0 0 [rv G.1 3, .int u0] M (Pwi res)) (h : OKm G cX6_not RX6 4 (some .boolean) { frames := fr + 12, cells := 0, slots := 0, locals := lo + 294 }) : ∀ (n : Nat) (M : Mem) (x2 : Int32) (x3 : Int32) (res : (Int32 × Mem)), fX6_not_l58 r n M x2 x3 = some res → GG G (Qm G (Pwi res) 0 0) 0 0 58 [(0, rv G.1 3), (2, .int x2), (3, .int x3)] [] M := by
  intro n
  induction n with
  | zero => intro M x2 x3 res zf; rw [fX6_not_l58] at zf; cases zf
  | succ n ih =>
    intro M x2 x3 res zf
    rw [fX6_not_l58] at zf
    refine g_iload_n h 2 rfl dX6_not_58 ?_
    refine g_iload_n h 1 rfl dX6_not_59 ?_
    refine g_ic_ge h 78 (by decide) zf dX6_not_60 ?_ ?_ <;> clear zf <;> intro zf
    · refine g_iconst h 1 (v := 1) (by decide) dX6_not_78 ?_
      obtain rfl := Option.some.inj zf
      exact g_zret h (by decide) rfl ⟨rfl, rfl⟩ (Nat.le_refl _) (Nat.le_refl _) dX6_not_79
    · refine g_aload_n h 0 rfl dX6_not_63 ?_
      refine gfX6_52 h (by decide : kd 3 = 5) dX6_not_64 ?_
      refine g_nmR zf ?_
      clear zf; intro oq3 zf
      have zf1 := pre_ck zf
      clear zf; obtain ⟨zk_oq3, zf⟩ := zf1
      refine g_bipush h (-7) (v := (-7)) (by decide) dX6_not_67 ?_
      have zf1 := bd_some zf
      clear zf; obtain ⟨Mq4, zq, zf⟩ := zf1
      refine g_callVwv (As := [.int (-7)]) (rest := []) h ceX8_append mlX6_229 imX8_append seX8_append (by rfl) (kd_lt (by rw [zk_oq3]; decide)) (ent_7 zk_oq3) rfl rfl ⟨by dsimp only; omega, by dsimp only; omega⟩ ⟨Nat.le_of_ble_eq_true rfl, Nat.le_of_ble_eq_true rfl⟩ rfl dX6_not_69 rfl (Nat.le_of_ble_eq_true rfl) (cmX8_append zq) ?_
      refine g_iinc h 3 2 rfl (v := x3 + 1) (congrArg (fun z => x3 + z) (by decide : Int32.ofInt (1) = (1 : Int32))) [(3, .int (x3 + 1)), (0, rv G.1 3), (2, .int x2)] (by decide) rfl dX6_not_72 ?_
      refine g_nmV zf ?_
      clear zf; intro vq5 zf
      refine g_goto h 58 (by decide) dX6_not_75 ?_
      refine g_sub h [1, 2, 0] rfl ?_
      exact ih _ _ _ _ zf

theorem kX6_not_b46 {G : GX} {r : Mem → Int32 → Option (Int32 × Mem)} {fr lo : Nat} (zr : ∀ (M : Mem) (u0 : Int32) (res : (Int32 × Mem)), r M u0 = some res → CM G.2.2.1 G.1 yX6_expr cX6_expr 4 (some .boolean) { frames := fr, cells := 0, slots := 0, locals := lo } 0 0 [rv G.1 3, .int u0] M (Pwi res)) (h : OKm G cX6_not RX6 4 (some .boolean) { frames := fr + 12, cells := 0, slots := 0, locals := lo + 294 }) {M : Mem} {x1 : Int32} {x2 : Int32} {res : (Int32 × Mem)} (zf : fX6_not_b46 r M x1 x2 = some res) : GG G (Qm G (Pwi res) 0 0) 0 0 46 [(0, rv G.1 3), (1, .int x1), (2, .int x2)] [] M := by
  unfold fX6_not_b46 at zf
  refine g_aload_n h 0 rfl dX6_not_46 ?_
  refine g_iload_n h 1 rfl dX6_not_47 ?_
  have zf1 := b2_some zf
  clear zf; obtain ⟨vq1, Mq2, zq, zf⟩ := zf1
  refine g_callVwi (As := [.int x1]) (rest := []) h ceX6_test mlX6_241 imX6_test seX6_test (by rfl) (kd_lt (by rw [(by decide : kd 3 = 5)]; decide)) (ent_5 (by decide : kd 3 = 5)) rfl rfl ⟨by dsimp only; omega, by dsimp only; omega⟩ ⟨Nat.le_of_ble_eq_true rfl, Nat.le_of_ble_eq_true rfl⟩ rfl dX6_not_48 rfl (Nat.le_of_ble_eq_true rfl) (cmX6_test zr zq) ?_
  refine g_if_ne h 56 (by decide) zf dX6_not_51 ?_ ?_ <;> clear zf <;> intro zf
  · refine g_iconst h 0 (v := 0) (by decide) dX6_not_56 ?_
    refine g_istore_n h rfl [(3, .int 0), (0, rv G.1 3), (1, .int x1), (2, .int x2)] (by decide) rfl dX6_not_57 ?_
    refine g_sub h [1, 3, 0] rfl ?_
    exact kX6_not_l58 zr h _ _ _ _ _ zf
  · refine g_iconst h 0 (v := 0) (by decide) dX6_not_54 ?_
    obtain rfl := Option.some.inj zf
    exact g_zret h (by decide) rfl ⟨rfl, rfl⟩ (Nat.le_refl _) (Nat.le_refl _) dX6_not_55

theorem kX6_not_l2 {G : GX} {r : Mem → Int32 → Option (Int32 × Mem)} {fr lo : Nat} (zr : ∀ (M : Mem) (u0 : Int32) (res : (Int32 × Mem)), r M u0 = some res → CM G.2.2.1 G.1 yX6_expr cX6_expr 4 (some .boolean) { frames := fr, cells := 0, slots := 0, locals := lo } 0 0 [rv G.1 3, .int u0] M (Pwi res)) (h : OKm G cX6_not RX6 4 (some .boolean) { frames := fr + 12, cells := 0, slots := 0, locals := lo + 294 }) : ∀ (n : Nat) (M : Mem) (x1 : Int32) (x2 : Int32) (res : (Int32 × Mem)), fX6_not_l2 r n M x1 x2 = some res → GG G (Qm G (Pwi res) 0 0) 0 0 2 [(0, rv G.1 3), (1, .int x1), (2, .int x2)] [] M := by
  intro n
  induction n with
  | zero => intro M x1 x2 res zf; rw [fX6_not_l2] at zf; cases zf
  | succ n ih =>
    intro M x1 x2 res zf
    rw [fX6_not_l2] at zf
    refine g_iload_n h 2 rfl dX6_not_2 ?_
    refine g_bipush h 6 (v := 6) (by decide) dX6_not_3 ?_
    refine g_ic_gt h 46 (by decide) zf dX6_not_5 ?_ ?_ <;> clear zf <;> intro zf
    · refine g_sub h [0, 1, 2] rfl ?_
      exact kX6_not_b46 zr h zf
    · refine g_aload_n h 0 rfl dX6_not_8 ?_
      refine gfX6_44 h (by decide : kd 3 = 5) dX6_not_9 ?_
      refine gfX6_78 h (by decide : kd 27 = 9) dX6_not_12 ?_
      refine g_nmR zf ?_
      clear zf; intro oq6 zf
      have zf1 := pre_ck zf
      clear zf; obtain ⟨zk_oq6, zf⟩ := zf1
      refine g_gsE h 13 (by decide) flX6_238 dX6_not_15 ?_
      change GG G _ _ _ _ _ (rv G.1 1013 :: _) _
      refine g_ac_ne h 46 zk_oq6 (by decide) (by decide) zf dX6_not_18 ?_ ?_ <;> clear zf <;> intro zf
      · refine g_sub h [0, 1, 2] rfl ?_
        exact kX6_not_b46 zr h zf
      · refine g_iload_n h 2 rfl dX6_not_21 ?_
        refine g_bipush h 6 (v := 6) (by decide) dX6_not_22 ?_
        refine g_ic_ne h 33 (by decide) zf dX6_not_24 ?_ ?_ <;> clear zf <;> intro zf
        · refine g_aload_n h 0 rfl dX6_not_33 ?_
          refine gfX6_44 h (by decide : kd 3 = 5) dX6_not_34 ?_
          have zf1 := bd_some zf
          clear zf; obtain ⟨Mq7, zq, zf⟩ := zf1
          refine g_callVwv (As := []) (rest := []) h ceX10_step mlX6_146 imX10_step seX10_step (by rfl) (kd_lt (by rw [(by decide : kd 27 = 9)]; decide)) (ent_9 (by decide : kd 27 = 9)) rfl rfl ⟨by dsimp only; omega, by dsimp only; omega⟩ ⟨Nat.le_of_ble_eq_true rfl, Nat.le_of_ble_eq_true rfl⟩ rfl dX6_not_37 rfl (Nat.le_of_ble_eq_true rfl) (cmX10_step zq) ?_
          refine g_iinc h 2 2 rfl (v := x2 + 1) (congrArg (fun z => x2 + z) (by decide : Int32.ofInt (1) = (1 : Int32))) [(2, .int (x2 + 1)), (0, rv G.1 3), (1, .int x1)] (by decide) rfl dX6_not_40 ?_
          refine g_nmV zf ?_
          clear zf; intro vq8 zf
          refine g_goto h 2 (by decide) dX6_not_43 ?_
          refine g_sub h [1, 2, 0] rfl ?_
          exact ih _ _ _ _ zf
        · refine g_aload_n h 0 rfl dX6_not_27 ?_
          refine g_iconst h 2 (v := 2) (by decide) dX6_not_28 ?_
          have zf1 := b2_some zf
          clear zf; obtain ⟨vq9, Mq10, zq, zf⟩ := zf1
          refine g_callVwi (As := [.int 2]) (rest := []) h ceX6_refuse mlX6_143 imX6_refuse seX6_refuse (by rfl) (kd_lt (by rw [(by decide : kd 3 = 5)]; decide)) (ent_5 (by decide : kd 3 = 5)) rfl rfl ⟨by dsimp only; omega, by dsimp only; omega⟩ ⟨Nat.le_of_ble_eq_true rfl, Nat.le_of_ble_eq_true rfl⟩ rfl dX6_not_29 rfl (Nat.le_of_ble_eq_true rfl) (cmX6_refuse zq) ?_
          have zf1 := pre_ck zf
          clear zf; obtain ⟨zz9, zf⟩ := zf1
          obtain rfl := Option.some.inj zf
          exact g_zret h zz9 rfl ⟨rfl, rfl⟩ (Nat.le_refl _) (Nat.le_refl _) dX6_not_32

theorem kX6_not_e0 {G : GX} {r : Mem → Int32 → Option (Int32 × Mem)} {fr lo : Nat} (zr : ∀ (M : Mem) (u0 : Int32) (res : (Int32 × Mem)), r M u0 = some res → CM G.2.2.1 G.1 yX6_expr cX6_expr 4 (some .boolean) { frames := fr, cells := 0, slots := 0, locals := lo } 0 0 [rv G.1 3, .int u0] M (Pwi res)) (h : OKm G cX6_not RX6 4 (some .boolean) { frames := fr + 12, cells := 0, slots := 0, locals := lo + 294 }) {M : Mem} {x1 : Int32} {res : (Int32 × Mem)} (zf : fX6_not r M x1 = some res) : GG G (Qm G (Pwi res) 0 0) 0 0 0 [(0, rv G.1 3), (1, .int x1)] [] M := by
  unfold fX6_not at zf
  refine g_iconst h 0 (v := 0) (by decide) dX6_not_0 ?_
  refine g_istore_n h rfl [(2, .int 0), (0, rv G.1 3), (1, .int x1)] (by decide) rfl dX6_not_1 ?_
  refine g_sub h [1, 2, 0] rfl ?_
  exact kX6_not_l2 zr h _ _ _ _ _ zf

theorem cmX6_not {l : Launch} {w : WX} {r : Mem → Int32 → Option (Int32 × Mem)} {fr lo : Nat} (zr : ∀ (M : Mem) (u0 : Int32) (res : (Int32 × Mem)), r M u0 = some res → CM l w yX6_expr cX6_expr 4 (some .boolean) { frames := fr, cells := 0, slots := 0, locals := lo } 0 0 [rv w 3, .int u0] M (Pwi res)) {M : Mem} {x1 : Int32} {res : (Int32 × Mem)} (zf : fX6_not r M x1 = some res) : CM l w yX6_not cX6_not 4 (some .boolean) { frames := fr + 12, cells := 0, slots := 0, locals := lo + 294 } 0 0 [rv w 3, .int x1] M (Pwi res) := by
  refine CM_of (by decide) (Nat.le_of_ble_eq_true rfl) (fun G hw hl h => ?_)
  subst hw
  subst hl
  exact kX6_not_e0 zr h zf

-- X6_and
theorem kX6_and_l12 {G : GX} {r : Mem → Int32 → Option (Int32 × Mem)} {fr lo : Nat} (zr : ∀ (M : Mem) (u0 : Int32) (res : (Int32 × Mem)), r M u0 = some res → CM G.2.2.1 G.1 yX6_expr cX6_expr 4 (some .boolean) { frames := fr, cells := 0, slots := 0, locals := lo } 0 0 [rv G.1 3, .int u0] M (Pwi res)) (h : OKm G cX6_and RX6 3 (some .boolean) { frames := fr + 13, cells := 0, slots := 0, locals := lo + 317 }) : ∀ (n : Nat) (M : Mem) (x1 : Int32) (x2 : Int32) (res : (Int32 × Mem)), fX6_and_l12 r n M x1 x2 = some res → GG G (Qm G (Pwi res) 0 0) 0 0 12 [(0, rv G.1 3), (1, .int x1), (2, .int x2)] [] M := by
  intro n
  induction n with
  | zero => intro M x1 x2 res zf; rw [fX6_and_l12] at zf; cases zf
  | succ n ih =>
    intro M x1 x2 res zf
    rw [fX6_and_l12] at zf
    refine g_iload_n h 2 rfl dX6_and_12 ?_
    refine g_sipush h 700 (v := 700) (by decide) dX6_and_13 ?_
    refine g_ic_ge h 64 (by decide) zf dX6_and_16 ?_ ?_ <;> clear zf <;> intro zf
    · refine g_iconst h 1 (v := 1) (by decide) dX6_and_64 ?_
      obtain rfl := Option.some.inj zf
      exact g_zret h (by decide) rfl ⟨rfl, rfl⟩ (Nat.le_refl _) (Nat.le_refl _) dX6_and_65
    · refine g_aload_n h 0 rfl dX6_and_19 ?_
      refine gfX6_44 h (by decide : kd 3 = 5) dX6_and_20 ?_
      refine gfX6_78 h (by decide : kd 27 = 9) dX6_and_23 ?_
      refine g_nmR zf ?_
      clear zf; intro oq3 zf
      have zf1 := pre_ck zf
      clear zf; obtain ⟨zk_oq3, zf⟩ := zf1
      refine g_gsE h 12 (by decide) flX6_235 dX6_and_26 ?_
      change GG G _ _ _ _ _ (rv G.1 1012 :: _) _
      refine g_ac_ne h 64 zk_oq3 (by decide) (by decide) zf dX6_and_29 ?_ ?_ <;> clear zf <;> intro zf
      · refine g_iconst h 1 (v := 1) (by decide) dX6_and_64 ?_
        obtain rfl := Option.some.inj zf
        exact g_zret h (by decide) rfl ⟨rfl, rfl⟩ (Nat.le_refl _) (Nat.le_refl _) dX6_and_65
      · refine g_aload_n h 0 rfl dX6_and_32 ?_
        refine gfX6_44 h (by decide : kd 3 = 5) dX6_and_33 ?_
        have zf1 := bd_some zf
        clear zf; obtain ⟨Mq4, zq, zf⟩ := zf1
        refine g_callVwv (As := []) (rest := []) h ceX10_step mlX6_146 imX10_step seX10_step (by rfl) (kd_lt (by rw [(by decide : kd 27 = 9)]; decide)) (ent_9 (by decide : kd 27 = 9)) rfl rfl ⟨by dsimp only; omega, by dsimp only; omega⟩ ⟨Nat.le_of_ble_eq_true rfl, Nat.le_of_ble_eq_true rfl⟩ rfl dX6_and_36 rfl (Nat.le_of_ble_eq_true rfl) (cmX10_step zq) ?_
        refine g_aload_n h 0 rfl dX6_and_39 ?_
        refine g_iload_n h 1 rfl dX6_and_40 ?_
        have zf1 := b2_some zf
        clear zf; obtain ⟨vq5, Mq6, zq, zf⟩ := zf1
        refine g_callVwi (As := [.int x1]) (rest := []) h ceX6_not mlX6_232 imX6_not seX6_not (by rfl) (kd_lt (by rw [(by decide : kd 3 = 5)]; decide)) (ent_5 (by decide : kd 3 = 5)) rfl rfl ⟨by dsimp only; omega, by dsimp only; omega⟩ ⟨Nat.le_of_ble_eq_true rfl, Nat.le_of_ble_eq_true rfl⟩ rfl dX6_and_41 rfl (Nat.le_of_ble_eq_true rfl) (cmX6_not zr zq) ?_
        refine g_if_ne h 49 (by decide) zf dX6_and_44 ?_ ?_ <;> clear zf <;> intro zf
        · refine g_aload_n h 0 rfl dX6_and_49 ?_
          refine gfX6_52 h (by decide : kd 3 = 5) dX6_and_50 ?_
          refine g_nmR zf ?_
          clear zf; intro oq7 zf
          have zf1 := pre_ck zf
          clear zf; obtain ⟨zk_oq7, zf⟩ := zf1
          refine g_bipush h (-9) (v := (-9)) (by decide) dX6_and_53 ?_
          have zf1 := bd_some zf
          clear zf; obtain ⟨Mq8, zq, zf⟩ := zf1
          refine g_callVwv (As := [.int (-9)]) (rest := []) h ceX8_append mlX6_229 imX8_append seX8_append (by rfl) (kd_lt (by rw [zk_oq7]; decide)) (ent_7 zk_oq7) rfl rfl ⟨by dsimp only; omega, by dsimp only; omega⟩ ⟨Nat.le_of_ble_eq_true rfl, Nat.le_of_ble_eq_true rfl⟩ rfl dX6_and_55 rfl (Nat.le_of_ble_eq_true rfl) (cmX8_append zq) ?_
          refine g_iinc h 2 2 rfl (v := x2 + 1) (congrArg (fun z => x2 + z) (by decide : Int32.ofInt (1) = (1 : Int32))) [(2, .int (x2 + 1)), (0, rv G.1 3), (1, .int x1)] (by decide) rfl dX6_and_58 ?_
          refine g_nmV zf ?_
          clear zf; intro vq9 zf
          refine g_goto h 12 (by decide) dX6_and_61 ?_
          refine g_sub h [1, 2, 0] rfl ?_
          exact ih _ _ _ _ zf
        · refine g_iconst h 0 (v := 0) (by decide) dX6_and_47 ?_
          obtain rfl := Option.some.inj zf
          exact g_zret h (by decide) rfl ⟨rfl, rfl⟩ (Nat.le_refl _) (Nat.le_refl _) dX6_and_48

theorem kX6_and_e0 {G : GX} {r : Mem → Int32 → Option (Int32 × Mem)} {fr lo : Nat} (zr : ∀ (M : Mem) (u0 : Int32) (res : (Int32 × Mem)), r M u0 = some res → CM G.2.2.1 G.1 yX6_expr cX6_expr 4 (some .boolean) { frames := fr, cells := 0, slots := 0, locals := lo } 0 0 [rv G.1 3, .int u0] M (Pwi res)) (h : OKm G cX6_and RX6 3 (some .boolean) { frames := fr + 13, cells := 0, slots := 0, locals := lo + 317 }) {M : Mem} {x1 : Int32} {res : (Int32 × Mem)} (zf : fX6_and r M x1 = some res) : GG G (Qm G (Pwi res) 0 0) 0 0 0 [(0, rv G.1 3), (1, .int x1)] [] M := by
  unfold fX6_and at zf
  refine g_aload_n h 0 rfl dX6_and_0 ?_
  refine g_iload_n h 1 rfl dX6_and_1 ?_
  have zf1 := b2_some zf
  clear zf; obtain ⟨vq1, Mq2, zq, zf⟩ := zf1
  refine g_callVwi (As := [.int x1]) (rest := []) h ceX6_not mlX6_232 imX6_not seX6_not (by rfl) (kd_lt (by rw [(by decide : kd 3 = 5)]; decide)) (ent_5 (by decide : kd 3 = 5)) rfl rfl ⟨by dsimp only; omega, by dsimp only; omega⟩ ⟨Nat.le_of_ble_eq_true rfl, Nat.le_of_ble_eq_true rfl⟩ rfl dX6_and_2 rfl (Nat.le_of_ble_eq_true rfl) (cmX6_not zr zq) ?_
  refine g_if_ne h 10 (by decide) zf dX6_and_5 ?_ ?_ <;> clear zf <;> intro zf
  · refine g_iconst h 0 (v := 0) (by decide) dX6_and_10 ?_
    refine g_istore_n h rfl [(2, .int 0), (0, rv G.1 3), (1, .int x1)] (by decide) rfl dX6_and_11 ?_
    refine g_sub h [1, 2, 0] rfl ?_
    exact kX6_and_l12 zr h _ _ _ _ _ zf
  · refine g_iconst h 0 (v := 0) (by decide) dX6_and_8 ?_
    obtain rfl := Option.some.inj zf
    exact g_zret h (by decide) rfl ⟨rfl, rfl⟩ (Nat.le_refl _) (Nat.le_refl _) dX6_and_9

theorem cmX6_and {l : Launch} {w : WX} {r : Mem → Int32 → Option (Int32 × Mem)} {fr lo : Nat} (zr : ∀ (M : Mem) (u0 : Int32) (res : (Int32 × Mem)), r M u0 = some res → CM l w yX6_expr cX6_expr 4 (some .boolean) { frames := fr, cells := 0, slots := 0, locals := lo } 0 0 [rv w 3, .int u0] M (Pwi res)) {M : Mem} {x1 : Int32} {res : (Int32 × Mem)} (zf : fX6_and r M x1 = some res) : CM l w yX6_and cX6_and 3 (some .boolean) { frames := fr + 13, cells := 0, slots := 0, locals := lo + 317 } 0 0 [rv w 3, .int x1] M (Pwi res) := by
  refine CM_of (by decide) (Nat.le_of_ble_eq_true rfl) (fun G hw hl h => ?_)
  subst hw
  subst hl
  exact kX6_and_e0 zr h zf

-- X6_expr
theorem kX6_expr_l68 {G : GX} {r : Mem → Int32 → Option (Int32 × Mem)} {fr lo : Nat} (zr : ∀ (M : Mem) (u0 : Int32) (res : (Int32 × Mem)), r M u0 = some res → CM G.2.2.1 G.1 yX6_expr cX6_expr 4 (some .boolean) { frames := fr, cells := 0, slots := 0, locals := lo } 0 0 [rv G.1 3, .int u0] M (Pwi res)) (h : OKm G cX6_expr RX6 4 (some .boolean) { frames := fr + 14, cells := 0, slots := 0, locals := lo + 339 }) : ∀ (n : Nat) (M : Mem) (x1 : Int32) (x3 : Int32) (res : (Int32 × Mem)), fX6_expr_l68 r n M x1 x3 = some res → GG G (Qm G (Pwi res) 0 0) 0 0 68 [(0, rv G.1 3), (1, .int x1), (3, .int x3)] [] M := by
  intro n
  induction n with
  | zero => intro M x1 x3 res zf; rw [fX6_expr_l68] at zf; cases zf
  | succ n ih =>
    intro M x1 x3 res zf
    rw [fX6_expr_l68] at zf
    refine g_iload_n h 2 rfl dX6_expr_68 ?_
    refine g_sipush h 700 (v := 700) (by decide) dX6_expr_69 ?_
    refine g_ic_ge h 120 (by decide) zf dX6_expr_72 ?_ ?_ <;> clear zf <;> intro zf
    · refine g_iconst h 1 (v := 1) (by decide) dX6_expr_120 ?_
      obtain rfl := Option.some.inj zf
      exact g_zret h (by decide) rfl ⟨rfl, rfl⟩ (Nat.le_refl _) (Nat.le_refl _) dX6_expr_121
    · refine g_aload_n h 0 rfl dX6_expr_75 ?_
      refine gfX6_44 h (by decide : kd 3 = 5) dX6_expr_76 ?_
      refine gfX6_78 h (by decide : kd 27 = 9) dX6_expr_79 ?_
      refine g_nmR zf ?_
      clear zf; intro oq4 zf
      have zf1 := pre_ck zf
      clear zf; obtain ⟨zk_oq4, zf⟩ := zf1
      refine g_gsE h 11 (by decide) flX6_226 dX6_expr_82 ?_
      change GG G _ _ _ _ _ (rv G.1 1011 :: _) _
      refine g_ac_ne h 120 zk_oq4 (by decide) (by decide) zf dX6_expr_85 ?_ ?_ <;> clear zf <;> intro zf
      · refine g_iconst h 1 (v := 1) (by decide) dX6_expr_120 ?_
        obtain rfl := Option.some.inj zf
        exact g_zret h (by decide) rfl ⟨rfl, rfl⟩ (Nat.le_refl _) (Nat.le_refl _) dX6_expr_121
      · refine g_aload_n h 0 rfl dX6_expr_88 ?_
        refine gfX6_44 h (by decide : kd 3 = 5) dX6_expr_89 ?_
        have zf1 := bd_some zf
        clear zf; obtain ⟨Mq5, zq, zf⟩ := zf1
        refine g_callVwv (As := []) (rest := []) h ceX10_step mlX6_146 imX10_step seX10_step (by rfl) (kd_lt (by rw [(by decide : kd 27 = 9)]; decide)) (ent_9 (by decide : kd 27 = 9)) rfl rfl ⟨by dsimp only; omega, by dsimp only; omega⟩ ⟨Nat.le_of_ble_eq_true rfl, Nat.le_of_ble_eq_true rfl⟩ rfl dX6_expr_92 rfl (Nat.le_of_ble_eq_true rfl) (cmX10_step zq) ?_
        refine g_aload_n h 0 rfl dX6_expr_95 ?_
        refine g_iload_n h 1 rfl dX6_expr_96 ?_
        have zf1 := b2_some zf
        clear zf; obtain ⟨vq6, Mq7, zq, zf⟩ := zf1
        refine g_callVwi (As := [.int x1]) (rest := []) h ceX6_and mlX6_223 imX6_and seX6_and (by rfl) (kd_lt (by rw [(by decide : kd 3 = 5)]; decide)) (ent_5 (by decide : kd 3 = 5)) rfl rfl ⟨by dsimp only; omega, by dsimp only; omega⟩ ⟨Nat.le_of_ble_eq_true rfl, Nat.le_of_ble_eq_true rfl⟩ rfl dX6_expr_97 rfl (Nat.le_of_ble_eq_true rfl) (cmX6_and zr zq) ?_
        refine g_if_ne h 105 (by decide) zf dX6_expr_100 ?_ ?_ <;> clear zf <;> intro zf
        · refine g_aload_n h 0 rfl dX6_expr_105 ?_
          refine gfX6_52 h (by decide : kd 3 = 5) dX6_expr_106 ?_
          refine g_nmR zf ?_
          clear zf; intro oq8 zf
          have zf1 := pre_ck zf
          clear zf; obtain ⟨zk_oq8, zf⟩ := zf1
          refine g_bipush h (-8) (v := (-8)) (by decide) dX6_expr_109 ?_
          have zf1 := bd_some zf
          clear zf; obtain ⟨Mq9, zq, zf⟩ := zf1
          refine g_callVwv (As := [.int (-8)]) (rest := []) h ceX8_append mlX6_229 imX8_append seX8_append (by rfl) (kd_lt (by rw [zk_oq8]; decide)) (ent_7 zk_oq8) rfl rfl ⟨by dsimp only; omega, by dsimp only; omega⟩ ⟨Nat.le_of_ble_eq_true rfl, Nat.le_of_ble_eq_true rfl⟩ rfl dX6_expr_111 rfl (Nat.le_of_ble_eq_true rfl) (cmX8_append zq) ?_
          refine g_iinc h 3 2 rfl (v := x3 + 1) (congrArg (fun z => x3 + z) (by decide : Int32.ofInt (1) = (1 : Int32))) [(3, .int (x3 + 1)), (0, rv G.1 3), (1, .int x1)] (by decide) rfl dX6_expr_114 ?_
          refine g_nmV zf ?_
          clear zf; intro vq10 zf
          refine g_goto h 68 (by decide) dX6_expr_117 ?_
          refine g_sub h [1, 2, 0] rfl ?_
          exact ih _ _ _ _ zf
        · refine g_iconst h 0 (v := 0) (by decide) dX6_expr_103 ?_
          obtain rfl := Option.some.inj zf
          exact g_zret h (by decide) rfl ⟨rfl, rfl⟩ (Nat.le_refl _) (Nat.le_refl _) dX6_expr_104

theorem kX6_expr_b56 {G : GX} {r : Mem → Int32 → Option (Int32 × Mem)} {fr lo : Nat} (zr : ∀ (M : Mem) (u0 : Int32) (res : (Int32 × Mem)), r M u0 = some res → CM G.2.2.1 G.1 yX6_expr cX6_expr 4 (some .boolean) { frames := fr, cells := 0, slots := 0, locals := lo } 0 0 [rv G.1 3, .int u0] M (Pwi res)) (h : OKm G cX6_expr RX6 4 (some .boolean) { frames := fr + 14, cells := 0, slots := 0, locals := lo + 339 }) {M : Mem} {x1 : Int32} {res : (Int32 × Mem)} (zf : fX6_expr_b56 r M x1 = some res) : GG G (Qm G (Pwi res) 0 0) 0 0 56 [(0, rv G.1 3), (1, .int x1)] [] M := by
  unfold fX6_expr_b56 at zf
  refine g_aload_n h 0 rfl dX6_expr_56 ?_
  refine g_iload_n h 1 rfl dX6_expr_57 ?_
  have zf1 := b2_some zf
  clear zf; obtain ⟨vq2, Mq3, zq, zf⟩ := zf1
  refine g_callVwi (As := [.int x1]) (rest := []) h ceX6_and mlX6_223 imX6_and seX6_and (by rfl) (kd_lt (by rw [(by decide : kd 3 = 5)]; decide)) (ent_5 (by decide : kd 3 = 5)) rfl rfl ⟨by dsimp only; omega, by dsimp only; omega⟩ ⟨Nat.le_of_ble_eq_true rfl, Nat.le_of_ble_eq_true rfl⟩ rfl dX6_expr_58 rfl (Nat.le_of_ble_eq_true rfl) (cmX6_and zr zq) ?_
  refine g_if_ne h 66 (by decide) zf dX6_expr_61 ?_ ?_ <;> clear zf <;> intro zf
  · refine g_iconst h 0 (v := 0) (by decide) dX6_expr_66 ?_
    refine g_istore_n h rfl [(3, .int 0), (0, rv G.1 3), (1, .int x1)] (by decide) rfl dX6_expr_67 ?_
    refine g_sub h [1, 2, 0] rfl ?_
    exact kX6_expr_l68 zr h _ _ _ _ _ zf
  · refine g_iconst h 0 (v := 0) (by decide) dX6_expr_64 ?_
    obtain rfl := Option.some.inj zf
    exact g_zret h (by decide) rfl ⟨rfl, rfl⟩ (Nat.le_refl _) (Nat.le_refl _) dX6_expr_65

theorem kX6_expr_b39 {G : GX} {r : Mem → Int32 → Option (Int32 × Mem)} {fr lo : Nat} (zr : ∀ (M : Mem) (u0 : Int32) (res : (Int32 × Mem)), r M u0 = some res → CM G.2.2.1 G.1 yX6_expr cX6_expr 4 (some .boolean) { frames := fr, cells := 0, slots := 0, locals := lo } 0 0 [rv G.1 3, .int u0] M (Pwi res)) (h : OKm G cX6_expr RX6 4 (some .boolean) { frames := fr + 14, cells := 0, slots := 0, locals := lo + 339 }) {M : Mem} {x1 : Int32} {s0 : Int32} {res : (Int32 × Mem)} (zf : fX6_expr_b39 r M x1 s0 = some res) : GG G (Qm G (Pwi res) 0 0) 0 0 39 [(0, rv G.1 3), (1, .int x1)] [.int s0] M := by
  unfold fX6_expr_b39 at zf
  refine g_istore_n h rfl [(2, .int s0), (0, rv G.1 3), (1, .int x1)] (by decide) rfl dX6_expr_39 ?_
  refine g_iload_n h 2 rfl dX6_expr_40 ?_
  refine g_bipush h 6 (v := 6) (by decide) dX6_expr_41 ?_
  refine g_ic_lt h 56 (by decide) zf dX6_expr_43 ?_ ?_ <;> clear zf <;> intro zf
  · refine g_sub h [1, 2] rfl ?_
    exact kX6_expr_b56 zr h zf
  · refine g_iload_n h 0 rfl dX6_expr_46 ?_
    refine g_if_eq h 56 (by decide) zf dX6_expr_47 ?_ ?_ <;> clear zf <;> intro zf
    · refine g_sub h [1, 2] rfl ?_
      exact kX6_expr_b56 zr h zf
    · refine g_aload_n h 1 rfl dX6_expr_50 ?_
      refine g_iconst h 2 (v := 2) (by decide) dX6_expr_51 ?_
      have zf1 := b2_some zf
      clear zf; obtain ⟨vq11, Mq12, zq, zf⟩ := zf1
      refine g_callVwi (As := [.int 2]) (rest := []) h ceX6_refuse mlX6_143 imX6_refuse seX6_refuse (by rfl) (kd_lt (by rw [(by decide : kd 3 = 5)]; decide)) (ent_5 (by decide : kd 3 = 5)) rfl rfl ⟨by dsimp only; omega, by dsimp only; omega⟩ ⟨Nat.le_of_ble_eq_true rfl, Nat.le_of_ble_eq_true rfl⟩ rfl dX6_expr_52 rfl (Nat.le_of_ble_eq_true rfl) (cmX6_refuse zq) ?_
      have zf1 := pre_ck zf
      clear zf; obtain ⟨zz9, zf⟩ := zf1
      obtain rfl := Option.some.inj zf
      exact g_zret h zz9 rfl ⟨rfl, rfl⟩ (Nat.le_refl _) (Nat.le_refl _) dX6_expr_55

theorem kX6_expr_b34 {G : GX} {r : Mem → Int32 → Option (Int32 × Mem)} {fr lo : Nat} (zr : ∀ (M : Mem) (u0 : Int32) (res : (Int32 × Mem)), r M u0 = some res → CM G.2.2.1 G.1 yX6_expr cX6_expr 4 (some .boolean) { frames := fr, cells := 0, slots := 0, locals := lo } 0 0 [rv G.1 3, .int u0] M (Pwi res)) (h : OKm G cX6_expr RX6 4 (some .boolean) { frames := fr + 14, cells := 0, slots := 0, locals := lo + 339 }) {M : Mem} {x1 : Int32} {res : (Int32 × Mem)} (zf : fX6_expr_b34 r M x1 = some res) : GG G (Qm G (Pwi res) 0 0) 0 0 34 [(0, rv G.1 3), (1, .int x1)] [] M := by
  unfold fX6_expr_b34 at zf
  refine g_iconst h 1 (v := 1) (by decide) dX6_expr_34 ?_
  refine g_goto h 39 (by decide) dX6_expr_35 ?_
  refine g_sub h [0, 1] rfl ?_
  exact kX6_expr_b39 zr h zf

theorem kX6_expr_e0 {G : GX} {r : Mem → Int32 → Option (Int32 × Mem)} {fr lo : Nat} (zr : ∀ (M : Mem) (u0 : Int32) (res : (Int32 × Mem)), r M u0 = some res → CM G.2.2.1 G.1 yX6_expr cX6_expr 4 (some .boolean) { frames := fr, cells := 0, slots := 0, locals := lo } 0 0 [rv G.1 3, .int u0] M (Pwi res)) (h : OKm G cX6_expr RX6 4 (some .boolean) { frames := fr + 14, cells := 0, slots := 0, locals := lo + 339 }) {M : Mem} {x1 : Int32} {res : (Int32 × Mem)} (zf : fX6_expr_s r M x1 = some res) : GG G (Qm G (Pwi res) 0 0) 0 0 0 [(0, rv G.1 3), (1, .int x1)] [] M := by
  unfold fX6_expr_s at zf
  refine g_aload_n h 0 rfl dX6_expr_0 ?_
  refine gfX6_44 h (by decide : kd 3 = 5) dX6_expr_1 ?_
  refine gfX6_65 h (by decide : kd 27 = 9) dX6_expr_4 ?_
  refine g_nmI zf ?_
  clear zf; intro vq1 zf
  refine g_iconst h 2 (v := 2) (by decide) dX6_expr_7 ?_
  refine g_ic_eq h 34 (by decide) zf dX6_expr_8 ?_ ?_ <;> clear zf <;> intro zf
  · refine g_sub h [0, 1] rfl ?_
    exact kX6_expr_b34 zr h zf
  · refine g_aload_n h 0 rfl dX6_expr_11 ?_
    refine gfX6_44 h (by decide : kd 3 = 5) dX6_expr_12 ?_
    refine gfX6_65 h (by decide : kd 27 = 9) dX6_expr_15 ?_
    refine g_nmI zf ?_
    clear zf; intro vq13 zf
    refine g_iconst h 1 (v := 1) (by decide) dX6_expr_18 ?_
    refine g_ic_eq h 34 (by decide) zf dX6_expr_19 ?_ ?_ <;> clear zf <;> intro zf
    · refine g_sub h [0, 1] rfl ?_
      exact kX6_expr_b34 zr h zf
    · refine g_aload_n h 0 rfl dX6_expr_22 ?_
      refine gfX6_44 h (by decide : kd 3 = 5) dX6_expr_23 ?_
      refine gfX6_65 h (by decide : kd 27 = 9) dX6_expr_26 ?_
      refine g_nmI zf ?_
      clear zf; intro vq14 zf
      refine g_bipush h 40 (v := 40) (by decide) dX6_expr_29 ?_
      refine g_ic_ne h 38 (by decide) zf dX6_expr_31 ?_ ?_ <;> clear zf <;> intro zf
      · refine g_iconst h 0 (v := 0) (by decide) dX6_expr_38 ?_
        refine g_sub h [0, 1] rfl ?_
        exact kX6_expr_b39 zr h zf
      · refine g_sub h [0, 1] rfl ?_
        exact kX6_expr_b34 zr h zf

theorem cmX6_expr_s {l : Launch} {w : WX} {r : Mem → Int32 → Option (Int32 × Mem)} {fr lo : Nat} (zr : ∀ (M : Mem) (u0 : Int32) (res : (Int32 × Mem)), r M u0 = some res → CM l w yX6_expr cX6_expr 4 (some .boolean) { frames := fr, cells := 0, slots := 0, locals := lo } 0 0 [rv w 3, .int u0] M (Pwi res)) {M : Mem} {x1 : Int32} {res : (Int32 × Mem)} (zf : fX6_expr_s r M x1 = some res) : CM l w yX6_expr cX6_expr 4 (some .boolean) { frames := fr + 14, cells := 0, slots := 0, locals := lo + 339 } 0 0 [rv w 3, .int x1] M (Pwi res) := by
  refine CM_of (by decide) (Nat.le_of_ble_eq_true rfl) (fun G hw hl h => ?_)
  subst hw
  subst hl
  exact kX6_expr_e0 zr h zf
theorem cmX6_expr {l : Launch} {w : WX} : ∀ (d : Nat) {M : Mem} {x1 : Int32} {res : (Int32 × Mem)}, fX6_expr d M x1 = some res → CM l w yX6_expr cX6_expr 4 (some .boolean) { frames := 14 * d, cells := 0, slots := 0, locals := 339 * d } 0 0 [rv w 3, .int x1] M (Pwi res) := by
  intro d
  induction d with
  | zero => intro  M x1 res zf; cases zf
  | succ d ih =>
    intro  M x1 res zf
    exact cmX6_expr_s (fun _ _ _ zq => ih zq) zf

-- X7_harvestOf
theorem kX7_harvestOf_e0 {G : GX} (h : OKm G cX7_harvestOf RX7 2 (some .int) { frames := 0, cells := 0, slots := 0, locals := 0 }) {M : Mem} {x1 : Int32} {res : Int32} (zf : fX7_harvestOf M x1 = some res) : GG G (Qm G (Pri res M) 0 0) 0 0 0 [(0, rv G.1 28), (1, .int x1)] [] M := by
  unfold fX7_harvestOf at zf
  refine g_aload_n h 0 rfl dX7_harvestOf_0 ?_
  refine gfX7_12 h (by decide : kd 28 = 6) dX7_harvestOf_1 ?_
  refine g_nmR zf ?_
  clear zf; intro oq1 zf
  have zf1 := pre_ck zf
  clear zf; obtain ⟨zk_oq1, zf⟩ := zf1
  refine gfX7_30 h zk_oq1 dX7_harvestOf_4 ?_
  refine g_nmI zf ?_
  clear zf; intro vq2 zf
  refine g_if_eq h 14 (by decide) zf dX7_harvestOf_7 ?_ ?_ <;> clear zf <;> intro zf
  · refine g_bipush h 20 (v := 20) (by decide) dX7_harvestOf_14 ?_
    obtain rfl := Option.some.inj zf
    exact g_iret h rfl ⟨rfl, rfl⟩ (Nat.le_refl _) (Nat.le_refl _) dX7_harvestOf_16
  · refine g_iload_n h 1 rfl dX7_harvestOf_10 ?_
    refine g_if_ge h 17 (by decide) zf dX7_harvestOf_11 ?_ ?_ <;> clear zf <;> intro zf
    · refine g_aload_n h 0 rfl dX7_harvestOf_17 ?_
      refine gfX7_12 h (by decide : kd 28 = 6) dX7_harvestOf_18 ?_
      refine g_nmR zf ?_
      clear zf; intro oq3 zf
      have zf1 := pre_ck zf
      clear zf; obtain ⟨zk_oq3, zf⟩ := zf1
      refine gfX7_34 h zk_oq3 dX7_harvestOf_21 ?_
      refine g_iload_n h 1 rfl dX7_harvestOf_24 ?_
      refine g_aload_n h 0 rfl dX7_harvestOf_25 ?_
      refine gfX7_12 h (by decide : kd 28 = 6) dX7_harvestOf_26 ?_
      refine g_nmR zf ?_
      clear zf; intro oq4 zf
      have zf1 := pre_ck zf
      clear zf; obtain ⟨zk_oq4, zf⟩ := zf1
      refine gfX7_30 h zk_oq4 dX7_harvestOf_29 ?_
      refine g_nmI zf ?_
      clear zf; intro vq5 zf
      have zf1 := pre_if zf
      clear zf; obtain ⟨zne, zf⟩ := zf1
      refine g_irem h zne dX7_harvestOf_32 ?_
      refine g_iald h 10 (kf4_6 zk_oq3) (lf4_6 zk_oq3) zf dX7_harvestOf_33 ?_
      clear zf; intro vq6 zf
      obtain rfl := Option.some.inj zf
      exact g_iret h rfl ⟨rfl, rfl⟩ (Nat.le_refl _) (Nat.le_refl _) dX7_harvestOf_34
    · refine g_bipush h 20 (v := 20) (by decide) dX7_harvestOf_14 ?_
      obtain rfl := Option.some.inj zf
      exact g_iret h rfl ⟨rfl, rfl⟩ (Nat.le_refl _) (Nat.le_refl _) dX7_harvestOf_16

theorem cmX7_harvestOf {l : Launch} {w : WX} {M : Mem} {x1 : Int32} {res : Int32} (zf : fX7_harvestOf M x1 = some res) : CM l w yX7_harvestOf cX7_harvestOf 2 (some .int) { frames := 0, cells := 0, slots := 0, locals := 0 } 0 0 [rv w 28, .int x1] M (Pri res M) := by
  refine CM_of (by decide) (Nat.le_of_ble_eq_true rfl) (fun G hw hl h => ?_)
  subst hw
  exact kX7_harvestOf_e0 h zf

-- X7_reap
theorem kX7_reap_e0 {G : GX} (h : OKm G cX7_reap RX7 3 none { frames := 6, cells := 0, slots := 0, locals := 160 }) {M : Mem} {x1 : Nat} {x2 : Int32} {res : Mem} (zf : fX7_reap M x1 x2 = some res) : GG G (Qm G (Pwv res) 0 0) 0 0 0 [(0, rv G.1 28), (1, rv G.1 x1), (2, .int x2)] [] M := by
  unfold fX7_reap at zf
  have zf1 := pre_ck zf
  clear zf; obtain ⟨zk_x1, zf⟩ := zf1
  refine g_aload_n h 1 rfl dX7_reap_0 ?_
  refine g_sipush h 999 (v := 999) (by decide) dX7_reap_1 ?_
  refine g_aload_n h 1 rfl dX7_reap_4 ?_
  refine gfX7_81 h zk_x1 dX7_reap_5 ?_
  refine g_nmI zf ?_
  clear zf; intro vq1 zf
  refine g_iload_n h 2 rfl dX7_reap_8 ?_
  refine g_iadd h dX7_reap_9 ?_
  refine g_mmin h mlX7_84 smMathmin initMath ceMathmin (by decide) (Nat.le_of_ble_eq_true rfl) (Nat.le_of_ble_eq_true rfl) (Nat.le_of_ble_eq_true rfl) dX7_reap_10 ?_
  refine g_nmI zf ?_
  clear zf; intro vq2 zf
  refine pfX7_81 h zk_x1 dX7_reap_13 ?_
  refine g_nmM zf ?_
  clear zf; intro Mq3 zf
  refine g_aload_n h 1 rfl dX7_reap_16 ?_
  refine g_sipush h 999 (v := 999) (by decide) dX7_reap_17 ?_
  refine g_aload_n h 1 rfl dX7_reap_20 ?_
  refine gfX7_90 h zk_x1 dX7_reap_21 ?_
  refine g_nmI zf ?_
  clear zf; intro vq4 zf
  refine g_aload_n h 1 rfl dX7_reap_24 ?_
  refine gfX7_90 h zk_x1 dX7_reap_25 ?_
  refine g_nmI zf ?_
  clear zf; intro vq5 zf
  refine g_bipush h 10 (v := 10) (by decide) dX7_reap_28 ?_
  refine g_idiv h (by decide) dX7_reap_30 ?_
  refine g_iadd h dX7_reap_31 ?_
  refine g_mmin h mlX7_84 smMathmin initMath ceMathmin (by decide) (Nat.le_of_ble_eq_true rfl) (Nat.le_of_ble_eq_true rfl) (Nat.le_of_ble_eq_true rfl) dX7_reap_32 ?_
  refine g_nmI zf ?_
  clear zf; intro vq6 zf
  refine pfX7_90 h zk_x1 dX7_reap_35 ?_
  refine g_nmM zf ?_
  clear zf; intro Mq7 zf
  obtain rfl := Option.some.inj zf
  exact g_vret h rfl ⟨rfl, rfl⟩ (Nat.le_refl _) (Nat.le_refl _) dX7_reap_38

theorem cmX7_reap {l : Launch} {w : WX} {M : Mem} {x1 : Nat} {x2 : Int32} {res : Mem} (zf : fX7_reap M x1 x2 = some res) : CM l w yX7_reap cX7_reap 3 none { frames := 6, cells := 0, slots := 0, locals := 160 } 0 0 [rv w 28, rv w x1, .int x2] M (Pwv res) := by
  refine CM_of (by decide) (Nat.le_of_ble_eq_true rfl) (fun G hw hl h => ?_)
  subst hw
  exact kX7_reap_e0 h zf

-- X3_become
theorem kX3_become_e0 {G : GX} (h : OKm G cX3_become RX3 2 none { frames := 1, cells := 0, slots := 0, locals := 200 }) {M : Mem} {x0 : Nat} {x1 : Nat} {res : Mem} (zf : fX3_become M x0 x1 = some res) : GG G (Qm G (Pwv res) 0 0) 0 0 0 [(0, rv G.1 x0), (1, rv G.1 x1)] [] M := by
  unfold fX3_become at zf
  have zf1 := pre_ck zf
  clear zf; obtain ⟨zk_x0, zf⟩ := zf1
  have zf1 := pre_ck zf
  clear zf; obtain ⟨zk_x1, zf⟩ := zf1
  refine g_aload_n h 0 rfl dX3_become_0 ?_
  refine g_aload_n h 1 rfl dX3_become_1 ?_
  refine gfX3_27 h zk_x1 dX3_become_2 ?_
  refine g_nmI zf ?_
  clear zf; intro vq1 zf
  refine pfX3_27 h zk_x0 dX3_become_5 ?_
  refine g_nmM zf ?_
  clear zf; intro Mq2 zf
  refine g_aload_n h 0 rfl dX3_become_8 ?_
  refine g_aload_n h 1 rfl dX3_become_9 ?_
  refine gfX3_31 h zk_x1 dX3_become_10 ?_
  refine g_nmI zf ?_
  clear zf; intro vq3 zf
  refine pfX3_31 h zk_x0 dX3_become_13 ?_
  refine g_nmM zf ?_
  clear zf; intro Mq4 zf
  refine g_aload_n h 0 rfl dX3_become_16 ?_
  refine g_aload_n h 1 rfl dX3_become_17 ?_
  refine gfX3_34 h zk_x1 dX3_become_18 ?_
  refine g_nmI zf ?_
  clear zf; intro vq5 zf
  refine pfX3_34 h zk_x0 dX3_become_21 ?_
  refine g_nmM zf ?_
  clear zf; intro Mq6 zf
  refine g_aload_n h 0 rfl dX3_become_24 ?_
  refine g_aload_n h 1 rfl dX3_become_25 ?_
  refine gfX3_37 h zk_x1 dX3_become_26 ?_
  refine g_nmI zf ?_
  clear zf; intro vq7 zf
  refine pfX3_37 h zk_x0 dX3_become_29 ?_
  refine g_nmM zf ?_
  clear zf; intro Mq8 zf
  refine g_aload_n h 0 rfl dX3_become_32 ?_
  refine g_aload_n h 1 rfl dX3_become_33 ?_
  refine gfX3_40 h zk_x1 dX3_become_34 ?_
  refine g_nmI zf ?_
  clear zf; intro vq9 zf
  refine pfX3_40 h zk_x0 dX3_become_37 ?_
  refine g_nmM zf ?_
  clear zf; intro Mq10 zf
  refine g_aload_n h 0 rfl dX3_become_40 ?_
  refine g_aload_n h 1 rfl dX3_become_41 ?_
  refine gfX3_43 h zk_x1 dX3_become_42 ?_
  refine g_nmI zf ?_
  clear zf; intro vq11 zf
  refine pfX3_43 h zk_x0 dX3_become_45 ?_
  refine g_nmM zf ?_
  clear zf; intro Mq12 zf
  refine g_aload_n h 0 rfl dX3_become_48 ?_
  refine g_aload_n h 1 rfl dX3_become_49 ?_
  refine gfX3_46 h zk_x1 dX3_become_50 ?_
  refine g_nmI zf ?_
  clear zf; intro vq13 zf
  refine pfX3_46 h zk_x0 dX3_become_53 ?_
  refine g_nmM zf ?_
  clear zf; intro Mq14 zf
  refine g_aload_n h 0 rfl dX3_become_56 ?_
  refine g_aload_n h 1 rfl dX3_become_57 ?_
  refine gfX3_49 h zk_x1 dX3_become_58 ?_
  refine g_nmI zf ?_
  clear zf; intro vq15 zf
  refine pfX3_49 h zk_x0 dX3_become_61 ?_
  refine g_nmM zf ?_
  clear zf; intro Mq16 zf
  refine g_aload_n h 0 rfl dX3_become_64 ?_
  refine g_aload_n h 1 rfl dX3_become_65 ?_
  refine gfX3_52 h zk_x1 dX3_become_66 ?_
  refine g_nmI zf ?_
  clear zf; intro vq17 zf
  refine pfX3_52 h zk_x0 dX3_become_69 ?_
  refine g_nmM zf ?_
  clear zf; intro Mq18 zf
  refine g_aload_n h 1 rfl dX3_become_72 ?_
  refine gfX3_9 h zk_x1 dX3_become_73 ?_
  refine g_iconst h 0 (v := 0) (by decide) dX3_become_76 ?_
  refine g_aload_n h 0 rfl dX3_become_77 ?_
  refine gfX3_9 h zk_x0 dX3_become_78 ?_
  refine g_iconst h 0 (v := 0) (by decide) dX3_become_81 ?_
  refine g_iconst h 2 (v := 2) (by decide) dX3_become_82 ?_
  refine g_copy h mlX3_59 natCopy smCopy initSystem (kf2_1 zk_x1) (lf2_1 zk_x1) (kf2_1 zk_x0) (lf2_1 zk_x0) zf (by decide) (Nat.le_of_ble_eq_true rfl) dX3_become_83 ?_
  clear zf; intro Mq19 zf
  refine g_aload_n h 1 rfl dX3_become_86 ?_
  refine gfX3_15 h zk_x1 dX3_become_87 ?_
  refine g_iconst h 0 (v := 0) (by decide) dX3_become_90 ?_
  refine g_aload_n h 0 rfl dX3_become_91 ?_
  refine gfX3_15 h zk_x0 dX3_become_92 ?_
  refine g_iconst h 0 (v := 0) (by decide) dX3_become_95 ?_
  refine g_iconst h 2 (v := 2) (by decide) dX3_become_96 ?_
  refine g_copy h mlX3_59 natCopy smCopy initSystem (kf2_2 zk_x1) (lf2_2 zk_x1) (kf2_2 zk_x0) (lf2_2 zk_x0) zf (by decide) (Nat.le_of_ble_eq_true rfl) dX3_become_97 ?_
  clear zf; intro Mq20 zf
  refine g_aload_n h 1 rfl dX3_become_100 ?_
  refine gfX3_18 h zk_x1 dX3_become_101 ?_
  refine g_iconst h 0 (v := 0) (by decide) dX3_become_104 ?_
  refine g_aload_n h 0 rfl dX3_become_105 ?_
  refine gfX3_18 h zk_x0 dX3_become_106 ?_
  refine g_iconst h 0 (v := 0) (by decide) dX3_become_109 ?_
  refine g_bipush h 12 (v := 12) (by decide) dX3_become_110 ?_
  refine g_copy h mlX3_59 natCopy smCopy initSystem (kf2_3 zk_x1) (lf2_3 zk_x1) (kf2_3 zk_x0) (lf2_3 zk_x0) zf (by decide) (Nat.le_of_ble_eq_true rfl) dX3_become_112 ?_
  clear zf; intro Mq21 zf
  refine g_aload_n h 1 rfl dX3_become_115 ?_
  refine gfX3_21 h zk_x1 dX3_become_116 ?_
  refine g_iconst h 0 (v := 0) (by decide) dX3_become_119 ?_
  refine g_aload_n h 0 rfl dX3_become_120 ?_
  refine gfX3_21 h zk_x0 dX3_become_121 ?_
  refine g_iconst h 0 (v := 0) (by decide) dX3_become_124 ?_
  refine g_bipush h 6 (v := 6) (by decide) dX3_become_125 ?_
  refine g_copy h mlX3_59 natCopy smCopy initSystem (kf2_4 zk_x1) (lf2_4 zk_x1) (kf2_4 zk_x0) (lf2_4 zk_x0) zf (by decide) (Nat.le_of_ble_eq_true rfl) dX3_become_127 ?_
  clear zf; intro Mq22 zf
  obtain rfl := Option.some.inj zf
  exact g_vret h rfl ⟨rfl, rfl⟩ (Nat.le_refl _) (Nat.le_refl _) dX3_become_130

theorem cmX3_become {l : Launch} {w : WX} {M : Mem} {x0 : Nat} {x1 : Nat} {res : Mem} (zf : fX3_become M x0 x1 = some res) : CM l w yX3_become cX3_become 2 none { frames := 1, cells := 0, slots := 0, locals := 200 } 0 0 [rv w x0, rv w x1] M (Pwv res) := by
  refine CM_of (by decide) (Nat.le_of_ble_eq_true rfl) (fun G hw hl h => ?_)
  subst hw
  exact kX3_become_e0 h zf

-- X7_perform
theorem kX7_perform_e0 {G : GX} (h : OKm G cX7_perform RX7 3 (some .boolean) { frames := 6, cells := 0, slots := 0, locals := 160 }) {M : Mem} {x1 : Nat} {x2 : Int32} {res : (Int32 × Mem)} (zf : fX7_perform M x1 x2 = some res) : GG G (Qm G (Pwi res) 0 0) 0 0 0 [(0, rv G.1 28), (1, rv G.1 x1), (2, .int x2)] [] M := by
  unfold fX7_perform at zf
  have zf1 := pre_ck zf
  clear zf; obtain ⟨zk_x1, zf⟩ := zf1
  refine g_iload_n h 2 rfl dX7_perform_0 ?_
  refine g_if_lt h 15 (by decide) zf dX7_perform_1 ?_ ?_ <;> clear zf <;> intro zf
  · refine g_iconst h 0 (v := 0) (by decide) dX7_perform_15 ?_
    obtain rfl := Option.some.inj zf
    exact g_zret h (by decide) rfl ⟨rfl, rfl⟩ (Nat.le_refl _) (Nat.le_refl _) dX7_perform_16
  · refine g_iload_n h 2 rfl dX7_perform_4 ?_
    refine g_aload_n h 0 rfl dX7_perform_5 ?_
    refine gfX7_12 h (by decide : kd 28 = 6) dX7_perform_6 ?_
    refine g_nmR zf ?_
    clear zf; intro oq1 zf
    have zf1 := pre_ck zf
    clear zf; obtain ⟨zk_oq1, zf⟩ := zf1
    refine gfX7_93 h zk_oq1 dX7_perform_9 ?_
    refine g_nmI zf ?_
    clear zf; intro vq2 zf
    refine g_ic_lt h 17 (by decide) zf dX7_perform_12 ?_ ?_ <;> clear zf <;> intro zf
    · refine g_aload_n h 0 rfl dX7_perform_17 ?_
      refine gfX7_12 h (by decide : kd 28 = 6) dX7_perform_18 ?_
      refine g_nmR zf ?_
      clear zf; intro oq3 zf
      have zf1 := pre_ck zf
      clear zf; obtain ⟨zk_oq3, zf⟩ := zf1
      refine gfX7_96 h zk_oq3 dX7_perform_21 ?_
      refine g_iload_n h 2 rfl dX7_perform_24 ?_
      refine g_iald h 7 (kf4_1 zk_oq3) (lf4_1 zk_oq3) zf dX7_perform_25 ?_
      clear zf; intro vq4 zf
      refine g_aload_n h 1 rfl dX7_perform_26 ?_
      refine gfX7_81 h zk_x1 dX7_perform_27 ?_
      refine g_nmI zf ?_
      clear zf; intro vq5 zf
      refine g_ic_le h 45 (by decide) zf dX7_perform_30 ?_ ?_ <;> clear zf <;> intro zf
      · refine g_aload_n h 1 rfl dX7_perform_45 ?_
        refine g_dup h rfl dX7_perform_46 ?_
        refine gfX7_81 h zk_x1 dX7_perform_47 ?_
        refine g_nmI zf ?_
        clear zf; intro vq6 zf
        refine g_aload_n h 0 rfl dX7_perform_50 ?_
        refine gfX7_12 h (by decide : kd 28 = 6) dX7_perform_51 ?_
        refine g_nmR zf ?_
        clear zf; intro oq7 zf
        have zf1 := pre_ck zf
        clear zf; obtain ⟨zk_oq7, zf⟩ := zf1
        refine gfX7_96 h zk_oq7 dX7_perform_54 ?_
        refine g_iload_n h 2 rfl dX7_perform_57 ?_
        refine g_iald h 7 (kf4_1 zk_oq7) (lf4_1 zk_oq7) zf dX7_perform_58 ?_
        clear zf; intro vq8 zf
        refine g_isub h dX7_perform_59 ?_
        refine pfX7_81 h zk_x1 dX7_perform_60 ?_
        refine g_nmM zf ?_
        clear zf; intro Mq9 zf
        refine g_aload_n h 1 rfl dX7_perform_63 ?_
        refine g_iconst h 0 (v := 0) (by decide) dX7_perform_64 ?_
        refine g_bipush h 99 (v := 99) (by decide) dX7_perform_65 ?_
        refine g_aload_n h 1 rfl dX7_perform_67 ?_
        refine gfX7_102 h zk_x1 dX7_perform_68 ?_
        refine g_nmI zf ?_
        clear zf; intro vq10 zf
        refine g_aload_n h 0 rfl dX7_perform_71 ?_
        refine gfX7_12 h (by decide : kd 28 = 6) dX7_perform_72 ?_
        refine g_nmR zf ?_
        clear zf; intro oq11 zf
        have zf1 := pre_ck zf
        clear zf; obtain ⟨zk_oq11, zf⟩ := zf1
        refine gfX7_105 h zk_oq11 dX7_perform_75 ?_
        refine g_iload_n h 2 rfl dX7_perform_78 ?_
        refine g_iald h 7 (kf4_2 zk_oq11) (lf4_2 zk_oq11) zf dX7_perform_79 ?_
        clear zf; intro vq12 zf
        refine g_iadd h dX7_perform_80 ?_
        refine g_mmin h mlX7_84 smMathmin initMath ceMathmin (by decide) (Nat.le_of_ble_eq_true rfl) (Nat.le_of_ble_eq_true rfl) (Nat.le_of_ble_eq_true rfl) dX7_perform_81 ?_
        refine g_nmI zf ?_
        clear zf; intro vq13 zf
        refine g_mmax h mlX7_108 smMathmax initMath ceMathmax (by decide) (Nat.le_of_ble_eq_true rfl) (Nat.le_of_ble_eq_true rfl) (Nat.le_of_ble_eq_true rfl) dX7_perform_84 ?_
        refine g_nmI zf ?_
        clear zf; intro vq14 zf
        refine pfX7_102 h zk_x1 dX7_perform_87 ?_
        refine g_nmM zf ?_
        clear zf; intro Mq15 zf
        refine g_aload_n h 1 rfl dX7_perform_90 ?_
        refine g_iconst h 0 (v := 0) (by decide) dX7_perform_91 ?_
        refine g_sipush h 999 (v := 999) (by decide) dX7_perform_92 ?_
        refine g_aload_n h 1 rfl dX7_perform_95 ?_
        refine gfX7_90 h zk_x1 dX7_perform_96 ?_
        refine g_nmI zf ?_
        clear zf; intro vq16 zf
        refine g_aload_n h 0 rfl dX7_perform_99 ?_
        refine gfX7_12 h (by decide : kd 28 = 6) dX7_perform_100 ?_
        refine g_nmR zf ?_
        clear zf; intro oq17 zf
        have zf1 := pre_ck zf
        clear zf; obtain ⟨zk_oq17, zf⟩ := zf1
        refine gfX7_111 h zk_oq17 dX7_perform_103 ?_
        refine g_iload_n h 2 rfl dX7_perform_106 ?_
        refine g_iald h 7 (kf4_3 zk_oq17) (lf4_3 zk_oq17) zf dX7_perform_107 ?_
        clear zf; intro vq18 zf
        refine g_iadd h dX7_perform_108 ?_
        refine g_mmin h mlX7_84 smMathmin initMath ceMathmin (by decide) (Nat.le_of_ble_eq_true rfl) (Nat.le_of_ble_eq_true rfl) (Nat.le_of_ble_eq_true rfl) dX7_perform_109 ?_
        refine g_nmI zf ?_
        clear zf; intro vq19 zf
        refine g_mmax h mlX7_108 smMathmax initMath ceMathmax (by decide) (Nat.le_of_ble_eq_true rfl) (Nat.le_of_ble_eq_true rfl) (Nat.le_of_ble_eq_true rfl) dX7_perform_112 ?_
        refine g_nmI zf ?_
        clear zf; intro vq20 zf
        refine pfX7_90 h zk_x1 dX7_perform_115 ?_
        refine g_nmM zf ?_
        clear zf; intro Mq21 zf
        refine g_aload_n h 1 rfl dX7_perform_118 ?_
        refine gfX7_114 h zk_x1 dX7_perform_119 ?_
        refine g_aload_n h 1 rfl dX7_perform_122 ?_
        refine gfX7_55 h zk_x1 dX7_perform_123 ?_
        refine g_nmI zf ?_
        clear zf; intro vq22 zf
        refine g_dup2 h rfl rfl dX7_perform_126 ?_
        refine g_iald h 2 (kf2_2 zk_x1) (lf2_2 zk_x1) zf dX7_perform_127 ?_
        clear zf; intro vq23 zf
        refine g_aload_n h 0 rfl dX7_perform_128 ?_
        refine gfX7_12 h (by decide : kd 28 = 6) dX7_perform_129 ?_
        refine g_nmR zf ?_
        clear zf; intro oq24 zf
        have zf1 := pre_ck zf
        clear zf; obtain ⟨zk_oq24, zf⟩ := zf1
        refine gfX7_117 h zk_oq24 dX7_perform_132 ?_
        refine g_iload_n h 2 rfl dX7_perform_135 ?_
        refine g_iald h 7 (kf4_4 zk_oq24) (lf4_4 zk_oq24) zf dX7_perform_136 ?_
        clear zf; intro vq25 zf
        refine g_iadd h dX7_perform_137 ?_
        refine g_iast h 2 (kf2_2 zk_x1) (lf2_2 zk_x1) zf dX7_perform_138 ?_
        clear zf; intro Mq26 zf
        refine g_iconst h 1 (v := 1) (by decide) dX7_perform_139 ?_
        obtain rfl := Option.some.inj zf
        exact g_zret h (by decide) rfl ⟨rfl, rfl⟩ (Nat.le_refl _) (Nat.le_refl _) dX7_perform_140
      · refine g_aload_n h 1 rfl dX7_perform_33 ?_
        refine g_dup h rfl dX7_perform_34 ?_
        refine gfX7_99 h zk_x1 dX7_perform_35 ?_
        refine g_nmI zf ?_
        clear zf; intro vq27 zf
        refine g_iconst h 1 (v := 1) (by decide) dX7_perform_38 ?_
        refine g_iadd h dX7_perform_39 ?_
        refine pfX7_99 h zk_x1 dX7_perform_40 ?_
        refine g_nmM zf ?_
        clear zf; intro Mq28 zf
        refine g_iconst h 0 (v := 0) (by decide) dX7_perform_43 ?_
        obtain rfl := Option.some.inj zf
        exact g_zret h (by decide) rfl ⟨rfl, rfl⟩ (Nat.le_refl _) (Nat.le_refl _) dX7_perform_44
    · refine g_iconst h 0 (v := 0) (by decide) dX7_perform_15 ?_
      obtain rfl := Option.some.inj zf
      exact g_zret h (by decide) rfl ⟨rfl, rfl⟩ (Nat.le_refl _) (Nat.le_refl _) dX7_perform_16

theorem cmX7_perform {l : Launch} {w : WX} {M : Mem} {x1 : Nat} {x2 : Int32} {res : (Int32 × Mem)} (zf : fX7_perform M x1 x2 = some res) : CM l w yX7_perform cX7_perform 3 (some .boolean) { frames := 6, cells := 0, slots := 0, locals := 160 } 0 0 [rv w 28, rv w x1, .int x2] M (Pwi res) := by
  refine CM_of (by decide) (Nat.le_of_ble_eq_true rfl) (fun G hw hl h => ?_)
  subst hw
  exact kX7_perform_e0 h zf

-- X7_age
theorem kX7_age_e0 {G : GX} (h : OKm G cX7_age RX7 2 none { frames := 0, cells := 0, slots := 0, locals := 0 }) {M : Mem} {x1 : Nat} {res : Mem} (zf : fX7_age M x1 = some res) : GG G (Qm G (Pwv res) 0 0) 0 0 0 [(0, rv G.1 28), (1, rv G.1 x1)] [] M := by
  unfold fX7_age at zf
  have zf1 := pre_ck zf
  clear zf; obtain ⟨zk_x1, zf⟩ := zf1
  refine g_aload_n h 1 rfl dX7_age_0 ?_
  refine g_dup h rfl dX7_age_1 ?_
  refine gfX7_48 h zk_x1 dX7_age_2 ?_
  refine g_nmI zf ?_
  clear zf; intro vq1 zf
  refine g_iconst h 1 (v := 1) (by decide) dX7_age_5 ?_
  refine g_iadd h dX7_age_6 ?_
  refine pfX7_48 h zk_x1 dX7_age_7 ?_
  refine g_nmM zf ?_
  clear zf; intro Mq2 zf
  refine g_aload_n h 1 rfl dX7_age_10 ?_
  refine gfX7_45 h zk_x1 dX7_age_11 ?_
  refine g_aload_n h 1 rfl dX7_age_14 ?_
  refine gfX7_55 h zk_x1 dX7_age_15 ?_
  refine g_nmI zf ?_
  clear zf; intro vq3 zf
  refine g_dup2 h rfl rfl dX7_age_18 ?_
  refine g_iald h 2 (kf2_1 zk_x1) (lf2_1 zk_x1) zf dX7_age_19 ?_
  clear zf; intro vq4 zf
  refine g_iconst h 1 (v := 1) (by decide) dX7_age_20 ?_
  refine g_iadd h dX7_age_21 ?_
  refine g_iast h 2 (kf2_1 zk_x1) (lf2_1 zk_x1) zf dX7_age_22 ?_
  clear zf; intro Mq5 zf
  refine g_aload_n h 1 rfl dX7_age_23 ?_
  refine g_dup h rfl dX7_age_24 ?_
  refine gfX7_118 h zk_x1 dX7_age_25 ?_
  refine g_nmI zf ?_
  clear zf; intro vq6 zf
  refine g_iconst h 1 (v := 1) (by decide) dX7_age_28 ?_
  refine g_iadd h dX7_age_29 ?_
  refine pfX7_118 h zk_x1 dX7_age_30 ?_
  refine g_nmM zf ?_
  clear zf; intro Mq7 zf
  obtain rfl := Option.some.inj zf
  exact g_vret h rfl ⟨rfl, rfl⟩ (Nat.le_refl _) (Nat.le_refl _) dX7_age_33

theorem cmX7_age {l : Launch} {w : WX} {M : Mem} {x1 : Nat} {res : Mem} (zf : fX7_age M x1 = some res) : CM l w yX7_age cX7_age 2 none { frames := 0, cells := 0, slots := 0, locals := 0 } 0 0 [rv w 28, rv w x1] M (Pwv res) := by
  refine CM_of (by decide) (Nat.le_of_ble_eq_true rfl) (fun G hw hl h => ?_)
  subst hw
  exact kX7_age_e0 h zf

-- X8_isTold
theorem kX8_isTold_e0 {G : GX} (h : OKm G cX8_isTold RX8 1 (some .boolean) { frames := 0, cells := 0, slots := 0, locals := 0 }) {M : Mem} {x0 : Nat} {res : Int32} (zf : fX8_isTold M x0 = some res) : GG G (Qm G (Pri res M) 0 0) 0 0 0 [(0, rv G.1 x0)] [] M := by
  unfold fX8_isTold at zf
  have zf1 := pre_ck zf
  clear zf; obtain ⟨zk_x0, zf⟩ := zf1
  refine g_aload_n h 0 rfl dX8_isTold_0 ?_
  refine gfX8_13 h zk_x0 dX8_isTold_1 ?_
  refine g_nmI zf ?_
  clear zf; intro vq1 zf
  refine g_aload_n h 0 rfl dX8_isTold_4 ?_
  refine gfX8_7 h zk_x0 dX8_isTold_5 ?_
  refine g_nmI zf ?_
  clear zf; intro vq2 zf
  refine g_ic_le h 15 (by decide) zf dX8_isTold_8 ?_ ?_ <;> clear zf <;> intro zf
  · refine g_iconst h 0 (v := 0) (by decide) dX8_isTold_15 ?_
    obtain rfl := Option.some.inj zf
    exact g_zret h (by decide) rfl ⟨rfl, rfl⟩ (Nat.le_refl _) (Nat.le_refl _) dX8_isTold_16
  · refine g_iconst h 1 (v := 1) (by decide) dX8_isTold_11 ?_
    refine g_goto h 16 (by decide) dX8_isTold_12 ?_
    obtain rfl := Option.some.inj zf
    exact g_zret h (by decide) rfl ⟨rfl, rfl⟩ (Nat.le_refl _) (Nat.le_refl _) dX8_isTold_16

theorem cmX8_isTold {l : Launch} {w : WX} {M : Mem} {x0 : Nat} {res : Int32} (zf : fX8_isTold M x0 = some res) : CM l w yX8_isTold cX8_isTold 1 (some .boolean) { frames := 0, cells := 0, slots := 0, locals := 0 } 0 0 [rv w x0] M (Pri res M) := by
  refine CM_of (by decide) (Nat.le_of_ble_eq_true rfl) (fun G hw hl h => ?_)
  subst hw
  exact kX8_isTold_e0 h zf

-- X8_evaluate
theorem kX8_evaluate_b299 {G : GX} (h : OKm G cX8_evaluate RX8 9 (some .int) { frames := 0, cells := 0, slots := 0, locals := 0 }) {a8 : Mem → Nat → Nat → Nat → Int32 → Int32 → Option (Int32 × Mem)} (zh8 : ∀ (M : Mem) (x0 : Nat) (x1 : Nat) (x2 : Nat) (x3 : Int32) (x4 : Int32) (res : (Int32 × Mem)), a8 M x0 x1 x2 x3 x4 = some res → GG G (Qm G (Pwi res) 0 0) 0 0 8 [(0, rv G.1 x0), (1, rv G.1 x1), (2, rv G.1 x2), (3, .int x3), (4, .int x4)] [] M) {M : Mem} {x0 : Nat} {x1 : Nat} {x2 : Nat} {x3 : Int32} {x4 : Int32} {res : (Int32 × Mem)} (zf : fX8_evaluate_b299 a8 M x0 x1 x2 x3 x4 = some res) : GG G (Qm G (Pwi res) 0 0) 0 0 299 [(0, rv G.1 x0), (1, rv G.1 x1), (2, rv G.1 x2), (3, .int x3), (4, .int x4)] [] M := by
  unfold fX8_evaluate_b299 at zf
  have zf1 := pre_ck zf
  clear zf; obtain ⟨zk_x0, zf⟩ := zf1
  have zf1 := pre_ck zf
  clear zf; obtain ⟨zk_x1, zf⟩ := zf1
  have zf1 := pre_ck zf
  clear zf; obtain ⟨zk_x2, zf⟩ := zf1
  refine g_iinc h 4 4 rfl (v := x4 + 1) (congrArg (fun z => x4 + z) (by decide : Int32.ofInt (1) = (1 : Int32))) [(4, .int (x4 + 1)), (0, rv G.1 x0), (1, rv G.1 x1), (2, rv G.1 x2), (3, .int x3)] (by decide) rfl dX8_evaluate_299 ?_
  refine g_nmV zf ?_
  clear zf; intro vq10 zf
  refine g_goto h 8 (by decide) dX8_evaluate_302 ?_
  refine g_sub h [1, 2, 3, 4, 0] rfl ?_
  exact zh8 _ _ _ _ _ _ _ zf

theorem kX8_evaluate_b292 {G : GX} (h : OKm G cX8_evaluate RX8 9 (some .int) { frames := 0, cells := 0, slots := 0, locals := 0 }) {a8 : Mem → Nat → Nat → Nat → Int32 → Int32 → Option (Int32 × Mem)} (zh8 : ∀ (M : Mem) (x0 : Nat) (x1 : Nat) (x2 : Nat) (x3 : Int32) (x4 : Int32) (res : (Int32 × Mem)), a8 M x0 x1 x2 x3 x4 = some res → GG G (Qm G (Pwi res) 0 0) 0 0 8 [(0, rv G.1 x0), (1, rv G.1 x1), (2, rv G.1 x2), (3, .int x3), (4, .int x4)] [] M) {M : Mem} {x0 : Nat} {x1 : Nat} {x2 : Nat} {x3 : Int32} {x4 : Int32} {x8 : Int32} {res : (Int32 × Mem)} (zf : fX8_evaluate_b292 a8 M x0 x1 x2 x3 x4 x8 = some res) : GG G (Qm G (Pwi res) 0 0) 0 0 292 [(0, rv G.1 x0), (1, rv G.1 x1), (2, rv G.1 x2), (3, .int x3), (4, .int x4), (8, .int x8)] [] M := by
  unfold fX8_evaluate_b292 at zf
  have zf1 := pre_ck zf
  clear zf; obtain ⟨zk_x0, zf⟩ := zf1
  have zf1 := pre_ck zf
  clear zf; obtain ⟨zk_x1, zf⟩ := zf1
  have zf1 := pre_ck zf
  clear zf; obtain ⟨zk_x2, zf⟩ := zf1
  refine g_aload_n h 2 rfl dX8_evaluate_292 ?_
  refine g_iload_n h 3 rfl dX8_evaluate_293 ?_
  refine g_iconst h 1 (v := 1) (by decide) dX8_evaluate_294 ?_
  refine g_isub h dX8_evaluate_295 ?_
  refine g_iload h 5 rfl dX8_evaluate_296 ?_
  refine g_iast h (ln x2) zk_x2 rfl zf dX8_evaluate_298 ?_
  clear zf; intro Mq9 zf
  refine g_sub h [0, 1, 2, 3, 4] rfl ?_
  exact kX8_evaluate_b299 h zh8 zf

theorem kX8_evaluate_b241 {G : GX} (h : OKm G cX8_evaluate RX8 9 (some .int) { frames := 0, cells := 0, slots := 0, locals := 0 }) {a8 : Mem → Nat → Nat → Nat → Int32 → Int32 → Option (Int32 × Mem)} (zh8 : ∀ (M : Mem) (x0 : Nat) (x1 : Nat) (x2 : Nat) (x3 : Int32) (x4 : Int32) (res : (Int32 × Mem)), a8 M x0 x1 x2 x3 x4 = some res → GG G (Qm G (Pwi res) 0 0) 0 0 8 [(0, rv G.1 x0), (1, rv G.1 x1), (2, rv G.1 x2), (3, .int x3), (4, .int x4)] [] M) {M : Mem} {x0 : Nat} {x1 : Nat} {x2 : Nat} {x3 : Int32} {x4 : Int32} {s0 : Int32} {res : (Int32 × Mem)} (zf : fX8_evaluate_b241 a8 M x0 x1 x2 x3 x4 s0 = some res) : GG G (Qm G (Pwi res) 0 0) 0 0 241 [(0, rv G.1 x0), (1, rv G.1 x1), (2, rv G.1 x2), (3, .int x3), (4, .int x4)] [.int s0] M := by
  unfold fX8_evaluate_b241 at zf
  have zf1 := pre_ck zf
  clear zf; obtain ⟨zk_x0, zf⟩ := zf1
  have zf1 := pre_ck zf
  clear zf; obtain ⟨zk_x1, zf⟩ := zf1
  have zf1 := pre_ck zf
  clear zf; obtain ⟨zk_x2, zf⟩ := zf1
  refine g_istore h [(8, .int s0), (0, rv G.1 x0), (1, rv G.1 x1), (2, rv G.1 x2), (3, .int x3), (4, .int x4)] (by decide) rfl dX8_evaluate_241 ?_
  refine g_goto h 292 (by decide) dX8_evaluate_243 ?_
  refine g_sub h [1, 2, 3, 4, 5, 0] rfl ?_
  exact kX8_evaluate_b292 h zh8 zf

theorem kX8_evaluate_b224 {G : GX} (h : OKm G cX8_evaluate RX8 9 (some .int) { frames := 0, cells := 0, slots := 0, locals := 0 }) {a8 : Mem → Nat → Nat → Nat → Int32 → Int32 → Option (Int32 × Mem)} (zh8 : ∀ (M : Mem) (x0 : Nat) (x1 : Nat) (x2 : Nat) (x3 : Int32) (x4 : Int32) (res : (Int32 × Mem)), a8 M x0 x1 x2 x3 x4 = some res → GG G (Qm G (Pwi res) 0 0) 0 0 8 [(0, rv G.1 x0), (1, rv G.1 x1), (2, rv G.1 x2), (3, .int x3), (4, .int x4)] [] M) {M : Mem} {x0 : Nat} {x1 : Nat} {x2 : Nat} {x3 : Int32} {x4 : Int32} {s0 : Int32} {res : (Int32 × Mem)} (zf : fX8_evaluate_b224 a8 M x0 x1 x2 x3 x4 s0 = some res) : GG G (Qm G (Pwi res) 0 0) 0 0 224 [(0, rv G.1 x0), (1, rv G.1 x1), (2, rv G.1 x2), (3, .int x3), (4, .int x4)] [.int s0] M := by
  unfold fX8_evaluate_b224 at zf
  have zf1 := pre_ck zf
  clear zf; obtain ⟨zk_x0, zf⟩ := zf1
  have zf1 := pre_ck zf
  clear zf; obtain ⟨zk_x1, zf⟩ := zf1
  have zf1 := pre_ck zf
  clear zf; obtain ⟨zk_x2, zf⟩ := zf1
  refine g_istore h [(8, .int s0), (0, rv G.1 x0), (1, rv G.1 x1), (2, rv G.1 x2), (3, .int x3), (4, .int x4)] (by decide) rfl dX8_evaluate_224 ?_
  refine g_goto h 292 (by decide) dX8_evaluate_226 ?_
  refine g_sub h [1, 2, 3, 4, 5, 0] rfl ?_
  exact kX8_evaluate_b292 h zh8 zf

theorem kX8_evaluate_b207 {G : GX} (h : OKm G cX8_evaluate RX8 9 (some .int) { frames := 0, cells := 0, slots := 0, locals := 0 }) {a8 : Mem → Nat → Nat → Nat → Int32 → Int32 → Option (Int32 × Mem)} (zh8 : ∀ (M : Mem) (x0 : Nat) (x1 : Nat) (x2 : Nat) (x3 : Int32) (x4 : Int32) (res : (Int32 × Mem)), a8 M x0 x1 x2 x3 x4 = some res → GG G (Qm G (Pwi res) 0 0) 0 0 8 [(0, rv G.1 x0), (1, rv G.1 x1), (2, rv G.1 x2), (3, .int x3), (4, .int x4)] [] M) {M : Mem} {x0 : Nat} {x1 : Nat} {x2 : Nat} {x3 : Int32} {x4 : Int32} {s0 : Int32} {res : (Int32 × Mem)} (zf : fX8_evaluate_b207 a8 M x0 x1 x2 x3 x4 s0 = some res) : GG G (Qm G (Pwi res) 0 0) 0 0 207 [(0, rv G.1 x0), (1, rv G.1 x1), (2, rv G.1 x2), (3, .int x3), (4, .int x4)] [.int s0] M := by
  unfold fX8_evaluate_b207 at zf
  have zf1 := pre_ck zf
  clear zf; obtain ⟨zk_x0, zf⟩ := zf1
  have zf1 := pre_ck zf
  clear zf; obtain ⟨zk_x1, zf⟩ := zf1
  have zf1 := pre_ck zf
  clear zf; obtain ⟨zk_x2, zf⟩ := zf1
  refine g_istore h [(8, .int s0), (0, rv G.1 x0), (1, rv G.1 x1), (2, rv G.1 x2), (3, .int x3), (4, .int x4)] (by decide) rfl dX8_evaluate_207 ?_
  refine g_goto h 292 (by decide) dX8_evaluate_209 ?_
  refine g_sub h [1, 2, 3, 4, 5, 0] rfl ?_
  exact kX8_evaluate_b292 h zh8 zf

theorem kX8_evaluate_b206 {G : GX} (h : OKm G cX8_evaluate RX8 9 (some .int) { frames := 0, cells := 0, slots := 0, locals := 0 }) {a8 : Mem → Nat → Nat → Nat → Int32 → Int32 → Option (Int32 × Mem)} (zh8 : ∀ (M : Mem) (x0 : Nat) (x1 : Nat) (x2 : Nat) (x3 : Int32) (x4 : Int32) (res : (Int32 × Mem)), a8 M x0 x1 x2 x3 x4 = some res → GG G (Qm G (Pwi res) 0 0) 0 0 8 [(0, rv G.1 x0), (1, rv G.1 x1), (2, rv G.1 x2), (3, .int x3), (4, .int x4)] [] M) {M : Mem} {x0 : Nat} {x1 : Nat} {x2 : Nat} {x3 : Int32} {x4 : Int32} {res : (Int32 × Mem)} (zf : fX8_evaluate_b206 a8 M x0 x1 x2 x3 x4 = some res) : GG G (Qm G (Pwi res) 0 0) 0 0 206 [(0, rv G.1 x0), (1, rv G.1 x1), (2, rv G.1 x2), (3, .int x3), (4, .int x4)] [] M := by
  unfold fX8_evaluate_b206 at zf
  have zf1 := pre_ck zf
  clear zf; obtain ⟨zk_x0, zf⟩ := zf1
  have zf1 := pre_ck zf
  clear zf; obtain ⟨zk_x1, zf⟩ := zf1
  have zf1 := pre_ck zf
  clear zf; obtain ⟨zk_x2, zf⟩ := zf1
  refine g_iconst h 0 (v := 0) (by decide) dX8_evaluate_206 ?_
  refine g_sub h [0, 1, 2, 3, 4] rfl ?_
  exact kX8_evaluate_b207 h zh8 zf

theorem kX8_evaluate_b187 {G : GX} (h : OKm G cX8_evaluate RX8 9 (some .int) { frames := 0, cells := 0, slots := 0, locals := 0 }) {a8 : Mem → Nat → Nat → Nat → Int32 → Int32 → Option (Int32 × Mem)} (zh8 : ∀ (M : Mem) (x0 : Nat) (x1 : Nat) (x2 : Nat) (x3 : Int32) (x4 : Int32) (res : (Int32 × Mem)), a8 M x0 x1 x2 x3 x4 = some res → GG G (Qm G (Pwi res) 0 0) 0 0 8 [(0, rv G.1 x0), (1, rv G.1 x1), (2, rv G.1 x2), (3, .int x3), (4, .int x4)] [] M) {M : Mem} {x0 : Nat} {x1 : Nat} {x2 : Nat} {x3 : Int32} {x4 : Int32} {s0 : Int32} {res : (Int32 × Mem)} (zf : fX8_evaluate_b187 a8 M x0 x1 x2 x3 x4 s0 = some res) : GG G (Qm G (Pwi res) 0 0) 0 0 187 [(0, rv G.1 x0), (1, rv G.1 x1), (2, rv G.1 x2), (3, .int x3), (4, .int x4)] [.int s0] M := by
  unfold fX8_evaluate_b187 at zf
  have zf1 := pre_ck zf
  clear zf; obtain ⟨zk_x0, zf⟩ := zf1
  have zf1 := pre_ck zf
  clear zf; obtain ⟨zk_x1, zf⟩ := zf1
  have zf1 := pre_ck zf
  clear zf; obtain ⟨zk_x2, zf⟩ := zf1
  refine g_istore h [(8, .int s0), (0, rv G.1 x0), (1, rv G.1 x1), (2, rv G.1 x2), (3, .int x3), (4, .int x4)] (by decide) rfl dX8_evaluate_187 ?_
  refine g_goto h 292 (by decide) dX8_evaluate_189 ?_
  refine g_sub h [1, 2, 3, 4, 5, 0] rfl ?_
  exact kX8_evaluate_b292 h zh8 zf

theorem kX8_evaluate_b182 {G : GX} (h : OKm G cX8_evaluate RX8 9 (some .int) { frames := 0, cells := 0, slots := 0, locals := 0 }) {a8 : Mem → Nat → Nat → Nat → Int32 → Int32 → Option (Int32 × Mem)} (zh8 : ∀ (M : Mem) (x0 : Nat) (x1 : Nat) (x2 : Nat) (x3 : Int32) (x4 : Int32) (res : (Int32 × Mem)), a8 M x0 x1 x2 x3 x4 = some res → GG G (Qm G (Pwi res) 0 0) 0 0 8 [(0, rv G.1 x0), (1, rv G.1 x1), (2, rv G.1 x2), (3, .int x3), (4, .int x4)] [] M) {M : Mem} {x0 : Nat} {x1 : Nat} {x2 : Nat} {x3 : Int32} {x4 : Int32} {res : (Int32 × Mem)} (zf : fX8_evaluate_b182 a8 M x0 x1 x2 x3 x4 = some res) : GG G (Qm G (Pwi res) 0 0) 0 0 182 [(0, rv G.1 x0), (1, rv G.1 x1), (2, rv G.1 x2), (3, .int x3), (4, .int x4)] [] M := by
  unfold fX8_evaluate_b182 at zf
  have zf1 := pre_ck zf
  clear zf; obtain ⟨zk_x0, zf⟩ := zf1
  have zf1 := pre_ck zf
  clear zf; obtain ⟨zk_x1, zf⟩ := zf1
  have zf1 := pre_ck zf
  clear zf; obtain ⟨zk_x2, zf⟩ := zf1
  refine g_iconst h 1 (v := 1) (by decide) dX8_evaluate_182 ?_
  refine g_goto h 187 (by decide) dX8_evaluate_183 ?_
  refine g_sub h [0, 1, 2, 3, 4] rfl ?_
  exact kX8_evaluate_b187 h zh8 zf

theorem kX8_evaluate_b290 {G : GX} (h : OKm G cX8_evaluate RX8 9 (some .int) { frames := 0, cells := 0, slots := 0, locals := 0 }) {a8 : Mem → Nat → Nat → Nat → Int32 → Int32 → Option (Int32 × Mem)} (zh8 : ∀ (M : Mem) (x0 : Nat) (x1 : Nat) (x2 : Nat) (x3 : Int32) (x4 : Int32) (res : (Int32 × Mem)), a8 M x0 x1 x2 x3 x4 = some res → GG G (Qm G (Pwi res) 0 0) 0 0 8 [(0, rv G.1 x0), (1, rv G.1 x1), (2, rv G.1 x2), (3, .int x3), (4, .int x4)] [] M) {M : Mem} {x0 : Nat} {x1 : Nat} {x2 : Nat} {x3 : Int32} {x4 : Int32} {s0 : Int32} {res : (Int32 × Mem)} (zf : fX8_evaluate_b290 a8 M x0 x1 x2 x3 x4 s0 = some res) : GG G (Qm G (Pwi res) 0 0) 0 0 290 [(0, rv G.1 x0), (1, rv G.1 x1), (2, rv G.1 x2), (3, .int x3), (4, .int x4)] [.int s0] M := by
  unfold fX8_evaluate_b290 at zf
  have zf1 := pre_ck zf
  clear zf; obtain ⟨zk_x0, zf⟩ := zf1
  have zf1 := pre_ck zf
  clear zf; obtain ⟨zk_x1, zf⟩ := zf1
  have zf1 := pre_ck zf
  clear zf; obtain ⟨zk_x2, zf⟩ := zf1
  refine g_istore h [(8, .int s0), (0, rv G.1 x0), (1, rv G.1 x1), (2, rv G.1 x2), (3, .int x3), (4, .int x4)] (by decide) rfl dX8_evaluate_290 ?_
  refine g_sub h [1, 2, 3, 4, 5, 0] rfl ?_
  exact kX8_evaluate_b292 h zh8 zf

theorem kX8_evaluate_b97 {G : GX} (h : OKm G cX8_evaluate RX8 9 (some .int) { frames := 0, cells := 0, slots := 0, locals := 0 }) {a8 : Mem → Nat → Nat → Nat → Int32 → Int32 → Option (Int32 × Mem)} (zh8 : ∀ (M : Mem) (x0 : Nat) (x1 : Nat) (x2 : Nat) (x3 : Int32) (x4 : Int32) (res : (Int32 × Mem)), a8 M x0 x1 x2 x3 x4 = some res → GG G (Qm G (Pwi res) 0 0) 0 0 8 [(0, rv G.1 x0), (1, rv G.1 x1), (2, rv G.1 x2), (3, .int x3), (4, .int x4)] [] M) {M : Mem} {x0 : Nat} {x1 : Nat} {x2 : Nat} {x3 : Int32} {x4 : Int32} {s0 : Int32} {s1 : Int32} {s2 : Nat} {res : (Int32 × Mem)} (zf : fX8_evaluate_b97 a8 M x0 x1 x2 x3 x4 s0 s1 s2 = some res) : GG G (Qm G (Pwi res) 0 0) 0 0 97 [(0, rv G.1 x0), (1, rv G.1 x1), (2, rv G.1 x2), (3, .int x3), (4, .int x4)] [.int s0, .int s1, rv G.1 s2] M := by
  unfold fX8_evaluate_b97 at zf
  have zf1 := pre_ck zf
  clear zf; obtain ⟨zk_x0, zf⟩ := zf1
  have zf1 := pre_ck zf
  clear zf; obtain ⟨zk_x1, zf⟩ := zf1
  have zf1 := pre_ck zf
  clear zf; obtain ⟨zk_x2, zf⟩ := zf1
  have zf1 := pre_ck zf
  clear zf; obtain ⟨zk_s2, zf⟩ := zf1
  refine g_iast h (ln s2) zk_s2 rfl zf dX8_evaluate_97 ?_
  clear zf; intro Mq14 zf
  refine g_goto h 299 (by decide) dX8_evaluate_98 ?_
  refine g_sub h [0, 1, 2, 3, 4] rfl ?_
  exact kX8_evaluate_b299 h zh8 zf

theorem kX8_evaluate_b59 {G : GX} (h : OKm G cX8_evaluate RX8 9 (some .int) { frames := 0, cells := 0, slots := 0, locals := 0 }) {a8 : Mem → Nat → Nat → Nat → Int32 → Int32 → Option (Int32 × Mem)} (zh8 : ∀ (M : Mem) (x0 : Nat) (x1 : Nat) (x2 : Nat) (x3 : Int32) (x4 : Int32) (res : (Int32 × Mem)), a8 M x0 x1 x2 x3 x4 = some res → GG G (Qm G (Pwi res) 0 0) 0 0 8 [(0, rv G.1 x0), (1, rv G.1 x1), (2, rv G.1 x2), (3, .int x3), (4, .int x4)] [] M) {M : Mem} {x0 : Nat} {x1 : Nat} {x2 : Nat} {x3 : Int32} {x4 : Int32} {s0 : Int32} {s1 : Int32} {s2 : Nat} {res : (Int32 × Mem)} (zf : fX8_evaluate_b59 a8 M x0 x1 x2 x3 x4 s0 s1 s2 = some res) : GG G (Qm G (Pwi res) 0 0) 0 0 59 [(0, rv G.1 x0), (1, rv G.1 x1), (2, rv G.1 x2), (3, .int x3), (4, .int x4)] [.int s0, .int s1, rv G.1 s2] M := by
  unfold fX8_evaluate_b59 at zf
  have zf1 := pre_ck zf
  clear zf; obtain ⟨zk_x0, zf⟩ := zf1
  have zf1 := pre_ck zf
  clear zf; obtain ⟨zk_x1, zf⟩ := zf1
  have zf1 := pre_ck zf
  clear zf; obtain ⟨zk_x2, zf⟩ := zf1
  have zf1 := pre_ck zf
  clear zf; obtain ⟨zk_s2, zf⟩ := zf1
  refine g_iast h (ln s2) zk_s2 rfl zf dX8_evaluate_59 ?_
  clear zf; intro Mq16 zf
  refine g_iinc h 3 3 rfl (v := x3 + 1) (congrArg (fun z => x3 + z) (by decide : Int32.ofInt (1) = (1 : Int32))) [(3, .int (x3 + 1)), (0, rv G.1 x0), (1, rv G.1 x1), (2, rv G.1 x2), (4, .int x4)] (by decide) rfl dX8_evaluate_60 ?_
  refine g_nmV zf ?_
  clear zf; intro vq17 zf
  refine g_goto h 299 (by decide) dX8_evaluate_63 ?_
  refine g_sub h [1, 2, 3, 0, 4] rfl ?_
  exact kX8_evaluate_b299 h zh8 zf

theorem kX8_evaluate_l8 {G : GX} (h : OKm G cX8_evaluate RX8 9 (some .int) { frames := 0, cells := 0, slots := 0, locals := 0 }) : ∀ (n : Nat) (M : Mem) (x0 : Nat) (x1 : Nat) (x2 : Nat) (x3 : Int32) (x4 : Int32) (res : (Int32 × Mem)), fX8_evaluate_l8 n M x0 x1 x2 x3 x4 = some res → GG G (Qm G (Pwi res) 0 0) 0 0 8 [(0, rv G.1 x0), (1, rv G.1 x1), (2, rv G.1 x2), (3, .int x3), (4, .int x4)] [] M := by
  intro n
  induction n with
  | zero => intro M x0 x1 x2 x3 x4 res zf; rw [fX8_evaluate_l8] at zf; cases zf
  | succ n ih =>
    intro M x0 x1 x2 x3 x4 res zf
    rw [fX8_evaluate_l8] at zf
    have zf1 := pre_ck zf
    clear zf; obtain ⟨zk_x0, zf⟩ := zf1
    have zf1 := pre_ck zf
    clear zf; obtain ⟨zk_x1, zf⟩ := zf1
    have zf1 := pre_ck zf
    clear zf; obtain ⟨zk_x2, zf⟩ := zf1
    refine g_iload h 4 rfl dX8_evaluate_8 ?_
    refine g_aload_n h 0 rfl dX8_evaluate_10 ?_
    refine gfX8_13 h zk_x0 dX8_evaluate_11 ?_
    refine g_nmI zf ?_
    clear zf; intro vq2 zf
    refine g_ic_ge h 305 (by decide) zf dX8_evaluate_14 ?_ ?_ <;> clear zf <;> intro zf
    · refine g_iload_n h 3 rfl dX8_evaluate_305 ?_
      refine g_if_le h 315 (by decide) zf dX8_evaluate_306 ?_ ?_ <;> clear zf <;> intro zf
      · refine g_iconst h 0 (v := 0) (by decide) dX8_evaluate_315 ?_
        obtain rfl := Option.some.inj zf
        exact g_iret h rfl ⟨rfl, rfl⟩ (Nat.le_refl _) (Nat.le_refl _) dX8_evaluate_316
      · refine g_aload_n h 2 rfl dX8_evaluate_309 ?_
        refine g_iconst h 0 (v := 0) (by decide) dX8_evaluate_310 ?_
        refine g_iald h (ln x2) zk_x2 rfl zf dX8_evaluate_311 ?_
        clear zf; intro vq3 zf
        refine g_goto h 316 (by decide) dX8_evaluate_312 ?_
        obtain rfl := Option.some.inj zf
        exact g_iret h rfl ⟨rfl, rfl⟩ (Nat.le_refl _) (Nat.le_refl _) dX8_evaluate_316
    · refine g_aload_n h 0 rfl dX8_evaluate_17 ?_
      refine gfX8_20 h zk_x0 dX8_evaluate_18 ?_
      refine g_iload h 4 rfl dX8_evaluate_21 ?_
      refine g_iald h 700 (kfrc zk_x0) (lfrc zk_x0) zf dX8_evaluate_23 ?_
      clear zf; intro vq4 zf
      refine g_istore h [(5, .int vq4), (0, rv G.1 x0), (1, rv G.1 x1), (2, rv G.1 x2), (3, .int x3), (4, .int x4)] (by decide) rfl dX8_evaluate_24 ?_
      refine g_iload h 0 rfl dX8_evaluate_26 ?_
      refine g_bipush h (-6) (v := (-6)) (by decide) dX8_evaluate_28 ?_
      refine g_ic_lt h 66 (by decide) zf dX8_evaluate_30 ?_ ?_ <;> clear zf <;> intro zf
      · refine g_iload h 0 rfl dX8_evaluate_66 ?_
        refine g_bipush h (-7) (v := (-7)) (by decide) dX8_evaluate_68 ?_
        refine g_ic_ne h 101 (by decide) zf dX8_evaluate_70 ?_ ?_ <;> clear zf <;> intro zf
        · refine g_iload_n h 4 rfl dX8_evaluate_101 ?_
          refine g_iconst h 2 (v := 2) (by decide) dX8_evaluate_102 ?_
          refine g_ic_ge h 108 (by decide) zf dX8_evaluate_103 ?_ ?_ <;> clear zf <;> intro zf
          · refine g_iinc h 3 4 rfl (v := x3 + (-1)) (congrArg (fun z => x3 + z) (by decide : Int32.ofInt (-1) = (-1 : Int32))) [(3, .int (x3 + (-1))), (5, .int vq4), (0, rv G.1 x0), (1, rv G.1 x1), (2, rv G.1 x2), (4, .int x4)] (by decide) rfl dX8_evaluate_108 ?_
            refine g_nmV zf ?_
            clear zf; intro vq5 zf
            refine g_aload_n h 4 rfl dX8_evaluate_111 ?_
            refine g_iload_n h 0 rfl dX8_evaluate_112 ?_
            refine g_iconst h 1 (v := 1) (by decide) dX8_evaluate_113 ?_
            refine g_isub h dX8_evaluate_114 ?_
            refine g_iald h (ln x2) zk_x2 rfl zf dX8_evaluate_115 ?_
            clear zf; intro vq6 zf
            refine g_istore h [(6, .int vq6), (3, .int vq5), (5, .int vq4), (0, rv G.1 x0), (1, rv G.1 x1), (2, rv G.1 x2), (4, .int x4)] (by decide) rfl dX8_evaluate_116 ?_
            refine g_aload_n h 5 rfl dX8_evaluate_118 ?_
            refine g_iload_n h 1 rfl dX8_evaluate_119 ?_
            refine g_iald h (ln x2) zk_x2 rfl zf dX8_evaluate_120 ?_
            clear zf; intro vq7 zf
            refine g_istore h [(7, .int vq7), (6, .int vq6), (3, .int vq5), (5, .int vq4), (0, rv G.1 x0), (1, rv G.1 x1), (2, rv G.1 x2), (4, .int x4)] (by decide) rfl dX8_evaluate_121 ?_
            refine g_iconst h 0 (v := 0) (by decide) dX8_evaluate_123 ?_
            refine g_istore h [(8, .int 0), (7, .int vq7), (6, .int vq6), (3, .int vq5), (5, .int vq4), (0, rv G.1 x0), (1, rv G.1 x1), (2, rv G.1 x2), (4, .int x4)] (by decide) rfl dX8_evaluate_124 ?_
            refine g_iload h 4 rfl dX8_evaluate_126 ?_
            by_cases zx0 : vq4 = (-14)
            · rw [if_pos zx0] at zf
              refine g_tabIn h (off := 138) 266 (by rw [zx0]; decide) (by rw [zx0]; decide) (by rw [zx0]; decide) (by decide) dX8_evaluate_128 ?_
              refine g_iload h 2 rfl dX8_evaluate_266 ?_
              refine g_iload h 1 rfl dX8_evaluate_268 ?_
              refine g_imul h dX8_evaluate_270 ?_
              refine g_nmI zf ?_
              clear zf; intro vq8 zf
              refine g_istore h [(8, .int vq8), (7, .int vq7), (6, .int vq6), (3, .int vq5), (5, .int vq4), (0, rv G.1 x0), (1, rv G.1 x1), (2, rv G.1 x2), (4, .int x4)] (by decide) rfl dX8_evaluate_271 ?_
              refine g_goto h 292 (by decide) dX8_evaluate_273 ?_
              refine g_sub h [5, 6, 7, 3, 8, 0] rfl ?_
              exact kX8_evaluate_b292 h ih zf
            rw [if_neg zx0] at zf
            have zy0 : vq4.toInt ≠ (-14) := fun q => zx0 (Int32.toInt_inj.mp (by rw [q]; rfl))
            by_cases zx1 : vq4 = (-13)
            · rw [if_pos zx1] at zf
              refine g_tabIn h (off := 128) 256 (by rw [zx1]; decide) (by rw [zx1]; decide) (by rw [zx1]; decide) (by decide) dX8_evaluate_128 ?_
              refine g_iload h 2 rfl dX8_evaluate_256 ?_
              refine g_iload h 1 rfl dX8_evaluate_258 ?_
              refine g_isub h dX8_evaluate_260 ?_
              refine g_nmI zf ?_
              clear zf; intro vq11 zf
              refine g_istore h [(8, .int vq11), (7, .int vq7), (6, .int vq6), (3, .int vq5), (5, .int vq4), (0, rv G.1 x0), (1, rv G.1 x1), (2, rv G.1 x2), (4, .int x4)] (by decide) rfl dX8_evaluate_261 ?_
              refine g_goto h 292 (by decide) dX8_evaluate_263 ?_
              refine g_sub h [5, 6, 7, 3, 8, 0] rfl ?_
              exact kX8_evaluate_b292 h ih zf
            rw [if_neg zx1] at zf
            have zy1 : vq4.toInt ≠ (-13) := fun q => zx1 (Int32.toInt_inj.mp (by rw [q]; rfl))
            by_cases zx2 : vq4 = (-12)
            · rw [if_pos zx2] at zf
              refine g_tabIn h (off := 118) 246 (by rw [zx2]; decide) (by rw [zx2]; decide) (by rw [zx2]; decide) (by decide) dX8_evaluate_128 ?_
              refine g_iload h 2 rfl dX8_evaluate_246 ?_
              refine g_iload h 1 rfl dX8_evaluate_248 ?_
              refine g_iadd h dX8_evaluate_250 ?_
              refine g_nmI zf ?_
              clear zf; intro vq12 zf
              refine g_istore h [(8, .int vq12), (7, .int vq7), (6, .int vq6), (3, .int vq5), (5, .int vq4), (0, rv G.1 x0), (1, rv G.1 x1), (2, rv G.1 x2), (4, .int x4)] (by decide) rfl dX8_evaluate_251 ?_
              refine g_goto h 292 (by decide) dX8_evaluate_253 ?_
              refine g_sub h [5, 6, 7, 3, 8, 0] rfl ?_
              exact kX8_evaluate_b292 h ih zf
            rw [if_neg zx2] at zf
            have zy2 : vq4.toInt ≠ (-12) := fun q => zx2 (Int32.toInt_inj.mp (by rw [q]; rfl))
            by_cases zx3 : vq4 = (-11)
            · rw [if_pos zx3] at zf
              refine g_tabIn h (off := 101) 229 (by rw [zx3]; decide) (by rw [zx3]; decide) (by rw [zx3]; decide) (by decide) dX8_evaluate_128 ?_
              refine g_iload h 2 rfl dX8_evaluate_229 ?_
              refine g_iload h 1 rfl dX8_evaluate_231 ?_
              refine g_ic_ne h 240 (by decide) zf dX8_evaluate_233 ?_ ?_ <;> clear zf <;> intro zf
              · refine g_iconst h 0 (v := 0) (by decide) dX8_evaluate_240 ?_
                refine g_sub h [5, 6, 7, 3, 8] rfl ?_
                exact kX8_evaluate_b241 h ih zf
              · refine g_iconst h 1 (v := 1) (by decide) dX8_evaluate_236 ?_
                refine g_goto h 241 (by decide) dX8_evaluate_237 ?_
                refine g_sub h [5, 6, 7, 3, 8] rfl ?_
                exact kX8_evaluate_b241 h ih zf
            rw [if_neg zx3] at zf
            have zy3 : vq4.toInt ≠ (-11) := fun q => zx3 (Int32.toInt_inj.mp (by rw [q]; rfl))
            by_cases zx4 : vq4 = (-10)
            · rw [if_pos zx4] at zf
              refine g_tabIn h (off := 84) 212 (by rw [zx4]; decide) (by rw [zx4]; decide) (by rw [zx4]; decide) (by decide) dX8_evaluate_128 ?_
              refine g_iload h 2 rfl dX8_evaluate_212 ?_
              refine g_iload h 1 rfl dX8_evaluate_214 ?_
              refine g_ic_ge h 223 (by decide) zf dX8_evaluate_216 ?_ ?_ <;> clear zf <;> intro zf
              · refine g_iconst h 0 (v := 0) (by decide) dX8_evaluate_223 ?_
                refine g_sub h [5, 6, 7, 3, 8] rfl ?_
                exact kX8_evaluate_b224 h ih zf
              · refine g_iconst h 1 (v := 1) (by decide) dX8_evaluate_219 ?_
                refine g_goto h 224 (by decide) dX8_evaluate_220 ?_
                refine g_sub h [5, 6, 7, 3, 8] rfl ?_
                exact kX8_evaluate_b224 h ih zf
            rw [if_neg zx4] at zf
            have zy4 : vq4.toInt ≠ (-10) := fun q => zx4 (Int32.toInt_inj.mp (by rw [q]; rfl))
            by_cases zx5 : vq4 = (-9)
            · rw [if_pos zx5] at zf
              refine g_tabIn h (off := 64) 192 (by rw [zx5]; decide) (by rw [zx5]; decide) (by rw [zx5]; decide) (by decide) dX8_evaluate_128 ?_
              refine g_iload h 2 rfl dX8_evaluate_192 ?_
              refine g_if_eq h 206 (by decide) zf dX8_evaluate_194 ?_ ?_ <;> clear zf <;> intro zf
              · refine g_sub h [5, 6, 7, 3, 8] rfl ?_
                exact kX8_evaluate_b206 h ih zf
              · refine g_iload h 1 rfl dX8_evaluate_197 ?_
                refine g_if_eq h 206 (by decide) zf dX8_evaluate_199 ?_ ?_ <;> clear zf <;> intro zf
                · refine g_sub h [5, 6, 7, 3, 8] rfl ?_
                  exact kX8_evaluate_b206 h ih zf
                · refine g_iconst h 1 (v := 1) (by decide) dX8_evaluate_202 ?_
                  refine g_goto h 207 (by decide) dX8_evaluate_203 ?_
                  refine g_sub h [5, 6, 7, 3, 8] rfl ?_
                  exact kX8_evaluate_b207 h ih zf
            rw [if_neg zx5] at zf
            have zy5 : vq4.toInt ≠ (-9) := fun q => zx5 (Int32.toInt_inj.mp (by rw [q]; rfl))
            by_cases zx6 : vq4 = (-8)
            · rw [if_pos zx6] at zf
              refine g_tabIn h (off := 44) 172 (by rw [zx6]; decide) (by rw [zx6]; decide) (by rw [zx6]; decide) (by decide) dX8_evaluate_128 ?_
              refine g_iload h 2 rfl dX8_evaluate_172 ?_
              refine g_if_ne h 182 (by decide) zf dX8_evaluate_174 ?_ ?_ <;> clear zf <;> intro zf
              · refine g_sub h [5, 6, 7, 3, 8] rfl ?_
                exact kX8_evaluate_b182 h ih zf
              · refine g_iload h 1 rfl dX8_evaluate_177 ?_
                refine g_if_eq h 186 (by decide) zf dX8_evaluate_179 ?_ ?_ <;> clear zf <;> intro zf
                · refine g_iconst h 0 (v := 0) (by decide) dX8_evaluate_186 ?_
                  refine g_sub h [5, 6, 7, 3, 8] rfl ?_
                  exact kX8_evaluate_b187 h ih zf
                · refine g_sub h [5, 6, 7, 3, 8] rfl ?_
                  exact kX8_evaluate_b182 h ih zf
            rw [if_neg zx6] at zf
            have zy6 : vq4.toInt ≠ (-8) := fun q => zx6 (Int32.toInt_inj.mp (by rw [q]; rfl))
            refine g_tabOut h 276 (by omega) (by decide) dX8_evaluate_128 ?_
            refine g_iload h 1 rfl dX8_evaluate_276 ?_
            refine g_if_ne h 285 (by decide) zf dX8_evaluate_278 ?_ ?_ <;> clear zf <;> intro zf
            · refine g_iload h 2 rfl dX8_evaluate_285 ?_
              refine g_iload h 1 rfl dX8_evaluate_287 ?_
              have zf1 := pre_if zf
              clear zf; obtain ⟨zne, zf⟩ := zf1
              refine g_idiv h zne dX8_evaluate_289 ?_
              refine g_sub h [5, 6, 7, 3, 8] rfl ?_
              exact kX8_evaluate_b290 h ih zf
            · refine g_iconst h 0 (v := 0) (by decide) dX8_evaluate_281 ?_
              refine g_goto h 290 (by decide) dX8_evaluate_282 ?_
              refine g_sub h [5, 6, 7, 3, 8] rfl ?_
              exact kX8_evaluate_b290 h ih zf
          · refine g_iconst h 0 (v := 0) (by decide) dX8_evaluate_106 ?_
            obtain rfl := Option.some.inj zf
            exact g_iret h rfl ⟨rfl, rfl⟩ (Nat.le_refl _) (Nat.le_refl _) dX8_evaluate_107
        · refine g_iload_n h 4 rfl dX8_evaluate_73 ?_
          refine g_iconst h 1 (v := 1) (by decide) dX8_evaluate_74 ?_
          refine g_ic_ge h 80 (by decide) zf dX8_evaluate_75 ?_ ?_ <;> clear zf <;> intro zf
          · refine g_aload_n h 3 rfl dX8_evaluate_80 ?_
            refine g_iload_n h 4 rfl dX8_evaluate_81 ?_
            refine g_iconst h 1 (v := 1) (by decide) dX8_evaluate_82 ?_
            refine g_isub h dX8_evaluate_83 ?_
            refine g_aload_n h 3 rfl dX8_evaluate_84 ?_
            refine g_iload_n h 4 rfl dX8_evaluate_85 ?_
            refine g_iconst h 1 (v := 1) (by decide) dX8_evaluate_86 ?_
            refine g_isub h dX8_evaluate_87 ?_
            refine g_iald h (ln x2) zk_x2 rfl zf dX8_evaluate_88 ?_
            clear zf; intro vq13 zf
            refine g_if_ne h 96 (by decide) zf dX8_evaluate_89 ?_ ?_ <;> clear zf <;> intro zf
            · refine g_iconst h 0 (v := 0) (by decide) dX8_evaluate_96 ?_
              refine g_sub h [1, 2, 3, 4, 5] rfl ?_
              exact kX8_evaluate_b97 h ih zf
            · refine g_iconst h 1 (v := 1) (by decide) dX8_evaluate_92 ?_
              refine g_goto h 97 (by decide) dX8_evaluate_93 ?_
              refine g_sub h [1, 2, 3, 4, 5] rfl ?_
              exact kX8_evaluate_b97 h ih zf
          · refine g_iconst h 0 (v := 0) (by decide) dX8_evaluate_78 ?_
            obtain rfl := Option.some.inj zf
            exact g_iret h rfl ⟨rfl, rfl⟩ (Nat.le_refl _) (Nat.le_refl _) dX8_evaluate_79
      · refine g_iload_n h 4 rfl dX8_evaluate_33 ?_
        refine g_aload_n h 3 rfl dX8_evaluate_34 ?_
        refine g_ilen h (ln x2) (z := Int32.ofNat (ln x2)) zk_x2 rfl rfl dX8_evaluate_35 ?_
        refine g_ic_lt h 41 (by decide) zf dX8_evaluate_36 ?_ ?_ <;> clear zf <;> intro zf
        · refine g_aload_n h 3 rfl dX8_evaluate_41 ?_
          refine g_iload_n h 4 rfl dX8_evaluate_42 ?_
          refine g_iload h 0 rfl dX8_evaluate_43 ?_
          refine g_if_lt h 53 (by decide) zf dX8_evaluate_45 ?_ ?_ <;> clear zf <;> intro zf
          · refine g_aload_n h 2 rfl dX8_evaluate_53 ?_
            refine g_iconst h (-1) (v := (-1)) (by decide) dX8_evaluate_54 ?_
            refine g_iload h 0 rfl dX8_evaluate_55 ?_
            refine g_isub h dX8_evaluate_57 ?_
            refine g_iald h (ln x1) zk_x1 rfl zf dX8_evaluate_58 ?_
            clear zf; intro vq15 zf
            refine g_sub h [1, 2, 3, 4, 5] rfl ?_
            exact kX8_evaluate_b59 h ih zf
          · refine g_iload h 0 rfl dX8_evaluate_48 ?_
            refine g_goto h 59 (by decide) dX8_evaluate_50 ?_
            refine g_sub h [1, 2, 3, 4, 5] rfl ?_
            exact kX8_evaluate_b59 h ih zf
        · refine g_iconst h 0 (v := 0) (by decide) dX8_evaluate_39 ?_
          obtain rfl := Option.some.inj zf
          exact g_iret h rfl ⟨rfl, rfl⟩ (Nat.le_refl _) (Nat.le_refl _) dX8_evaluate_40

theorem kX8_evaluate_e0 {G : GX} (h : OKm G cX8_evaluate RX8 9 (some .int) { frames := 0, cells := 0, slots := 0, locals := 0 }) {M : Mem} {x0 : Nat} {x1 : Nat} {x2 : Nat} {res : (Int32 × Mem)} (zf : fX8_evaluate M x0 x1 x2 = some res) : GG G (Qm G (Pwi res) 0 0) 0 0 0 [(0, rv G.1 x0), (1, rv G.1 x1), (2, rv G.1 x2)] [] M := by
  unfold fX8_evaluate at zf
  have zf1 := pre_ck zf
  clear zf; obtain ⟨zk_x0, zf⟩ := zf1
  have zf1 := pre_ck zf
  clear zf; obtain ⟨zk_x1, zf⟩ := zf1
  have zf1 := pre_ck zf
  clear zf; obtain ⟨zk_x2, zf⟩ := zf1
  refine g_iconst h 0 (v := 0) (by decide) dX8_evaluate_0 ?_
  refine g_istore_n h rfl [(3, .int 0), (0, rv G.1 x0), (1, rv G.1 x1), (2, rv G.1 x2)] (by decide) rfl dX8_evaluate_1 ?_
  refine g_aload_n h 1 rfl dX8_evaluate_2 ?_
  refine gfX8_7 h zk_x0 dX8_evaluate_3 ?_
  refine g_nmI zf ?_
  clear zf; intro vq1 zf
  refine g_istore h [(4, .int vq1), (3, .int 0), (0, rv G.1 x0), (1, rv G.1 x1), (2, rv G.1 x2)] (by decide) rfl dX8_evaluate_6 ?_
  refine g_sub h [2, 3, 4, 1, 0] rfl ?_
  exact kX8_evaluate_l8 h _ _ _ _ _ _ _ _ zf

theorem cmX8_evaluate {l : Launch} {w : WX} {M : Mem} {x0 : Nat} {x1 : Nat} {x2 : Nat} {res : (Int32 × Mem)} (zf : fX8_evaluate M x0 x1 x2 = some res) : CM l w yX8_evaluate cX8_evaluate 9 (some .int) { frames := 0, cells := 0, slots := 0, locals := 0 } 0 0 [rv w x0, rv w x1, rv w x2] M (Pwi res) := by
  refine CM_of (by decide) (Nat.le_of_ble_eq_true rfl) (fun G hw hl h => ?_)
  subst hw
  exact kX8_evaluate_e0 h zf

-- X7_liking
theorem kX7_liking_b56 {G : GX} (h : OKm G cX7_liking RX7 4 (some .int) { frames := 1, cells := 0, slots := 0, locals := 28 }) {M : Mem} {x1 : Nat} {s0 : Int32} {s1 : Int32} {res : (Int32 × Mem)} (zf : fX7_liking_b56 M x1 s0 s1 = some res) : GG G (Qm G (Pwi res) 0 0) 0 0 56 [(0, rv G.1 28), (1, rv G.1 x1)] [.int s0, .int s1, rv G.1 47] M := by
  unfold fX7_liking_b56 at zf
  have zf1 := pre_ck zf
  clear zf; obtain ⟨zk_x1, zf⟩ := zf1
  refine g_iast h 6 (by decide : kd 47 = 20) (by decide) zf dX7_liking_56 ?_
  clear zf; intro Mq6 zf
  refine g_aload_n h 0 rfl dX7_liking_57 ?_
  refine gfX7_24 h (by decide : kd 28 = 6) dX7_liking_58 ?_
  refine g_iconst h 3 (v := 3) (by decide) dX7_liking_61 ?_
  refine g_aload_n h 1 rfl dX7_liking_62 ?_
  refine gfX7_81 h zk_x1 dX7_liking_63 ?_
  refine g_nmI zf ?_
  clear zf; intro vq7 zf
  refine g_iast h 6 (by decide : kd 47 = 20) (by decide) zf dX7_liking_66 ?_
  clear zf; intro Mq8 zf
  refine g_aload_n h 0 rfl dX7_liking_67 ?_
  refine gfX7_24 h (by decide : kd 28 = 6) dX7_liking_68 ?_
  refine g_iconst h 4 (v := 4) (by decide) dX7_liking_71 ?_
  refine g_aload_n h 1 rfl dX7_liking_72 ?_
  refine gfX7_90 h zk_x1 dX7_liking_73 ?_
  refine g_nmI zf ?_
  clear zf; intro vq9 zf
  refine g_iast h 6 (by decide : kd 47 = 20) (by decide) zf dX7_liking_76 ?_
  clear zf; intro Mq10 zf
  refine g_aload_n h 0 rfl dX7_liking_77 ?_
  refine gfX7_12 h (by decide : kd 28 = 6) dX7_liking_78 ?_
  refine g_nmR zf ?_
  clear zf; intro oq11 zf
  have zf1 := pre_ck zf
  clear zf; obtain ⟨zk_oq11, zf⟩ := zf1
  refine gfX7_155 h zk_oq11 dX7_liking_81 ?_
  refine g_aload_n h 0 rfl dX7_liking_84 ?_
  refine gfX7_24 h (by decide : kd 28 = 6) dX7_liking_85 ?_
  refine g_aload_n h 0 rfl dX7_liking_88 ?_
  refine gfX7_27 h (by decide : kd 28 = 6) dX7_liking_89 ?_
  have zf1 := b2_some zf
  clear zf; obtain ⟨vq12, Mq13, zq, zf⟩ := zf1
  refine g_callVwi (As := [rv G.1 47, rv G.1 48]) (rest := []) h ceX8_evaluate mlX7_142 imX8_evaluate seX8_evaluate (by rfl) (kd_lt (by rw [(kf4_16 zk_oq11)]; decide)) (ent_7 (kf4_16 zk_oq11)) rfl rfl ⟨by decide, by decide⟩ ⟨by decide, by decide⟩ rfl dX7_liking_92 rfl (Nat.le_of_ble_eq_true rfl) (cmX8_evaluate zq) ?_
  obtain rfl := Option.some.inj zf
  exact g_iret h rfl ⟨rfl, rfl⟩ (Nat.le_refl _) (Nat.le_refl _) dX7_liking_95

theorem kX7_liking_b30 {G : GX} (h : OKm G cX7_liking RX7 4 (some .int) { frames := 1, cells := 0, slots := 0, locals := 28 }) {M : Mem} {x1 : Nat} {x2 : Int32} {x3 : Int32} {s0 : Int32} {s1 : Int32} {res : (Int32 × Mem)} (zf : fX7_liking_b30 M x1 x2 x3 s0 s1 = some res) : GG G (Qm G (Pwi res) 0 0) 0 0 30 [(0, rv G.1 28), (1, rv G.1 x1), (2, .int x2), (3, .int x3)] [.int s0, .int s1, rv G.1 47] M := by
  unfold fX7_liking_b30 at zf
  have zf1 := pre_ck zf
  clear zf; obtain ⟨zk_x1, zf⟩ := zf1
  refine g_iast h 6 (by decide : kd 47 = 20) (by decide) zf dX7_liking_30 ?_
  clear zf; intro Mq4 zf
  refine g_aload_n h 0 rfl dX7_liking_31 ?_
  refine gfX7_24 h (by decide : kd 28 = 6) dX7_liking_32 ?_
  refine g_iconst h 2 (v := 2) (by decide) dX7_liking_35 ?_
  refine g_iload_n h 3 rfl dX7_liking_36 ?_
  refine g_if_ne h 50 (by decide) zf dX7_liking_37 ?_ ?_ <;> clear zf <;> intro zf
  · refine g_aload_n h 1 rfl dX7_liking_50 ?_
    refine gfX7_162 h zk_x1 dX7_liking_51 ?_
    refine g_iload_n h 2 rfl dX7_liking_54 ?_
    refine g_iald h 6 (kf2_4 zk_x1) (lf2_4 zk_x1) zf dX7_liking_55 ?_
    clear zf; intro vq5 zf
    refine g_sub h [0, 1] rfl ?_
    exact kX7_liking_b56 h zf
  · refine g_aload_n h 1 rfl dX7_liking_40 ?_
    refine gfX7_162 h zk_x1 dX7_liking_41 ?_
    refine g_iload_n h 2 rfl dX7_liking_44 ?_
    refine g_iald h 6 (kf2_4 zk_x1) (lf2_4 zk_x1) zf dX7_liking_45 ?_
    clear zf; intro vq14 zf
    refine g_ineg h dX7_liking_46 ?_
    refine g_goto h 56 (by decide) dX7_liking_47 ?_
    refine g_sub h [0, 1] rfl ?_
    exact kX7_liking_b56 h zf

theorem kX7_liking_e0 {G : GX} (h : OKm G cX7_liking RX7 4 (some .int) { frames := 1, cells := 0, slots := 0, locals := 28 }) {M : Mem} {x1 : Nat} {x2 : Int32} {x3 : Int32} {res : (Int32 × Mem)} (zf : fX7_liking M x1 x2 x3 = some res) : GG G (Qm G (Pwi res) 0 0) 0 0 0 [(0, rv G.1 28), (1, rv G.1 x1), (2, .int x2), (3, .int x3)] [] M := by
  unfold fX7_liking at zf
  have zf1 := pre_ck zf
  clear zf; obtain ⟨zk_x1, zf⟩ := zf1
  refine g_aload_n h 0 rfl dX7_liking_0 ?_
  refine gfX7_24 h (by decide : kd 28 = 6) dX7_liking_1 ?_
  refine g_iconst h 0 (v := 0) (by decide) dX7_liking_4 ?_
  refine g_aload_n h 1 rfl dX7_liking_5 ?_
  refine gfX7_114 h zk_x1 dX7_liking_6 ?_
  refine g_iload_n h 3 rfl dX7_liking_9 ?_
  refine g_iald h 2 (kf2_2 zk_x1) (lf2_2 zk_x1) zf dX7_liking_10 ?_
  clear zf; intro vq1 zf
  refine g_iast h 6 (by decide : kd 47 = 20) (by decide) zf dX7_liking_11 ?_
  clear zf; intro Mq2 zf
  refine g_aload_n h 0 rfl dX7_liking_12 ?_
  refine gfX7_24 h (by decide : kd 28 = 6) dX7_liking_13 ?_
  refine g_iconst h 1 (v := 1) (by decide) dX7_liking_16 ?_
  refine g_aload_n h 1 rfl dX7_liking_17 ?_
  refine gfX7_55 h zk_x1 dX7_liking_18 ?_
  refine g_nmI zf ?_
  clear zf; intro vq3 zf
  refine g_iload_n h 3 rfl dX7_liking_21 ?_
  refine g_ic_ne h 29 (by decide) zf dX7_liking_22 ?_ ?_ <;> clear zf <;> intro zf
  · refine g_iconst h 0 (v := 0) (by decide) dX7_liking_29 ?_
    refine g_sub h [0, 1, 2, 3] rfl ?_
    exact kX7_liking_b30 h zf
  · refine g_iconst h 1 (v := 1) (by decide) dX7_liking_25 ?_
    refine g_goto h 30 (by decide) dX7_liking_26 ?_
    refine g_sub h [0, 1, 2, 3] rfl ?_
    exact kX7_liking_b30 h zf

theorem cmX7_liking {l : Launch} {w : WX} {M : Mem} {x1 : Nat} {x2 : Int32} {x3 : Int32} {res : (Int32 × Mem)} (zf : fX7_liking M x1 x2 x3 = some res) : CM l w yX7_liking cX7_liking 4 (some .int) { frames := 1, cells := 0, slots := 0, locals := 28 } 0 0 [rv w 28, rv w x1, .int x2, .int x3] M (Pwi res) := by
  refine CM_of (by decide) (Nat.le_of_ble_eq_true rfl) (fun G hw hl h => ?_)
  subst hw
  exact kX7_liking_e0 h zf

-- X7_followers
theorem kX7_followers_b96 {G : GX} (h : OKm G cX7_followers RX7 6 (some .int) { frames := 2, cells := 0, slots := 0, locals := 51 }) {a5 : Mem → Nat → Int32 → Int32 → Int32 → Option (Int32 × Mem)} (zh5 : ∀ (M : Mem) (x1 : Nat) (x2 : Int32) (x3 : Int32) (x4 : Int32) (res : (Int32 × Mem)), a5 M x1 x2 x3 x4 = some res → GG G (Qm G (Pwi res) 0 0) 0 0 5 [(0, rv G.1 28), (1, rv G.1 x1), (2, .int x2), (3, .int x3), (4, .int x4)] [] M) {M : Mem} {x1 : Nat} {x2 : Int32} {x3 : Int32} {x4 : Int32} {res : (Int32 × Mem)} (zf : fX7_followers_b96 a5 M x1 x2 x3 x4 = some res) : GG G (Qm G (Pwi res) 0 0) 0 0 96 [(0, rv G.1 28), (1, rv G.1 x1), (2, .int x2), (3, .int x3), (4, .int x4)] [] M := by
  unfold fX7_followers_b96 at zf
  have zf1 := pre_ck zf
  clear zf; obtain ⟨zk_x1, zf⟩ := zf1
  refine g_iinc h 4 4 rfl (v := x4 + 1) (congrArg (fun z => x4 + z) (by decide : Int32.ofInt (1) = (1 : Int32))) [(4, .int (x4 + 1)), (0, rv G.1 28), (1, rv G.1 x1), (2, .int x2), (3, .int x3)] (by decide) rfl dX7_followers_96 ?_
  refine g_nmV zf ?_
  clear zf; intro vq6 zf
  refine g_goto h 5 (by decide) dX7_followers_99 ?_
  refine g_sub h [1, 2, 3, 4, 0] rfl ?_
  exact zh5 _ _ _ _ _ _ zf

theorem kX7_followers_b86 {G : GX} (h : OKm G cX7_followers RX7 6 (some .int) { frames := 2, cells := 0, slots := 0, locals := 51 }) {a5 : Mem → Nat → Int32 → Int32 → Int32 → Option (Int32 × Mem)} (zh5 : ∀ (M : Mem) (x1 : Nat) (x2 : Int32) (x3 : Int32) (x4 : Int32) (res : (Int32 × Mem)), a5 M x1 x2 x3 x4 = some res → GG G (Qm G (Pwi res) 0 0) 0 0 5 [(0, rv G.1 28), (1, rv G.1 x1), (2, .int x2), (3, .int x3), (4, .int x4)] [] M) {M : Mem} {x1 : Nat} {x2 : Int32} {x3 : Int32} {x4 : Int32} {s0 : Int32} {s1 : Int32} {res : (Int32 × Mem)} (zf : fX7_followers_b86 a5 M x1 x2 x3 x4 s0 s1 = some res) : GG G (Qm G (Pwi res) 0 0) 0 0 86 [(0, rv G.1 28), (1, rv G.1 x1), (2, .int x2), (3, .int x3), (4, .int x4)] [.int s0, .int s1] M := by
  unfold fX7_followers_b86 at zf
  have zf1 := pre_ck zf
  clear zf; obtain ⟨zk_x1, zf⟩ := zf1
  refine g_ic_ne h 96 (by decide) zf dX7_followers_86 ?_ ?_ <;> clear zf <;> intro zf
  · refine g_sub h [0, 1, 2, 3, 4] rfl ?_
    exact kX7_followers_b96 h zh5 zf
  · refine g_iload_n h 3 rfl dX7_followers_89 ?_
    refine g_iconst h 1 (v := 1) (by decide) dX7_followers_90 ?_
    refine g_iload h 4 rfl dX7_followers_91 ?_
    refine g_ishl h dX7_followers_93 ?_
    refine g_ior h dX7_followers_94 ?_
    refine g_nmI zf ?_
    clear zf; intro vq7 zf
    refine g_istore_n h rfl [(3, .int vq7), (0, rv G.1 28), (1, rv G.1 x1), (2, .int x2), (4, .int x4)] (by decide) rfl dX7_followers_95 ?_
    refine g_sub h [1, 2, 3, 0, 4] rfl ?_
    exact kX7_followers_b96 h zh5 zf

theorem kX7_followers_b72 {G : GX} (h : OKm G cX7_followers RX7 6 (some .int) { frames := 2, cells := 0, slots := 0, locals := 51 }) {a5 : Mem → Nat → Int32 → Int32 → Int32 → Option (Int32 × Mem)} (zh5 : ∀ (M : Mem) (x1 : Nat) (x2 : Int32) (x3 : Int32) (x4 : Int32) (res : (Int32 × Mem)), a5 M x1 x2 x3 x4 = some res → GG G (Qm G (Pwi res) 0 0) 0 0 5 [(0, rv G.1 28), (1, rv G.1 x1), (2, .int x2), (3, .int x3), (4, .int x4)] [] M) {M : Mem} {x1 : Nat} {x2 : Int32} {x3 : Int32} {x4 : Int32} {s0 : Int32} {res : (Int32 × Mem)} (zf : fX7_followers_b72 a5 M x1 x2 x3 x4 s0 = some res) : GG G (Qm G (Pwi res) 0 0) 0 0 72 [(0, rv G.1 28), (1, rv G.1 x1), (2, .int x2), (3, .int x3), (4, .int x4)] [.int s0] M := by
  unfold fX7_followers_b72 at zf
  have zf1 := pre_ck zf
  clear zf; obtain ⟨zk_x1, zf⟩ := zf1
  refine g_istore h [(5, .int s0), (0, rv G.1 28), (1, rv G.1 x1), (2, .int x2), (3, .int x3), (4, .int x4)] (by decide) rfl dX7_followers_72 ?_
  refine g_iload h 0 rfl dX7_followers_74 ?_
  refine g_iload_n h 3 rfl dX7_followers_76 ?_
  refine g_iconst h 1 (v := 1) (by decide) dX7_followers_77 ?_
  refine g_ic_ne h 85 (by decide) zf dX7_followers_78 ?_ ?_ <;> clear zf <;> intro zf
  · refine g_iconst h 0 (v := 0) (by decide) dX7_followers_85 ?_
    refine g_sub h [1, 2, 3, 4, 5] rfl ?_
    exact kX7_followers_b86 h zh5 zf
  · refine g_iconst h 1 (v := 1) (by decide) dX7_followers_81 ?_
    refine g_goto h 86 (by decide) dX7_followers_82 ?_
    refine g_sub h [1, 2, 3, 4, 5] rfl ?_
    exact kX7_followers_b86 h zh5 zf

theorem kX7_followers_l5 {G : GX} (h : OKm G cX7_followers RX7 6 (some .int) { frames := 2, cells := 0, slots := 0, locals := 51 }) : ∀ (n : Nat) (M : Mem) (x1 : Nat) (x2 : Int32) (x3 : Int32) (x4 : Int32) (res : (Int32 × Mem)), fX7_followers_l5 n M x1 x2 x3 x4 = some res → GG G (Qm G (Pwi res) 0 0) 0 0 5 [(0, rv G.1 28), (1, rv G.1 x1), (2, .int x2), (3, .int x3), (4, .int x4)] [] M := by
  intro n
  induction n with
  | zero => intro M x1 x2 x3 x4 res zf; rw [fX7_followers_l5] at zf; cases zf
  | succ n ih =>
    intro M x1 x2 x3 x4 res zf
    rw [fX7_followers_l5] at zf
    have zf1 := pre_ck zf
    clear zf; obtain ⟨zk_x1, zf⟩ := zf1
    refine g_iload h 4 rfl dX7_followers_5 ?_
    refine g_aload_n h 0 rfl dX7_followers_7 ?_
    refine gfX7_12 h (by decide : kd 28 = 6) dX7_followers_8 ?_
    refine g_nmR zf ?_
    clear zf; intro oq1 zf
    have zf1 := pre_ck zf
    clear zf; obtain ⟨zk_oq1, zf⟩ := zf1
    refine gfX7_152 h zk_oq1 dX7_followers_11 ?_
    refine g_nmI zf ?_
    clear zf; intro vq2 zf
    refine g_ic_ge h 102 (by decide) zf dX7_followers_14 ?_ ?_ <;> clear zf <;> intro zf
    · refine g_iload_n h 3 rfl dX7_followers_102 ?_
      obtain rfl := Option.some.inj zf
      exact g_iret h rfl ⟨rfl, rfl⟩ (Nat.le_refl _) (Nat.le_refl _) dX7_followers_103
    · refine g_aload_n h 0 rfl dX7_followers_17 ?_
      refine gfX7_12 h (by decide : kd 28 = 6) dX7_followers_18 ?_
      refine g_nmR zf ?_
      clear zf; intro oq3 zf
      have zf1 := pre_ck zf
      clear zf; obtain ⟨zk_oq3, zf⟩ := zf1
      refine gfX7_155 h zk_oq3 dX7_followers_21 ?_
      have zf1 := bd_some zf
      clear zf; obtain ⟨vq4, zq, zf⟩ := zf1
      refine g_callVri (As := []) (rest := []) h ceX8_isTold mlX7_128 imX8_isTold seX8_isTold (by rfl) (kd_lt (by rw [(kf4_16 zk_oq3)]; decide)) (ent_7 (kf4_16 zk_oq3)) rfl rfl ⟨by decide, by decide⟩ ⟨by decide, by decide⟩ rfl dX7_followers_24 rfl (Nat.le_of_ble_eq_true rfl) (cmX8_isTold zq) ?_
      refine g_if_eq h 57 (by decide) zf dX7_followers_27 ?_ ?_ <;> clear zf <;> intro zf
      · refine g_aload_n h 1 rfl dX7_followers_57 ?_
        refine gfX7_162 h zk_x1 dX7_followers_58 ?_
        refine g_iload h 4 rfl dX7_followers_61 ?_
        refine g_iald h 6 (kf2_4 zk_x1) (lf2_4 zk_x1) zf dX7_followers_63 ?_
        clear zf; intro vq5 zf
        refine g_if_le h 71 (by decide) zf dX7_followers_64 ?_ ?_ <;> clear zf <;> intro zf
        · refine g_iconst h 0 (v := 0) (by decide) dX7_followers_71 ?_
          refine g_sub h [0, 1, 2, 3, 4] rfl ?_
          exact kX7_followers_b72 h ih zf
        · refine g_iconst h 1 (v := 1) (by decide) dX7_followers_67 ?_
          refine g_goto h 72 (by decide) dX7_followers_68 ?_
          refine g_sub h [0, 1, 2, 3, 4] rfl ?_
          exact kX7_followers_b72 h ih zf
      · refine g_aload_n h 0 rfl dX7_followers_30 ?_
        refine g_aload_n h 1 rfl dX7_followers_31 ?_
        refine g_iload h 4 rfl dX7_followers_32 ?_
        refine g_iconst h 1 (v := 1) (by decide) dX7_followers_34 ?_
        have zf1 := b2_some zf
        clear zf; obtain ⟨vq8, Mq9, zq, zf⟩ := zf1
        refine g_callVwi (As := [rv G.1 x1, .int x4, .int 1]) (rest := []) h ceX7_liking mlX7_158 imX7_liking seX7_liking (by rfl) (kd_lt (by rw [(by decide : kd 28 = 6)]; decide)) (ent_6 (by decide : kd 28 = 6)) rfl rfl ⟨by decide, by decide⟩ ⟨by decide, by decide⟩ rfl dX7_followers_35 rfl (Nat.le_of_ble_eq_true rfl) (cmX7_liking zq) ?_
        refine g_aload_n h 0 rfl dX7_followers_38 ?_
        refine g_aload_n h 1 rfl dX7_followers_39 ?_
        refine g_iload h 4 rfl dX7_followers_40 ?_
        refine g_iconst h 0 (v := 0) (by decide) dX7_followers_42 ?_
        have zf1 := b2_some zf
        clear zf; obtain ⟨vq10, Mq11, zq, zf⟩ := zf1
        refine g_callVwi (As := [rv G.1 x1, .int x4, .int 0]) (rest := [.int vq8]) h ceX7_liking mlX7_158 imX7_liking seX7_liking (by rfl) (kd_lt (by rw [(by decide : kd 28 = 6)]; decide)) (ent_6 (by decide : kd 28 = 6)) rfl rfl ⟨by decide, by decide⟩ ⟨by decide, by decide⟩ rfl dX7_followers_43 rfl (Nat.le_of_ble_eq_true rfl) (cmX7_liking zq) ?_
        refine g_ic_le h 53 (by decide) zf dX7_followers_46 ?_ ?_ <;> clear zf <;> intro zf
        · refine g_iconst h 0 (v := 0) (by decide) dX7_followers_53 ?_
          refine g_goto h 72 (by decide) dX7_followers_54 ?_
          refine g_sub h [0, 1, 2, 3, 4] rfl ?_
          exact kX7_followers_b72 h ih zf
        · refine g_iconst h 1 (v := 1) (by decide) dX7_followers_49 ?_
          refine g_goto h 72 (by decide) dX7_followers_50 ?_
          refine g_sub h [0, 1, 2, 3, 4] rfl ?_
          exact kX7_followers_b72 h ih zf

theorem kX7_followers_e0 {G : GX} (h : OKm G cX7_followers RX7 6 (some .int) { frames := 2, cells := 0, slots := 0, locals := 51 }) {M : Mem} {x1 : Nat} {x2 : Int32} {res : (Int32 × Mem)} (zf : fX7_followers M x1 x2 = some res) : GG G (Qm G (Pwi res) 0 0) 0 0 0 [(0, rv G.1 28), (1, rv G.1 x1), (2, .int x2)] [] M := by
  unfold fX7_followers at zf
  have zf1 := pre_ck zf
  clear zf; obtain ⟨zk_x1, zf⟩ := zf1
  refine g_iconst h 0 (v := 0) (by decide) dX7_followers_0 ?_
  refine g_istore_n h rfl [(3, .int 0), (0, rv G.1 28), (1, rv G.1 x1), (2, .int x2)] (by decide) rfl dX7_followers_1 ?_
  refine g_iconst h 0 (v := 0) (by decide) dX7_followers_2 ?_
  refine g_istore h [(4, .int 0), (3, .int 0), (0, rv G.1 28), (1, rv G.1 x1), (2, .int x2)] (by decide) rfl dX7_followers_3 ?_
  refine g_sub h [2, 3, 4, 1, 0] rfl ?_
  exact kX7_followers_l5 h _ _ _ _ _ _ _ zf

theorem cmX7_followers {l : Launch} {w : WX} {M : Mem} {x1 : Nat} {x2 : Int32} {res : (Int32 × Mem)} (zf : fX7_followers M x1 x2 = some res) : CM l w yX7_followers cX7_followers 6 (some .int) { frames := 2, cells := 0, slots := 0, locals := 51 } 0 0 [rv w 28, rv w x1, .int x2] M (Pwi res) := by
  refine CM_of (by decide) (Nat.le_of_ble_eq_true rfl) (fun G hw hl h => ?_)
  subst hw
  exact kX7_followers_e0 h zf

-- X7_menOf
theorem kX7_menOf_b35 {G : GX} (h : OKm G cX7_menOf RX7 4 (some .int) { frames := 0, cells := 0, slots := 0, locals := 0 }) {a4 : Mem → Int32 → Int32 → Int32 → Option Int32} (zh4 : ∀ (M : Mem) (x1 : Int32) (x2 : Int32) (x3 : Int32) (res : Int32), a4 M x1 x2 x3 = some res → GG G (Qm G (Pri res M) 0 0) 0 0 4 [(0, rv G.1 28), (1, .int x1), (2, .int x2), (3, .int x3)] [] M) {M : Mem} {x1 : Int32} {x2 : Int32} {x3 : Int32} {res : Int32} (zf : fX7_menOf_b35 a4 M x1 x2 x3 = some res) : GG G (Qm G (Pri res M) 0 0) 0 0 35 [(0, rv G.1 28), (1, .int x1), (2, .int x2), (3, .int x3)] [] M := by
  unfold fX7_menOf_b35 at zf
  refine g_iinc h 3 3 rfl (v := x3 + 1) (congrArg (fun z => x3 + z) (by decide : Int32.ofInt (1) = (1 : Int32))) [(3, .int (x3 + 1)), (0, rv G.1 28), (1, .int x1), (2, .int x2)] (by decide) rfl dX7_menOf_35 ?_
  refine g_nmV zf ?_
  clear zf; intro vq3 zf
  refine g_goto h 4 (by decide) dX7_menOf_38 ?_
  refine g_sub h [1, 2, 3, 0] rfl ?_
  exact zh4 _ _ _ _ _ zf

theorem kX7_menOf_l4 {G : GX} (h : OKm G cX7_menOf RX7 4 (some .int) { frames := 0, cells := 0, slots := 0, locals := 0 }) : ∀ (n : Nat) (M : Mem) (x1 : Int32) (x2 : Int32) (x3 : Int32) (res : Int32), fX7_menOf_l4 n M x1 x2 x3 = some res → GG G (Qm G (Pri res M) 0 0) 0 0 4 [(0, rv G.1 28), (1, .int x1), (2, .int x2), (3, .int x3)] [] M := by
  intro n
  induction n with
  | zero => intro M x1 x2 x3 res zf; rw [fX7_menOf_l4] at zf; cases zf
  | succ n ih =>
    intro M x1 x2 x3 res zf
    rw [fX7_menOf_l4] at zf
    refine g_iload_n h 3 rfl dX7_menOf_4 ?_
    refine g_aload_n h 0 rfl dX7_menOf_5 ?_
    refine gfX7_12 h (by decide : kd 28 = 6) dX7_menOf_6 ?_
    refine g_nmR zf ?_
    clear zf; intro oq1 zf
    have zf1 := pre_ck zf
    clear zf; obtain ⟨zk_oq1, zf⟩ := zf1
    refine gfX7_152 h zk_oq1 dX7_menOf_9 ?_
    refine g_nmI zf ?_
    clear zf; intro vq2 zf
    refine g_ic_ge h 41 (by decide) zf dX7_menOf_12 ?_ ?_ <;> clear zf <;> intro zf
    · refine g_iload_n h 2 rfl dX7_menOf_41 ?_
      obtain rfl := Option.some.inj zf
      exact g_iret h rfl ⟨rfl, rfl⟩ (Nat.le_refl _) (Nat.le_refl _) dX7_menOf_42
    · refine g_iload_n h 1 rfl dX7_menOf_15 ?_
      refine g_iload_n h 3 rfl dX7_menOf_16 ?_
      refine g_ishr h dX7_menOf_17 ?_
      refine g_iconst h 1 (v := 1) (by decide) dX7_menOf_18 ?_
      refine g_iand h dX7_menOf_19 ?_
      refine g_if_eq h 35 (by decide) zf dX7_menOf_20 ?_ ?_ <;> clear zf <;> intro zf
      · refine g_sub h [0, 1, 2, 3] rfl ?_
        exact kX7_menOf_b35 h ih zf
      · refine g_iload_n h 2 rfl dX7_menOf_23 ?_
        refine g_aload_n h 0 rfl dX7_menOf_24 ?_
        refine gfX7_12 h (by decide : kd 28 = 6) dX7_menOf_25 ?_
        refine g_nmR zf ?_
        clear zf; intro oq4 zf
        have zf1 := pre_ck zf
        clear zf; obtain ⟨zk_oq4, zf⟩ := zf1
        refine gfX7_165 h zk_oq4 dX7_menOf_28 ?_
        refine g_iload_n h 3 rfl dX7_menOf_31 ?_
        refine g_iald h 6 (kf4_7 zk_oq4) (lf4_7 zk_oq4) zf dX7_menOf_32 ?_
        clear zf; intro vq5 zf
        refine g_iadd h dX7_menOf_33 ?_
        refine g_nmI zf ?_
        clear zf; intro vq6 zf
        refine g_istore_n h rfl [(2, .int vq6), (0, rv G.1 28), (1, .int x1), (3, .int x3)] (by decide) rfl dX7_menOf_34 ?_
        refine g_sub h [1, 2, 0, 3] rfl ?_
        exact kX7_menOf_b35 h ih zf

theorem kX7_menOf_e0 {G : GX} (h : OKm G cX7_menOf RX7 4 (some .int) { frames := 0, cells := 0, slots := 0, locals := 0 }) {M : Mem} {x1 : Int32} {res : Int32} (zf : fX7_menOf M x1 = some res) : GG G (Qm G (Pri res M) 0 0) 0 0 0 [(0, rv G.1 28), (1, .int x1)] [] M := by
  unfold fX7_menOf at zf
  refine g_iconst h 0 (v := 0) (by decide) dX7_menOf_0 ?_
  refine g_istore_n h rfl [(2, .int 0), (0, rv G.1 28), (1, .int x1)] (by decide) rfl dX7_menOf_1 ?_
  refine g_iconst h 0 (v := 0) (by decide) dX7_menOf_2 ?_
  refine g_istore_n h rfl [(3, .int 0), (2, .int 0), (0, rv G.1 28), (1, .int x1)] (by decide) rfl dX7_menOf_3 ?_
  refine g_sub h [2, 3, 1, 0] rfl ?_
  exact kX7_menOf_l4 h _ _ _ _ _ _ zf

theorem cmX7_menOf {l : Launch} {w : WX} {M : Mem} {x1 : Int32} {res : Int32} (zf : fX7_menOf M x1 = some res) : CM l w yX7_menOf cX7_menOf 4 (some .int) { frames := 0, cells := 0, slots := 0, locals := 0 } 0 0 [rv w 28, .int x1] M (Pri res M) := by
  refine CM_of (by decide) (Nat.le_of_ble_eq_true rfl) (fun G hw hl h => ?_)
  subst hw
  exact kX7_menOf_e0 h zf

-- X3_handOver
theorem kX3_handOver_e0 {G : GX} (h : OKm G cX3_handOver RX3 1 none { frames := 0, cells := 0, slots := 0, locals := 0 }) {M : Mem} {x0 : Nat} {res : Mem} (zf : fX3_handOver M x0 = some res) : GG G (Qm G (Pwv res) 0 0) 0 0 0 [(0, rv G.1 x0)] [] M := by
  unfold fX3_handOver at zf
  have zf1 := pre_ck zf
  clear zf; obtain ⟨zk_x0, zf⟩ := zf1
  refine g_aload_n h 0 rfl dX3_handOver_0 ?_
  refine g_iconst h 1 (v := 1) (by decide) dX3_handOver_1 ?_
  refine g_aload_n h 0 rfl dX3_handOver_2 ?_
  refine gfX3_40 h zk_x0 dX3_handOver_3 ?_
  refine g_nmI zf ?_
  clear zf; intro vq1 zf
  refine g_isub h dX3_handOver_6 ?_
  refine pfX3_40 h zk_x0 dX3_handOver_7 ?_
  refine g_nmM zf ?_
  clear zf; intro Mq2 zf
  refine g_aload_n h 0 rfl dX3_handOver_10 ?_
  refine g_iconst h 0 (v := 0) (by decide) dX3_handOver_11 ?_
  refine pfX3_43 h zk_x0 dX3_handOver_12 ?_
  refine g_nmM zf ?_
  clear zf; intro Mq3 zf
  obtain rfl := Option.some.inj zf
  exact g_vret h rfl ⟨rfl, rfl⟩ (Nat.le_refl _) (Nat.le_refl _) dX3_handOver_15

theorem cmX3_handOver {l : Launch} {w : WX} {M : Mem} {x0 : Nat} {res : Mem} (zf : fX3_handOver M x0 = some res) : CM l w yX3_handOver cX3_handOver 1 none { frames := 0, cells := 0, slots := 0, locals := 0 } 0 0 [rv w x0] M (Pwv res) := by
  refine CM_of (by decide) (Nat.le_of_ble_eq_true rfl) (fun G hw hl h => ?_)
  subst hw
  exact kX3_handOver_e0 h zf

-- X7_turn
theorem kX7_turn_b148 {G : GX} (h : OKm G cX7_turn RX7 2 none { frames := 3, cells := 0, slots := 0, locals := 76 }) {M : Mem} {x1 : Nat} {res : Mem} (zf : fX7_turn_b148 M x1 = some res) : GG G (Qm G (Pwv res) 0 0) 0 0 148 [(1, rv G.1 x1)] [] M := by
  unfold fX7_turn_b148 at zf
  have zf1 := pre_ck zf
  clear zf; obtain ⟨zk_x1, zf⟩ := zf1
  refine g_aload_n h 0 rfl dX7_turn_148 ?_
  have zf1 := bd_some zf
  clear zf; obtain ⟨Mq5, zq, zf⟩ := zf1
  refine g_callVwv (As := []) (rest := []) h ceX3_handOver mlX7_149 imX3_handOver seX3_handOver (by rfl) (kd_lt (by rw [zk_x1]; decide)) (ent_2 zk_x1) rfl rfl ⟨by decide, by decide⟩ ⟨by decide, by decide⟩ rfl dX7_turn_149 rfl (Nat.le_of_ble_eq_true rfl) (cmX3_handOver zq) ?_
  obtain rfl := Option.some.inj zf
  exact g_vret h rfl ⟨rfl, rfl⟩ (Nat.le_refl _) (Nat.le_refl _) dX7_turn_152

theorem kX7_turn_b115 {G : GX} (h : OKm G cX7_turn RX7 2 none { frames := 3, cells := 0, slots := 0, locals := 76 }) {M : Mem} {x1 : Nat} {s0 : Int32} {s1 : Int32} {res : Mem} (zf : fX7_turn_b115 M x1 s0 s1 = some res) : GG G (Qm G (Pwv res) 0 0) 0 0 115 [(0, rv G.1 28), (1, rv G.1 x1)] [.int s0, .int s1, rv G.1 46] M := by
  unfold fX7_turn_b115 at zf
  have zf1 := pre_ck zf
  clear zf; obtain ⟨zk_x1, zf⟩ := zf1
  refine g_iast h 6 (by decide : kd 46 = 20) (by decide) zf dX7_turn_115 ?_
  clear zf; intro Mq19 zf
  refine g_aload_n h 0 rfl dX7_turn_116 ?_
  refine gfX7_12 h (by decide : kd 28 = 6) dX7_turn_117 ?_
  refine g_nmR zf ?_
  clear zf; intro oq20 zf
  have zf1 := pre_ck zf
  clear zf; obtain ⟨zk_oq20, zf⟩ := zf1
  refine gfX7_124 h zk_oq20 dX7_turn_120 ?_
  refine g_aload_n h 0 rfl dX7_turn_123 ?_
  refine gfX7_20 h (by decide : kd 28 = 6) dX7_turn_124 ?_
  refine g_aload_n h 0 rfl dX7_turn_127 ?_
  refine gfX7_27 h (by decide : kd 28 = 6) dX7_turn_128 ?_
  have zf1 := b2_some zf
  clear zf; obtain ⟨vq21, Mq22, zq, zf⟩ := zf1
  refine g_callVwi (As := [rv G.1 46, rv G.1 48]) (rest := []) h ceX8_evaluate mlX7_142 imX8_evaluate seX8_evaluate (by rfl) (kd_lt (by rw [(kf4_15 zk_oq20)]; decide)) (ent_7 (kf4_15 zk_oq20)) rfl rfl ⟨by decide, by decide⟩ ⟨by decide, by decide⟩ rfl dX7_turn_131 rfl (Nat.le_of_ble_eq_true rfl) (cmX8_evaluate zq) ?_
  refine g_if_le h 148 (by decide) zf dX7_turn_134 ?_ ?_ <;> clear zf <;> intro zf
  · refine g_sub h [1] rfl ?_
    exact kX7_turn_b148 h zf
  · refine g_aload_n h 1 rfl dX7_turn_137 ?_
    refine g_dup h rfl dX7_turn_138 ?_
    refine gfX7_146 h zk_x1 dX7_turn_139 ?_
    refine g_nmI zf ?_
    clear zf; intro vq23 zf
    refine g_iconst h 1 (v := 1) (by decide) dX7_turn_142 ?_
    refine g_iadd h dX7_turn_143 ?_
    refine pfX7_146 h zk_x1 dX7_turn_144 ?_
    refine g_nmM zf ?_
    clear zf; intro Mq24 zf
    obtain rfl := Option.some.inj zf
    exact g_vret h rfl ⟨rfl, rfl⟩ (Nat.le_refl _) (Nat.le_refl _) dX7_turn_147

theorem kX7_turn_e0 {G : GX} (h : OKm G cX7_turn RX7 2 none { frames := 3, cells := 0, slots := 0, locals := 76 }) {M : Mem} {x1 : Nat} {res : Mem} (zf : fX7_turn M x1 = some res) : GG G (Qm G (Pwv res) 0 0) 0 0 0 [(0, rv G.1 28), (1, rv G.1 x1)] [] M := by
  unfold fX7_turn at zf
  have zf1 := pre_ck zf
  clear zf; obtain ⟨zk_x1, zf⟩ := zf1
  refine g_aload_n h 1 rfl dX7_turn_0 ?_
  refine gfX7_118 h zk_x1 dX7_turn_1 ?_
  refine g_nmI zf ?_
  clear zf; intro vq1 zf
  refine g_aload_n h 1 rfl dX7_turn_4 ?_
  refine gfX7_121 h zk_x1 dX7_turn_5 ?_
  refine g_nmI zf ?_
  clear zf; intro vq2 zf
  refine g_ic_ge h 12 (by decide) zf dX7_turn_8 ?_ ?_ <;> clear zf <;> intro zf
  · refine g_aload_n h 0 rfl dX7_turn_12 ?_
    refine gfX7_12 h (by decide : kd 28 = 6) dX7_turn_13 ?_
    refine g_nmR zf ?_
    clear zf; intro oq3 zf
    have zf1 := pre_ck zf
    clear zf; obtain ⟨zk_oq3, zf⟩ := zf1
    refine gfX7_124 h zk_oq3 dX7_turn_16 ?_
    have zf1 := bd_some zf
    clear zf; obtain ⟨vq4, zq, zf⟩ := zf1
    refine g_callVri (As := []) (rest := []) h ceX8_isTold mlX7_128 imX8_isTold seX8_isTold (by rfl) (kd_lt (by rw [(kf4_15 zk_oq3)]; decide)) (ent_7 (kf4_15 zk_oq3)) rfl rfl ⟨by decide, by decide⟩ ⟨by decide, by decide⟩ rfl dX7_turn_19 rfl (Nat.le_of_ble_eq_true rfl) (cmX8_isTold zq) ?_
    refine g_if_eq h 148 (by decide) zf dX7_turn_22 ?_ ?_ <;> clear zf <;> intro zf
    · refine g_sub h [1] rfl ?_
      exact kX7_turn_b148 h zf
    · refine g_aload_n h 0 rfl dX7_turn_25 ?_
      refine gfX7_20 h (by decide : kd 28 = 6) dX7_turn_26 ?_
      refine g_iconst h 0 (v := 0) (by decide) dX7_turn_29 ?_
      refine g_aload_n h 1 rfl dX7_turn_30 ?_
      refine gfX7_81 h zk_x1 dX7_turn_31 ?_
      refine g_nmI zf ?_
      clear zf; intro vq6 zf
      refine g_iast h 6 (by decide : kd 46 = 20) (by decide) zf dX7_turn_34 ?_
      clear zf; intro Mq7 zf
      refine g_aload_n h 0 rfl dX7_turn_35 ?_
      refine gfX7_20 h (by decide : kd 28 = 6) dX7_turn_36 ?_
      refine g_iconst h 1 (v := 1) (by decide) dX7_turn_39 ?_
      refine g_aload_n h 1 rfl dX7_turn_40 ?_
      refine gfX7_102 h zk_x1 dX7_turn_41 ?_
      refine g_nmI zf ?_
      clear zf; intro vq8 zf
      refine g_iast h 6 (by decide : kd 46 = 20) (by decide) zf dX7_turn_44 ?_
      clear zf; intro Mq9 zf
      refine g_aload_n h 0 rfl dX7_turn_45 ?_
      refine gfX7_20 h (by decide : kd 28 = 6) dX7_turn_46 ?_
      refine g_iconst h 2 (v := 2) (by decide) dX7_turn_49 ?_
      refine g_aload_n h 1 rfl dX7_turn_50 ?_
      refine gfX7_90 h zk_x1 dX7_turn_51 ?_
      refine g_nmI zf ?_
      clear zf; intro vq10 zf
      refine g_iast h 6 (by decide : kd 46 = 20) (by decide) zf dX7_turn_54 ?_
      clear zf; intro Mq11 zf
      refine g_aload_n h 0 rfl dX7_turn_55 ?_
      refine gfX7_20 h (by decide : kd 28 = 6) dX7_turn_56 ?_
      refine g_iconst h 3 (v := 3) (by decide) dX7_turn_59 ?_
      refine g_aload_n h 1 rfl dX7_turn_60 ?_
      refine gfX7_114 h zk_x1 dX7_turn_61 ?_
      refine g_aload_n h 1 rfl dX7_turn_64 ?_
      refine gfX7_55 h zk_x1 dX7_turn_65 ?_
      refine g_nmI zf ?_
      clear zf; intro vq12 zf
      refine g_iald h 2 (kf2_2 zk_x1) (lf2_2 zk_x1) zf dX7_turn_68 ?_
      clear zf; intro vq13 zf
      refine g_iast h 6 (by decide : kd 46 = 20) (by decide) zf dX7_turn_69 ?_
      clear zf; intro Mq14 zf
      refine g_aload_n h 0 rfl dX7_turn_70 ?_
      refine gfX7_20 h (by decide : kd 28 = 6) dX7_turn_71 ?_
      refine g_iconst h 4 (v := 4) (by decide) dX7_turn_74 ?_
      refine g_aload_n h 1 rfl dX7_turn_75 ?_
      refine gfX7_48 h zk_x1 dX7_turn_76 ?_
      refine g_nmI zf ?_
      clear zf; intro vq15 zf
      refine g_iast h 6 (by decide : kd 46 = 20) (by decide) zf dX7_turn_79 ?_
      clear zf; intro Mq16 zf
      refine g_aload_n h 0 rfl dX7_turn_80 ?_
      refine gfX7_20 h (by decide : kd 28 = 6) dX7_turn_81 ?_
      refine g_iconst h 5 (v := 5) (by decide) dX7_turn_84 ?_
      refine g_aload_n h 0 rfl dX7_turn_85 ?_
      refine gfX7_12 h (by decide : kd 28 = 6) dX7_turn_86 ?_
      refine g_nmR zf ?_
      clear zf; intro oq17 zf
      have zf1 := pre_ck zf
      clear zf; obtain ⟨zk_oq17, zf⟩ := zf1
      refine gfX7_124 h zk_oq17 dX7_turn_89 ?_
      refine gfX7_132 h (kf4_15 zk_oq17) dX7_turn_92 ?_
      refine g_nmI zf ?_
      clear zf; intro vq18 zf
      refine g_if_eq h 114 (by decide) zf dX7_turn_95 ?_ ?_ <;> clear zf <;> intro zf
      · refine g_iconst h 0 (v := 0) (by decide) dX7_turn_114 ?_
        refine g_sub h [0, 1] rfl ?_
        exact kX7_turn_b115 h zf
      · refine g_aload_n h 0 rfl dX7_turn_98 ?_
        refine g_aload_n h 0 rfl dX7_turn_99 ?_
        refine g_aload_n h 1 rfl dX7_turn_100 ?_
        refine g_aload_n h 1 rfl dX7_turn_101 ?_
        refine gfX7_55 h zk_x1 dX7_turn_102 ?_
        refine g_nmI zf ?_
        clear zf; intro vq25 zf
        have zf1 := b2_some zf
        clear zf; obtain ⟨vq26, Mq27, zq, zf⟩ := zf1
        refine g_callVwi (As := [rv G.1 x1, .int vq25]) (rest := [rv G.1 28, .int 5, rv G.1 46]) h ceX7_followers mlX7_136 imX7_followers seX7_followers (by rfl) (kd_lt (by rw [(by decide : kd 28 = 6)]; decide)) (ent_6 (by decide : kd 28 = 6)) rfl rfl ⟨by decide, by decide⟩ ⟨by decide, by decide⟩ rfl dX7_turn_105 rfl (Nat.le_of_ble_eq_true rfl) (cmX7_followers zq) ?_
        have zf1 := bd_some zf
        clear zf; obtain ⟨vq28, zq, zf⟩ := zf1
        refine g_callVri (As := [.int vq26]) (rest := [.int 5, rv G.1 46]) h ceX7_menOf mlX7_139 imX7_menOf seX7_menOf (by rfl) (kd_lt (by rw [(by decide : kd 28 = 6)]; decide)) (ent_6 (by decide : kd 28 = 6)) rfl rfl ⟨by decide, by decide⟩ ⟨by decide, by decide⟩ rfl dX7_turn_108 rfl (Nat.le_of_ble_eq_true rfl) (cmX7_menOf zq) ?_
        refine g_goto h 115 (by decide) dX7_turn_111 ?_
        refine g_sub h [0, 1] rfl ?_
        exact kX7_turn_b115 h zf
  · obtain rfl := Option.some.inj zf
    exact g_vret h rfl ⟨rfl, rfl⟩ (Nat.le_refl _) (Nat.le_refl _) dX7_turn_11

theorem cmX7_turn {l : Launch} {w : WX} {M : Mem} {x1 : Nat} {res : Mem} (zf : fX7_turn M x1 = some res) : CM l w yX7_turn cX7_turn 2 none { frames := 3, cells := 0, slots := 0, locals := 76 } 0 0 [rv w 28, rv w x1] M (Pwv res) := by
  refine CM_of (by decide) (Nat.le_of_ble_eq_true rfl) (fun G hw hl h => ?_)
  subst hw
  exact kX7_turn_e0 h zf

-- X2_gainBehind
theorem kX2_gainBehind_b89 {G : GX} {r : Mem → Int32 → Int32 → Option (Int32 × Mem)} {fr lo : Nat} (zr : ∀ (M : Mem) (u0 u1 : Int32) (res : (Int32 × Mem)), r M u0 u1 = some res → CM G.2.2.1 G.1 yX2_bestGain cX2_bestGain 11 (some .int) { frames := fr, cells := 0, slots := 0, locals := lo } 0 0 [rv G.1 49, .int u0, .int u1] M (Pwi res)) (h : OKm G cX2_gainBehind RX2 8 (some .int) { frames := fr + 7, cells := 0, slots := 0, locals := lo + 221 }) {M : Mem} {x1 : Int32} {x3 : Int32} {s0 : Int32} {res : (Int32 × Mem)} (zf : fX2_gainBehind_b89 r M x1 x3 s0 = some res) : GG G (Qm G (Pwi res) 0 0) 0 0 89 [(0, rv G.1 49), (1, .int x1), (3, .int x3)] [.int s0] M := by
  unfold fX2_gainBehind_b89 at zf
  refine g_istore h [(6, .int s0), (0, rv G.1 49), (1, .int x1), (3, .int x3)] (by decide) rfl dX2_gainBehind_89 ?_
  refine g_aload_n h 1 rfl dX2_gainBehind_91 ?_
  refine g_iload_n h 2 rfl dX2_gainBehind_92 ?_
  refine g_iconst h 1 (v := 1) (by decide) dX2_gainBehind_93 ?_
  refine g_iadd h dX2_gainBehind_94 ?_
  refine g_iload_n h 3 rfl dX2_gainBehind_95 ?_
  refine g_iconst h 1 (v := 1) (by decide) dX2_gainBehind_96 ?_
  refine g_isub h dX2_gainBehind_97 ?_
  have zf1 := b2_some zf
  clear zf; obtain ⟨vq11, Mq12, zq, zf⟩ := zf1
  refine g_callVwi (As := [.int (x1 + 1), .int (x3 - 1)]) (rest := []) h ceX2_bestGain mlX2_51 imX2_bestGain seX2_bestGain (by rfl) (kd_lt (by rw [(by decide : kd 49 = 1)]; decide)) (ent_1 (by decide : kd 49 = 1)) rfl rfl ⟨by dsimp only; omega, by dsimp only; omega⟩ ⟨Nat.le_of_ble_eq_true rfl, Nat.le_of_ble_eq_true rfl⟩ rfl dX2_gainBehind_98 rfl (Nat.le_of_ble_eq_true rfl) (zr _ _ _ _ zq) ?_
  refine g_istore h [(7, .int vq11), (6, .int s0), (0, rv G.1 49), (1, .int x1), (3, .int x3)] (by decide) rfl dX2_gainBehind_101 ?_
  refine g_iload h 1 rfl dX2_gainBehind_103 ?_
  refine g_if_eq h 113 (by decide) zf dX2_gainBehind_105 ?_ ?_ <;> clear zf <;> intro zf
  · refine g_iload h 0 rfl dX2_gainBehind_113 ?_
    refine g_ineg h dX2_gainBehind_115 ?_
    obtain rfl := Option.some.inj zf
    exact g_iret h rfl ⟨rfl, rfl⟩ (Nat.le_refl _) (Nat.le_refl _) dX2_gainBehind_116
  · refine g_iload h 0 rfl dX2_gainBehind_108 ?_
    refine g_goto h 116 (by decide) dX2_gainBehind_110 ?_
    obtain rfl := Option.some.inj zf
    exact g_iret h rfl ⟨rfl, rfl⟩ (Nat.le_refl _) (Nat.le_refl _) dX2_gainBehind_116

theorem kX2_gainBehind_e0 {G : GX} {r : Mem → Int32 → Int32 → Option (Int32 × Mem)} {fr lo : Nat} (zr : ∀ (M : Mem) (u0 u1 : Int32) (res : (Int32 × Mem)), r M u0 u1 = some res → CM G.2.2.1 G.1 yX2_bestGain cX2_bestGain 11 (some .int) { frames := fr, cells := 0, slots := 0, locals := lo } 0 0 [rv G.1 49, .int u0, .int u1] M (Pwi res)) (h : OKm G cX2_gainBehind RX2 8 (some .int) { frames := fr + 7, cells := 0, slots := 0, locals := lo + 221 }) {M : Mem} {x1 : Int32} {x2 : Int32} {x3 : Int32} {res : (Int32 × Mem)} (zf : fX2_gainBehind r M x1 x2 x3 = some res) : GG G (Qm G (Pwi res) 0 0) 0 0 0 [(0, rv G.1 49), (1, .int x1), (2, .int x2), (3, .int x3)] [] M := by
  unfold fX2_gainBehind at zf
  refine g_iload_n h 1 rfl dX2_gainBehind_0 ?_
  refine g_iconst h 1 (v := 1) (by decide) dX2_gainBehind_1 ?_
  refine g_iadd h dX2_gainBehind_2 ?_
  refine g_aload_n h 0 rfl dX2_gainBehind_3 ?_
  refine gfX2_18 h (by decide : kd 49 = 1) dX2_gainBehind_4 ?_
  refine g_alen h 4 (z := 4) (by decide : kd 55 = 24) (by decide) (by decide) dX2_gainBehind_7 ?_
  refine g_ic_lt h 13 (by decide) zf dX2_gainBehind_8 ?_ ?_ <;> clear zf <;> intro zf
  · refine g_aload_n h 0 rfl dX2_gainBehind_13 ?_
    refine gfX2_18 h (by decide : kd 49 = 1) dX2_gainBehind_14 ?_
    refine g_iload_n h 1 rfl dX2_gainBehind_17 ?_
    refine g_iconst h 1 (v := 1) (by decide) dX2_gainBehind_18 ?_
    refine g_iadd h dX2_gainBehind_19 ?_
    refine g_aald h (by decide : kd 55 = 24) (by decide) zf dX2_gainBehind_20 ?_
    clear zf; intro oq1 zf
    have zf1 := pre_ck zf
    clear zf; obtain ⟨zk_oq1, zf⟩ := zf1
    refine g_astore h [(4, rv G.1 oq1), (0, rv G.1 49), (1, .int x1), (2, .int x2), (3, .int x3)] (by decide) rfl dX2_gainBehind_21 ?_
    refine g_aload_n h 1 rfl dX2_gainBehind_23 ?_
    refine gfX2_18 h (by decide : kd 49 = 1) dX2_gainBehind_24 ?_
    refine g_iload_n h 2 rfl dX2_gainBehind_27 ?_
    refine g_aald h (by decide : kd 55 = 24) (by decide) zf dX2_gainBehind_28 ?_
    clear zf; intro oq2 zf
    have zf1 := pre_ck zf
    clear zf; obtain ⟨zk_oq2, zf⟩ := zf1
    refine gfX2_90 h zk_oq2 dX2_gainBehind_29 ?_
    refine g_nmI zf ?_
    clear zf; intro vq3 zf
    refine g_istore h [(5, .int vq3), (4, rv G.1 oq1), (0, rv G.1 49), (1, .int x1), (2, .int x2), (3, .int x3)] (by decide) rfl dX2_gainBehind_32 ?_
    refine g_aload h 1 rfl dX2_gainBehind_34 ?_
    refine g_aload_n h 2 rfl dX2_gainBehind_36 ?_
    refine gfX2_18 h (by decide : kd 49 = 1) dX2_gainBehind_37 ?_
    refine g_iload_n h 3 rfl dX2_gainBehind_40 ?_
    refine g_aald h (by decide : kd 55 = 24) (by decide) zf dX2_gainBehind_41 ?_
    clear zf; intro oq4 zf
    have zf1 := pre_ck zf
    clear zf; obtain ⟨zk_oq4, zf⟩ := zf1
    have zf1 := bd_some zf
    clear zf; obtain ⟨Mq5, zq, zf⟩ := zf1
    refine g_callVwv (As := [rv G.1 oq4]) (rest := []) h ceX3_become mlX2_47 imX3_become seX3_become (by rfl) (kd_lt (by rw [zk_oq1]; decide)) (ent_2 zk_oq1) rfl rfl ⟨by dsimp only; omega, by dsimp only; omega⟩ ⟨Nat.le_of_ble_eq_true rfl, Nat.le_of_ble_eq_true rfl⟩ rfl dX2_gainBehind_42 rfl (Nat.le_of_ble_eq_true rfl) (cmX3_become zq) ?_
    refine g_aload_n h 2 rfl dX2_gainBehind_45 ?_
    refine gfX2_43 h (by decide : kd 49 = 1) dX2_gainBehind_46 ?_
    refine g_aload h 1 rfl dX2_gainBehind_49 ?_
    refine g_iload_n h 4 rfl dX2_gainBehind_51 ?_
    have zf1 := b2_some zf
    clear zf; obtain ⟨vq6, Mq7, zq, zf⟩ := zf1
    refine g_callVwi (As := [rv G.1 oq1, .int x2]) (rest := []) h ceX7_perform mlX2_93 imX7_perform seX7_perform (by rfl) (kd_lt (by rw [(by decide : kd 28 = 6)]; decide)) (ent_6 (by decide : kd 28 = 6)) rfl rfl ⟨by dsimp only; omega, by dsimp only; omega⟩ ⟨Nat.le_of_ble_eq_true rfl, Nat.le_of_ble_eq_true rfl⟩ rfl dX2_gainBehind_52 rfl (Nat.le_of_ble_eq_true rfl) (cmX7_perform zq) ?_
    refine g_pop h rfl dX2_gainBehind_55 ?_
    refine g_aload_n h 2 rfl dX2_gainBehind_56 ?_
    refine gfX2_43 h (by decide : kd 49 = 1) dX2_gainBehind_57 ?_
    refine g_aload h 1 rfl dX2_gainBehind_60 ?_
    have zf1 := bd_some zf
    clear zf; obtain ⟨Mq8, zq, zf⟩ := zf1
    refine g_callVwv (As := [rv G.1 oq1]) (rest := []) h ceX7_age mlX2_97 imX7_age seX7_age (by rfl) (kd_lt (by rw [(by decide : kd 28 = 6)]; decide)) (ent_6 (by decide : kd 28 = 6)) rfl rfl ⟨by dsimp only; omega, by dsimp only; omega⟩ ⟨Nat.le_of_ble_eq_true rfl, Nat.le_of_ble_eq_true rfl⟩ rfl dX2_gainBehind_62 rfl (Nat.le_of_ble_eq_true rfl) (cmX7_age zq) ?_
    refine g_aload_n h 2 rfl dX2_gainBehind_65 ?_
    refine gfX2_43 h (by decide : kd 49 = 1) dX2_gainBehind_66 ?_
    refine g_aload h 1 rfl dX2_gainBehind_69 ?_
    have zf1 := bd_some zf
    clear zf; obtain ⟨Mq9, zq, zf⟩ := zf1
    refine g_callVwv (As := [rv G.1 oq1]) (rest := []) h ceX7_turn mlX2_100 imX7_turn seX7_turn (by rfl) (kd_lt (by rw [(by decide : kd 28 = 6)]; decide)) (ent_6 (by decide : kd 28 = 6)) rfl rfl ⟨by dsimp only; omega, by dsimp only; omega⟩ ⟨Nat.le_of_ble_eq_true rfl, Nat.le_of_ble_eq_true rfl⟩ rfl dX2_gainBehind_71 rfl (Nat.le_of_ble_eq_true rfl) (cmX7_turn zq) ?_
    refine g_aload h 1 rfl dX2_gainBehind_74 ?_
    refine gfX2_90 h zk_oq1 dX2_gainBehind_76 ?_
    refine g_nmI zf ?_
    clear zf; intro vq10 zf
    refine g_iload h 0 rfl dX2_gainBehind_79 ?_
    refine g_ic_ne h 88 (by decide) zf dX2_gainBehind_81 ?_ ?_ <;> clear zf <;> intro zf
    · refine g_iconst h 0 (v := 0) (by decide) dX2_gainBehind_88 ?_
      refine g_sub h [2, 3, 5] rfl ?_
      exact kX2_gainBehind_b89 zr h zf
    · refine g_iconst h 1 (v := 1) (by decide) dX2_gainBehind_84 ?_
      refine g_goto h 89 (by decide) dX2_gainBehind_85 ?_
      refine g_sub h [2, 3, 5] rfl ?_
      exact kX2_gainBehind_b89 zr h zf
  · refine g_iconst h 0 (v := 0) (by decide) dX2_gainBehind_11 ?_
    obtain rfl := Option.some.inj zf
    exact g_iret h rfl ⟨rfl, rfl⟩ (Nat.le_refl _) (Nat.le_refl _) dX2_gainBehind_12

theorem cmX2_gainBehind {l : Launch} {w : WX} {r : Mem → Int32 → Int32 → Option (Int32 × Mem)} {fr lo : Nat} (zr : ∀ (M : Mem) (u0 u1 : Int32) (res : (Int32 × Mem)), r M u0 u1 = some res → CM l w yX2_bestGain cX2_bestGain 11 (some .int) { frames := fr, cells := 0, slots := 0, locals := lo } 0 0 [rv w 49, .int u0, .int u1] M (Pwi res)) {M : Mem} {x1 : Int32} {x2 : Int32} {x3 : Int32} {res : (Int32 × Mem)} (zf : fX2_gainBehind r M x1 x2 x3 = some res) : CM l w yX2_gainBehind cX2_gainBehind 8 (some .int) { frames := fr + 7, cells := 0, slots := 0, locals := lo + 221 } 0 0 [rv w 49, .int x1, .int x2, .int x3] M (Pwi res) := by
  refine CM_of (by decide) (Nat.le_of_ble_eq_true rfl) (fun G hw hl h => ?_)
  subst hw
  subst hl
  exact kX2_gainBehind_e0 zr h zf

-- X2_bestGain
theorem kX2_bestGain_b171 {G : GX} {r : Mem → Int32 → Int32 → Option (Int32 × Mem)} {fr lo : Nat} (zr : ∀ (M : Mem) (u0 u1 : Int32) (res : (Int32 × Mem)), r M u0 u1 = some res → CM G.2.2.1 G.1 yX2_bestGain cX2_bestGain 11 (some .int) { frames := fr, cells := 0, slots := 0, locals := lo } 0 0 [rv G.1 49, .int u0, .int u1] M (Pwi res)) (h : OKm G cX2_bestGain RX2 11 (some .int) { frames := fr + 8, cells := 0, slots := 0, locals := lo + 248 }) {a58 : Mem → Int32 → Int32 → Nat → Nat → Int32 → Int32 → Int32 → Int32 → Option (Int32 × Mem)} (zh58 : ∀ (M : Mem) (x1 : Int32) (x2 : Int32) (x3 : Nat) (x4 : Nat) (x5 : Int32) (x6 : Int32) (x7 : Int32) (x8 : Int32) (res : (Int32 × Mem)), a58 M x1 x2 x3 x4 x5 x6 x7 x8 = some res → GG G (Qm G (Pwi res) 0 0) 0 0 58 [(0, rv G.1 49), (1, .int x1), (2, .int x2), (3, rv G.1 x3), (4, rv G.1 x4), (5, .int x5), (6, .int x6), (7, .int x7), (8, .int x8)] [] M) {M : Mem} {x1 : Int32} {x2 : Int32} {x3 : Nat} {x4 : Nat} {x5 : Int32} {x6 : Int32} {x7 : Int32} {x8 : Int32} {res : (Int32 × Mem)} (zf : fX2_bestGain_b171 r a58 M x1 x2 x3 x4 x5 x6 x7 x8 = some res) : GG G (Qm G (Pwi res) 0 0) 0 0 171 [(0, rv G.1 49), (1, .int x1), (2, .int x2), (3, rv G.1 x3), (4, rv G.1 x4), (5, .int x5), (6, .int x6), (7, .int x7), (8, .int x8)] [] M := by
  unfold fX2_bestGain_b171 at zf
  have zf1 := pre_ck zf
  clear zf; obtain ⟨zk_x3, zf⟩ := zf1
  have zf1 := pre_ck zf
  clear zf; obtain ⟨zk_x4, zf⟩ := zf1
  refine g_iinc h 8 8 rfl (v := x8 + 1) (congrArg (fun z => x8 + z) (by decide : Int32.ofInt (1) = (1 : Int32))) [(8, .int (x8 + 1)), (0, rv G.1 49), (1, .int x1), (2, .int x2), (3, rv G.1 x3), (4, rv G.1 x4), (5, .int x5), (6, .int x6), (7, .int x7)] (by decide) rfl dX2_bestGain_171 ?_
  refine g_nmV zf ?_
  clear zf; intro vq10 zf
  refine g_goto h 58 (by decide) dX2_bestGain_174 ?_
  refine g_sub h [1, 2, 3, 4, 5, 6, 7, 8, 0] rfl ?_
  exact zh58 _ _ _ _ _ _ _ _ _ _ zf

theorem kX2_bestGain_b160 {G : GX} {r : Mem → Int32 → Int32 → Option (Int32 × Mem)} {fr lo : Nat} (zr : ∀ (M : Mem) (u0 u1 : Int32) (res : (Int32 × Mem)), r M u0 u1 = some res → CM G.2.2.1 G.1 yX2_bestGain cX2_bestGain 11 (some .int) { frames := fr, cells := 0, slots := 0, locals := lo } 0 0 [rv G.1 49, .int u0, .int u1] M (Pwi res)) (h : OKm G cX2_bestGain RX2 11 (some .int) { frames := fr + 8, cells := 0, slots := 0, locals := lo + 248 }) {a58 : Mem → Int32 → Int32 → Nat → Nat → Int32 → Int32 → Int32 → Int32 → Option (Int32 × Mem)} (zh58 : ∀ (M : Mem) (x1 : Int32) (x2 : Int32) (x3 : Nat) (x4 : Nat) (x5 : Int32) (x6 : Int32) (x7 : Int32) (x8 : Int32) (res : (Int32 × Mem)), a58 M x1 x2 x3 x4 x5 x6 x7 x8 = some res → GG G (Qm G (Pwi res) 0 0) 0 0 58 [(0, rv G.1 49), (1, .int x1), (2, .int x2), (3, rv G.1 x3), (4, rv G.1 x4), (5, .int x5), (6, .int x6), (7, .int x7), (8, .int x8)] [] M) {M : Mem} {x1 : Int32} {x2 : Int32} {x3 : Nat} {x4 : Nat} {x8 : Int32} {x9 : Int32} {x10 : Int32} {res : (Int32 × Mem)} (zf : fX2_bestGain_b160 r a58 M x1 x2 x3 x4 x8 x9 x10 = some res) : GG G (Qm G (Pwi res) 0 0) 0 0 160 [(0, rv G.1 49), (1, .int x1), (2, .int x2), (3, rv G.1 x3), (4, rv G.1 x4), (8, .int x8), (9, .int x9), (10, .int x10)] [] M := by
  unfold fX2_bestGain_b160 at zf
  have zf1 := pre_ck zf
  clear zf; obtain ⟨zk_x3, zf⟩ := zf1
  have zf1 := pre_ck zf
  clear zf; obtain ⟨zk_x4, zf⟩ := zf1
  refine g_iload h 7 rfl dX2_bestGain_160 ?_
  refine g_istore h [(5, .int x10), (0, rv G.1 49), (1, .int x1), (2, .int x2), (3, rv G.1 x3), (4, rv G.1 x4), (8, .int x8), (9, .int x9), (10, .int x10)] (by decide) rfl dX2_bestGain_162 ?_
  refine g_iload h 7 rfl dX2_bestGain_164 ?_
  refine g_istore h [(6, .int x9), (5, .int x10), (0, rv G.1 49), (1, .int x1), (2, .int x2), (3, rv G.1 x3), (4, rv G.1 x4), (8, .int x8), (9, .int x9), (10, .int x10)] (by decide) rfl dX2_bestGain_166 ?_
  refine g_iconst h 1 (v := 1) (by decide) dX2_bestGain_168 ?_
  refine g_istore h [(7, .int 1), (6, .int x9), (5, .int x10), (0, rv G.1 49), (1, .int x1), (2, .int x2), (3, rv G.1 x3), (4, rv G.1 x4), (8, .int x8), (9, .int x9), (10, .int x10)] (by decide) rfl dX2_bestGain_169 ?_
  refine g_sub h [3, 4, 5, 6, 7, 2, 1, 0, 8] rfl ?_
  exact kX2_bestGain_b171 zr h zh58 zf

theorem kX2_bestGain_b148 {G : GX} {r : Mem → Int32 → Int32 → Option (Int32 × Mem)} {fr lo : Nat} (zr : ∀ (M : Mem) (u0 u1 : Int32) (res : (Int32 × Mem)), r M u0 u1 = some res → CM G.2.2.1 G.1 yX2_bestGain cX2_bestGain 11 (some .int) { frames := fr, cells := 0, slots := 0, locals := lo } 0 0 [rv G.1 49, .int u0, .int u1] M (Pwi res)) (h : OKm G cX2_bestGain RX2 11 (some .int) { frames := fr + 8, cells := 0, slots := 0, locals := lo + 248 }) {a58 : Mem → Int32 → Int32 → Nat → Nat → Int32 → Int32 → Int32 → Int32 → Option (Int32 × Mem)} (zh58 : ∀ (M : Mem) (x1 : Int32) (x2 : Int32) (x3 : Nat) (x4 : Nat) (x5 : Int32) (x6 : Int32) (x7 : Int32) (x8 : Int32) (res : (Int32 × Mem)), a58 M x1 x2 x3 x4 x5 x6 x7 x8 = some res → GG G (Qm G (Pwi res) 0 0) 0 0 58 [(0, rv G.1 49), (1, .int x1), (2, .int x2), (3, rv G.1 x3), (4, rv G.1 x4), (5, .int x5), (6, .int x6), (7, .int x7), (8, .int x8)] [] M) {M : Mem} {x1 : Int32} {x2 : Int32} {x3 : Nat} {x4 : Nat} {x5 : Int32} {x6 : Int32} {x7 : Int32} {x8 : Int32} {x9 : Int32} {x10 : Int32} {res : (Int32 × Mem)} (zf : fX2_bestGain_b148 r a58 M x1 x2 x3 x4 x5 x6 x7 x8 x9 x10 = some res) : GG G (Qm G (Pwi res) 0 0) 0 0 148 [(0, rv G.1 49), (1, .int x1), (2, .int x2), (3, rv G.1 x3), (4, rv G.1 x4), (5, .int x5), (6, .int x6), (7, .int x7), (8, .int x8), (9, .int x9), (10, .int x10)] [] M := by
  unfold fX2_bestGain_b148 at zf
  have zf1 := pre_ck zf
  clear zf; obtain ⟨zk_x3, zf⟩ := zf1
  have zf1 := pre_ck zf
  clear zf; obtain ⟨zk_x4, zf⟩ := zf1
  refine g_iload h 7 rfl dX2_bestGain_148 ?_
  refine g_if_eq h 160 (by decide) zf dX2_bestGain_150 ?_ ?_ <;> clear zf <;> intro zf
  · refine g_sub h [0, 1, 2, 3, 4, 8, 9, 10] rfl ?_
    exact kX2_bestGain_b160 zr h zh58 zf
  · refine g_iload h 10 rfl dX2_bestGain_153 ?_
    refine g_iload h 5 rfl dX2_bestGain_155 ?_
    refine g_ic_le h 171 (by decide) zf dX2_bestGain_157 ?_ ?_ <;> clear zf <;> intro zf
    · refine g_sub h [0, 1, 2, 3, 4, 5, 6, 7, 8] rfl ?_
      exact kX2_bestGain_b171 zr h zh58 zf
    · refine g_sub h [0, 1, 2, 3, 4, 8, 9, 10] rfl ?_
      exact kX2_bestGain_b160 zr h zh58 zf

theorem kX2_bestGain_b128 {G : GX} {r : Mem → Int32 → Int32 → Option (Int32 × Mem)} {fr lo : Nat} (zr : ∀ (M : Mem) (u0 u1 : Int32) (res : (Int32 × Mem)), r M u0 u1 = some res → CM G.2.2.1 G.1 yX2_bestGain cX2_bestGain 11 (some .int) { frames := fr, cells := 0, slots := 0, locals := lo } 0 0 [rv G.1 49, .int u0, .int u1] M (Pwi res)) (h : OKm G cX2_bestGain RX2 11 (some .int) { frames := fr + 8, cells := 0, slots := 0, locals := lo + 248 }) {a58 : Mem → Int32 → Int32 → Nat → Nat → Int32 → Int32 → Int32 → Int32 → Option (Int32 × Mem)} (zh58 : ∀ (M : Mem) (x1 : Int32) (x2 : Int32) (x3 : Nat) (x4 : Nat) (x5 : Int32) (x6 : Int32) (x7 : Int32) (x8 : Int32) (res : (Int32 × Mem)), a58 M x1 x2 x3 x4 x5 x6 x7 x8 = some res → GG G (Qm G (Pwi res) 0 0) 0 0 58 [(0, rv G.1 49), (1, .int x1), (2, .int x2), (3, rv G.1 x3), (4, rv G.1 x4), (5, .int x5), (6, .int x6), (7, .int x7), (8, .int x8)] [] M) {M : Mem} {x1 : Int32} {x2 : Int32} {x3 : Nat} {x4 : Nat} {x5 : Int32} {x6 : Int32} {x7 : Int32} {x8 : Int32} {x9 : Int32} {s0 : Int32} {res : (Int32 × Mem)} (zf : fX2_bestGain_b128 r a58 M x1 x2 x3 x4 x5 x6 x7 x8 x9 s0 = some res) : GG G (Qm G (Pwi res) 0 0) 0 0 128 [(0, rv G.1 49), (1, .int x1), (2, .int x2), (3, rv G.1 x3), (4, rv G.1 x4), (5, .int x5), (6, .int x6), (7, .int x7), (8, .int x8), (9, .int x9)] [.int s0] M := by
  unfold fX2_bestGain_b128 at zf
  have zf1 := pre_ck zf
  clear zf; obtain ⟨zk_x3, zf⟩ := zf1
  have zf1 := pre_ck zf
  clear zf; obtain ⟨zk_x4, zf⟩ := zf1
  refine g_istore h [(10, .int s0), (0, rv G.1 49), (1, .int x1), (2, .int x2), (3, rv G.1 x3), (4, rv G.1 x4), (5, .int x5), (6, .int x6), (7, .int x7), (8, .int x8), (9, .int x9)] (by decide) rfl dX2_bestGain_128 ?_
  refine g_iload_n h 3 rfl dX2_bestGain_130 ?_
  refine g_iconst h 1 (v := 1) (by decide) dX2_bestGain_131 ?_
  refine g_ic_le h 148 (by decide) zf dX2_bestGain_132 ?_ ?_ <;> clear zf <;> intro zf
  · refine g_sub h [1, 2, 3, 4, 5, 6, 7, 8, 9, 10, 0] rfl ?_
    exact kX2_bestGain_b148 zr h zh58 zf
  · refine g_iload h 0 rfl dX2_bestGain_135 ?_
    refine g_aload_n h 1 rfl dX2_bestGain_137 ?_
    refine g_iload_n h 2 rfl dX2_bestGain_138 ?_
    refine g_iload h 10 rfl dX2_bestGain_139 ?_
    refine g_iload_n h 3 rfl dX2_bestGain_141 ?_
    have zf1 := b2_some zf
    clear zf; obtain ⟨vq11, Mq12, zq, zf⟩ := zf1
    refine g_callVwi (As := [.int x1, .int x9, .int x2]) (rest := [.int s0]) h ceX2_gainBehind mlX2_86 imX2_gainBehind seX2_gainBehind (by rfl) (kd_lt (by rw [(by decide : kd 49 = 1)]; decide)) (ent_1 (by decide : kd 49 = 1)) rfl rfl ⟨by dsimp only; omega, by dsimp only; omega⟩ ⟨Nat.le_of_ble_eq_true rfl, Nat.le_of_ble_eq_true rfl⟩ rfl dX2_bestGain_142 rfl (Nat.le_of_ble_eq_true rfl) (cmX2_gainBehind zr zq) ?_
    refine g_iadd h dX2_bestGain_145 ?_
    refine g_nmI zf ?_
    clear zf; intro vq13 zf
    refine g_istore h [(10, .int vq13), (0, rv G.1 49), (1, .int x1), (2, .int x2), (3, rv G.1 x3), (4, rv G.1 x4), (5, .int x5), (6, .int x6), (7, .int x7), (8, .int x8), (9, .int x9)] (by decide) rfl dX2_bestGain_146 ?_
    refine g_sub h [1, 2, 3, 4, 5, 6, 7, 8, 9, 10, 0] rfl ?_
    exact kX2_bestGain_b148 zr h zh58 zf

theorem kX2_bestGain_b110 {G : GX} {r : Mem → Int32 → Int32 → Option (Int32 × Mem)} {fr lo : Nat} (zr : ∀ (M : Mem) (u0 u1 : Int32) (res : (Int32 × Mem)), r M u0 u1 = some res → CM G.2.2.1 G.1 yX2_bestGain cX2_bestGain 11 (some .int) { frames := fr, cells := 0, slots := 0, locals := lo } 0 0 [rv G.1 49, .int u0, .int u1] M (Pwi res)) (h : OKm G cX2_bestGain RX2 11 (some .int) { frames := fr + 8, cells := 0, slots := 0, locals := lo + 248 }) {a58 : Mem → Int32 → Int32 → Nat → Nat → Int32 → Int32 → Int32 → Int32 → Option (Int32 × Mem)} (zh58 : ∀ (M : Mem) (x1 : Int32) (x2 : Int32) (x3 : Nat) (x4 : Nat) (x5 : Int32) (x6 : Int32) (x7 : Int32) (x8 : Int32) (res : (Int32 × Mem)), a58 M x1 x2 x3 x4 x5 x6 x7 x8 = some res → GG G (Qm G (Pwi res) 0 0) 0 0 58 [(0, rv G.1 49), (1, .int x1), (2, .int x2), (3, rv G.1 x3), (4, rv G.1 x4), (5, .int x5), (6, .int x6), (7, .int x7), (8, .int x8)] [] M) {M : Mem} {x1 : Int32} {x2 : Int32} {x3 : Nat} {x4 : Nat} {x5 : Int32} {x6 : Int32} {x7 : Int32} {x8 : Int32} {x9 : Int32} {res : (Int32 × Mem)} (zf : fX2_bestGain_b110 r a58 M x1 x2 x3 x4 x5 x6 x7 x8 x9 = some res) : GG G (Qm G (Pwi res) 0 0) 0 0 110 [(0, rv G.1 49), (1, .int x1), (2, .int x2), (3, rv G.1 x3), (4, rv G.1 x4), (5, .int x5), (6, .int x6), (7, .int x7), (8, .int x8), (9, .int x9)] [] M := by
  unfold fX2_bestGain_b110 at zf
  have zf1 := pre_ck zf
  clear zf; obtain ⟨zk_x3, zf⟩ := zf1
  have zf1 := pre_ck zf
  clear zf; obtain ⟨zk_x4, zf⟩ := zf1
  refine g_iload h 9 rfl dX2_bestGain_110 ?_
  refine g_iconst h (-1) (v := (-1)) (by decide) dX2_bestGain_112 ?_
  refine g_ic_ne h 120 (by decide) zf dX2_bestGain_113 ?_ ?_ <;> clear zf <;> intro zf
  · refine g_aload h 4 rfl dX2_bestGain_120 ?_
    refine gfX2_83 h zk_x4 dX2_bestGain_122 ?_
    refine g_iload h 9 rfl dX2_bestGain_125 ?_
    refine g_iald h 7 (kf4_4 zk_x4) (lf4_4 zk_x4) zf dX2_bestGain_127 ?_
    clear zf; intro vq9 zf
    refine g_sub h [0, 1, 2, 3, 4, 5, 6, 7, 8, 9] rfl ?_
    exact kX2_bestGain_b128 zr h zh58 zf
  · refine g_iconst h 0 (v := 0) (by decide) dX2_bestGain_116 ?_
    refine g_goto h 128 (by decide) dX2_bestGain_117 ?_
    refine g_sub h [0, 1, 2, 3, 4, 5, 6, 7, 8, 9] rfl ?_
    exact kX2_bestGain_b128 zr h zh58 zf

theorem kX2_bestGain_b84 {G : GX} {r : Mem → Int32 → Int32 → Option (Int32 × Mem)} {fr lo : Nat} (zr : ∀ (M : Mem) (u0 u1 : Int32) (res : (Int32 × Mem)), r M u0 u1 = some res → CM G.2.2.1 G.1 yX2_bestGain cX2_bestGain 11 (some .int) { frames := fr, cells := 0, slots := 0, locals := lo } 0 0 [rv G.1 49, .int u0, .int u1] M (Pwi res)) (h : OKm G cX2_bestGain RX2 11 (some .int) { frames := fr + 8, cells := 0, slots := 0, locals := lo + 248 }) {a58 : Mem → Int32 → Int32 → Nat → Nat → Int32 → Int32 → Int32 → Int32 → Option (Int32 × Mem)} (zh58 : ∀ (M : Mem) (x1 : Int32) (x2 : Int32) (x3 : Nat) (x4 : Nat) (x5 : Int32) (x6 : Int32) (x7 : Int32) (x8 : Int32) (res : (Int32 × Mem)), a58 M x1 x2 x3 x4 x5 x6 x7 x8 = some res → GG G (Qm G (Pwi res) 0 0) 0 0 58 [(0, rv G.1 49), (1, .int x1), (2, .int x2), (3, rv G.1 x3), (4, rv G.1 x4), (5, .int x5), (6, .int x6), (7, .int x7), (8, .int x8)] [] M) {M : Mem} {x1 : Int32} {x2 : Int32} {x3 : Nat} {x4 : Nat} {x5 : Int32} {x6 : Int32} {x7 : Int32} {x8 : Int32} {s0 : Int32} {res : (Int32 × Mem)} (zf : fX2_bestGain_b84 r a58 M x1 x2 x3 x4 x5 x6 x7 x8 s0 = some res) : GG G (Qm G (Pwi res) 0 0) 0 0 84 [(0, rv G.1 49), (1, .int x1), (2, .int x2), (3, rv G.1 x3), (4, rv G.1 x4), (5, .int x5), (6, .int x6), (7, .int x7), (8, .int x8)] [.int s0] M := by
  unfold fX2_bestGain_b84 at zf
  have zf1 := pre_ck zf
  clear zf; obtain ⟨zk_x3, zf⟩ := zf1
  have zf1 := pre_ck zf
  clear zf; obtain ⟨zk_x4, zf⟩ := zf1
  refine g_istore h [(9, .int s0), (0, rv G.1 49), (1, .int x1), (2, .int x2), (3, rv G.1 x3), (4, rv G.1 x4), (5, .int x5), (6, .int x6), (7, .int x7), (8, .int x8)] (by decide) rfl dX2_bestGain_84 ?_
  refine g_iload h 0 rfl dX2_bestGain_86 ?_
  refine g_iconst h (-1) (v := (-1)) (by decide) dX2_bestGain_88 ?_
  refine g_ic_eq h 110 (by decide) zf dX2_bestGain_89 ?_ ?_ <;> clear zf <;> intro zf
  · refine g_sub h [1, 2, 3, 4, 5, 6, 7, 8, 9, 0] rfl ?_
    exact kX2_bestGain_b110 zr h zh58 zf
  · refine g_aload h 5 rfl dX2_bestGain_92 ?_
    refine gfX2_77 h zk_x4 dX2_bestGain_94 ?_
    refine g_iload h 0 rfl dX2_bestGain_97 ?_
    refine g_iald h 7 (kf4_1 zk_x4) (lf4_1 zk_x4) zf dX2_bestGain_99 ?_
    clear zf; intro vq14 zf
    refine g_aload_n h 4 rfl dX2_bestGain_100 ?_
    refine gfX2_80 h zk_x3 dX2_bestGain_101 ?_
    refine g_nmI zf ?_
    clear zf; intro vq15 zf
    refine g_ic_le h 110 (by decide) zf dX2_bestGain_104 ?_ ?_ <;> clear zf <;> intro zf
    · refine g_sub h [1, 2, 3, 4, 5, 6, 7, 8, 9, 0] rfl ?_
      exact kX2_bestGain_b110 zr h zh58 zf
    · refine g_goto h 171 (by decide) dX2_bestGain_107 ?_
      refine g_sub h [1, 2, 3, 4, 5, 6, 7, 8, 9] rfl ?_
      exact kX2_bestGain_b171 zr h zh58 zf

theorem kX2_bestGain_l58 {G : GX} {r : Mem → Int32 → Int32 → Option (Int32 × Mem)} {fr lo : Nat} (zr : ∀ (M : Mem) (u0 u1 : Int32) (res : (Int32 × Mem)), r M u0 u1 = some res → CM G.2.2.1 G.1 yX2_bestGain cX2_bestGain 11 (some .int) { frames := fr, cells := 0, slots := 0, locals := lo } 0 0 [rv G.1 49, .int u0, .int u1] M (Pwi res)) (h : OKm G cX2_bestGain RX2 11 (some .int) { frames := fr + 8, cells := 0, slots := 0, locals := lo + 248 }) : ∀ (n : Nat) (M : Mem) (x1 : Int32) (x2 : Int32) (x3 : Nat) (x4 : Nat) (x5 : Int32) (x6 : Int32) (x7 : Int32) (x8 : Int32) (res : (Int32 × Mem)), fX2_bestGain_l58 r n M x1 x2 x3 x4 x5 x6 x7 x8 = some res → GG G (Qm G (Pwi res) 0 0) 0 0 58 [(0, rv G.1 49), (1, .int x1), (2, .int x2), (3, rv G.1 x3), (4, rv G.1 x4), (5, .int x5), (6, .int x6), (7, .int x7), (8, .int x8)] [] M := by
  intro n
  induction n with
  | zero => intro M x1 x2 x3 x4 x5 x6 x7 x8 res zf; rw [fX2_bestGain_l58] at zf; cases zf
  | succ n ih =>
    intro M x1 x2 x3 x4 x5 x6 x7 x8 res zf
    rw [fX2_bestGain_l58] at zf
    have zf1 := pre_ck zf
    clear zf; obtain ⟨zk_x3, zf⟩ := zf1
    have zf1 := pre_ck zf
    clear zf; obtain ⟨zk_x4, zf⟩ := zf1
    refine g_iload h 8 rfl dX2_bestGain_58 ?_
    refine g_aload h 4 rfl dX2_bestGain_60 ?_
    refine gfX2_72 h zk_x4 dX2_bestGain_62 ?_
    refine g_nmI zf ?_
    clear zf; intro vq6 zf
    refine g_ic_gt h 177 (by decide) zf dX2_bestGain_65 ?_ ?_ <;> clear zf <;> intro zf
    · refine g_iload_n h 1 rfl dX2_bestGain_177 ?_
      refine g_if_ne h 187 (by decide) zf dX2_bestGain_178 ?_ ?_ <;> clear zf <;> intro zf
      · refine g_iload h 5 rfl dX2_bestGain_187 ?_
        obtain rfl := Option.some.inj zf
        exact g_iret h rfl ⟨rfl, rfl⟩ (Nat.le_refl _) (Nat.le_refl _) dX2_bestGain_189
      · refine g_aload_n h 0 rfl dX2_bestGain_181 ?_
        refine g_iload h 6 rfl dX2_bestGain_182 ?_
        refine pfX2_22 h (by decide : kd 49 = 1) dX2_bestGain_184 ?_
        refine g_nmM zf ?_
        clear zf; intro Mq7 zf
        refine g_iload h 5 rfl dX2_bestGain_187 ?_
        obtain rfl := Option.some.inj zf
        exact g_iret h rfl ⟨rfl, rfl⟩ (Nat.le_refl _) (Nat.le_refl _) dX2_bestGain_189
    · refine g_iload h 8 rfl dX2_bestGain_68 ?_
      refine g_aload h 4 rfl dX2_bestGain_70 ?_
      refine gfX2_72 h zk_x4 dX2_bestGain_72 ?_
      refine g_nmI zf ?_
      clear zf; intro vq8 zf
      refine g_ic_ge h 83 (by decide) zf dX2_bestGain_75 ?_ ?_ <;> clear zf <;> intro zf
      · refine g_iconst h (-1) (v := (-1)) (by decide) dX2_bestGain_83 ?_
        refine g_sub h [0, 1, 2, 3, 4, 5, 6, 7, 8] rfl ?_
        exact kX2_bestGain_b84 zr h ih zf
      · refine g_iload h 8 rfl dX2_bestGain_78 ?_
        refine g_goto h 84 (by decide) dX2_bestGain_80 ?_
        refine g_sub h [0, 1, 2, 3, 4, 5, 6, 7, 8] rfl ?_
        exact kX2_bestGain_b84 zr h ih zf

theorem kX2_bestGain_e0 {G : GX} {r : Mem → Int32 → Int32 → Option (Int32 × Mem)} {fr lo : Nat} (zr : ∀ (M : Mem) (u0 u1 : Int32) (res : (Int32 × Mem)), r M u0 u1 = some res → CM G.2.2.1 G.1 yX2_bestGain cX2_bestGain 11 (some .int) { frames := fr, cells := 0, slots := 0, locals := lo } 0 0 [rv G.1 49, .int u0, .int u1] M (Pwi res)) (h : OKm G cX2_bestGain RX2 11 (some .int) { frames := fr + 8, cells := 0, slots := 0, locals := lo + 248 }) {M : Mem} {x1 : Int32} {x2 : Int32} {res : (Int32 × Mem)} (zf : fX2_bestGain_s r M x1 x2 = some res) : GG G (Qm G (Pwi res) 0 0) 0 0 0 [(0, rv G.1 49), (1, .int x1), (2, .int x2)] [] M := by
  unfold fX2_bestGain_s at zf
  refine g_iload_n h 1 rfl dX2_bestGain_0 ?_
  refine g_aload_n h 0 rfl dX2_bestGain_1 ?_
  refine gfX2_18 h (by decide : kd 49 = 1) dX2_bestGain_2 ?_
  refine g_alen h 4 (z := 4) (by decide : kd 55 = 24) (by decide) (by decide) dX2_bestGain_5 ?_
  refine g_ic_lt h 11 (by decide) zf dX2_bestGain_6 ?_ ?_ <;> clear zf <;> intro zf
  · refine g_aload_n h 0 rfl dX2_bestGain_11 ?_
    refine gfX2_18 h (by decide : kd 49 = 1) dX2_bestGain_12 ?_
    refine g_iload_n h 1 rfl dX2_bestGain_15 ?_
    refine g_aald h (by decide : kd 55 = 24) (by decide) zf dX2_bestGain_16 ?_
    clear zf; intro oq1 zf
    have zf1 := pre_ck zf
    clear zf; obtain ⟨zk_oq1, zf⟩ := zf1
    refine g_astore_n h rfl [(3, rv G.1 oq1), (0, rv G.1 49), (1, .int x1), (2, .int x2)] (by decide) rfl dX2_bestGain_17 ?_
    refine g_aload_n h 1 rfl dX2_bestGain_18 ?_
    refine gfX2_43 h (by decide : kd 49 = 1) dX2_bestGain_19 ?_
    refine gfX2_55 h (by decide : kd 28 = 6) dX2_bestGain_22 ?_
    refine g_nmR zf ?_
    clear zf; intro oq2 zf
    have zf1 := pre_ck zf
    clear zf; obtain ⟨zk_oq2, zf⟩ := zf1
    refine g_astore h [(4, rv G.1 oq2), (3, rv G.1 oq1), (0, rv G.1 49), (1, .int x1), (2, .int x2)] (by decide) rfl dX2_bestGain_25 ?_
    refine g_aload_n h 2 rfl dX2_bestGain_27 ?_
    refine gfX2_43 h (by decide : kd 49 = 1) dX2_bestGain_28 ?_
    refine g_aload_n h 1 rfl dX2_bestGain_31 ?_
    refine g_aload_n h 2 rfl dX2_bestGain_32 ?_
    refine gfX2_43 h (by decide : kd 49 = 1) dX2_bestGain_33 ?_
    refine g_aload_n h 1 rfl dX2_bestGain_36 ?_
    refine gfX2_61 h zk_oq1 dX2_bestGain_37 ?_
    refine g_nmI zf ?_
    clear zf; intro vq3 zf
    have zf1 := bd_some zf
    clear zf; obtain ⟨vq4, zq, zf⟩ := zf1
    refine g_callVri (As := [.int vq3]) (rest := [rv G.1 oq1, rv G.1 28]) h ceX7_harvestOf mlX2_64 imX7_harvestOf seX7_harvestOf (by rfl) (kd_lt (by rw [(by decide : kd 28 = 6)]; decide)) (ent_6 (by decide : kd 28 = 6)) rfl rfl ⟨by dsimp only; omega, by dsimp only; omega⟩ ⟨Nat.le_of_ble_eq_true rfl, Nat.le_of_ble_eq_true rfl⟩ rfl dX2_bestGain_40 rfl (Nat.le_of_ble_eq_true rfl) (cmX7_harvestOf zq) ?_
    have zf1 := bd_some zf
    clear zf; obtain ⟨Mq5, zq, zf⟩ := zf1
    refine g_callVwv (As := [rv G.1 oq1, .int vq4]) (rest := []) h ceX7_reap mlX2_68 imX7_reap seX7_reap (by rfl) (kd_lt (by rw [(by decide : kd 28 = 6)]; decide)) (ent_6 (by decide : kd 28 = 6)) rfl rfl ⟨by dsimp only; omega, by dsimp only; omega⟩ ⟨Nat.le_of_ble_eq_true rfl, Nat.le_of_ble_eq_true rfl⟩ rfl dX2_bestGain_43 rfl (Nat.le_of_ble_eq_true rfl) (cmX7_reap zq) ?_
    refine g_iconst h 0 (v := 0) (by decide) dX2_bestGain_46 ?_
    refine g_istore h [(5, .int 0), (4, rv G.1 oq2), (3, rv G.1 oq1), (0, rv G.1 49), (1, .int x1), (2, .int x2)] (by decide) rfl dX2_bestGain_47 ?_
    refine g_iconst h (-1) (v := (-1)) (by decide) dX2_bestGain_49 ?_
    refine g_istore h [(6, .int (-1)), (5, .int 0), (4, rv G.1 oq2), (3, rv G.1 oq1), (0, rv G.1 49), (1, .int x1), (2, .int x2)] (by decide) rfl dX2_bestGain_50 ?_
    refine g_iconst h 0 (v := 0) (by decide) dX2_bestGain_52 ?_
    refine g_istore h [(7, .int 0), (6, .int (-1)), (5, .int 0), (4, rv G.1 oq2), (3, rv G.1 oq1), (0, rv G.1 49), (1, .int x1), (2, .int x2)] (by decide) rfl dX2_bestGain_53 ?_
    refine g_iconst h 0 (v := 0) (by decide) dX2_bestGain_55 ?_
    refine g_istore h [(8, .int 0), (7, .int 0), (6, .int (-1)), (5, .int 0), (4, rv G.1 oq2), (3, rv G.1 oq1), (0, rv G.1 49), (1, .int x1), (2, .int x2)] (by decide) rfl dX2_bestGain_56 ?_
    refine g_sub h [6, 7, 8, 5, 4, 3, 2, 1, 0] rfl ?_
    exact kX2_bestGain_l58 zr h _ _ _ _ _ _ _ _ _ _ _ zf
  · refine g_iconst h 0 (v := 0) (by decide) dX2_bestGain_9 ?_
    obtain rfl := Option.some.inj zf
    exact g_iret h rfl ⟨rfl, rfl⟩ (Nat.le_refl _) (Nat.le_refl _) dX2_bestGain_10

theorem cmX2_bestGain_s {l : Launch} {w : WX} {r : Mem → Int32 → Int32 → Option (Int32 × Mem)} {fr lo : Nat} (zr : ∀ (M : Mem) (u0 u1 : Int32) (res : (Int32 × Mem)), r M u0 u1 = some res → CM l w yX2_bestGain cX2_bestGain 11 (some .int) { frames := fr, cells := 0, slots := 0, locals := lo } 0 0 [rv w 49, .int u0, .int u1] M (Pwi res)) {M : Mem} {x1 : Int32} {x2 : Int32} {res : (Int32 × Mem)} (zf : fX2_bestGain_s r M x1 x2 = some res) : CM l w yX2_bestGain cX2_bestGain 11 (some .int) { frames := fr + 8, cells := 0, slots := 0, locals := lo + 248 } 0 0 [rv w 49, .int x1, .int x2] M (Pwi res) := by
  refine CM_of (by decide) (Nat.le_of_ble_eq_true rfl) (fun G hw hl h => ?_)
  subst hw
  subst hl
  exact kX2_bestGain_e0 zr h zf
theorem cmX2_bestGain {l : Launch} {w : WX} : ∀ (d : Nat) {M : Mem} {x1 : Int32} {x2 : Int32} {res : (Int32 × Mem)}, fX2_bestGain d M x1 x2 = some res → CM l w yX2_bestGain cX2_bestGain 11 (some .int) { frames := 8 * d, cells := 0, slots := 0, locals := 248 * d } 0 0 [rv w 49, .int x1, .int x2] M (Pwi res) := by
  intro d
  induction d with
  | zero => intro  M x1 x2 res zf; cases zf
  | succ d ih =>
    intro  M x1 x2 res zf
    exact cmX2_bestGain_s (fun _ _ _ _ zq => ih zq) zf

-- J6_bitCount_0f7a4
theorem kJ6_bitCount_0f7a4_e0 {G : GX} {M : Mem} (h : OKm G cJ6_bitCount_0f7a4 RJ6 1 (some .int) { frames := 0, cells := 0, slots := 0, locals := 0 }) {x0 : Int32} {res : Int32} (zf : fJ6_bitCount_0f7a4 x0 = some res) : GG G (Qm G (Pri res M) 0 0) 0 0 0 [(0, .int x0)] [] M := by
  unfold fJ6_bitCount_0f7a4 at zf
  refine g_iload_n h 0 rfl dJ6_bitCount_0f7a4_0 ?_
  refine g_iload_n h 0 rfl dJ6_bitCount_0f7a4_1 ?_
  refine g_iconst h 1 (v := 1) (by decide) dJ6_bitCount_0f7a4_2 ?_
  refine g_iushr h dJ6_bitCount_0f7a4_3 ?_
  refine g_ldcw h 265 (v := 1431655765) coJ6_265 dJ6_bitCount_0f7a4_4 ?_
  refine g_iand h dJ6_bitCount_0f7a4_7 ?_
  refine g_isub h dJ6_bitCount_0f7a4_8 ?_
  refine g_nmI zf ?_
  clear zf; intro vq1 zf
  refine g_istore_n h rfl [(0, .int vq1)] (by decide) rfl dJ6_bitCount_0f7a4_9 ?_
  refine g_iload_n h 0 rfl dJ6_bitCount_0f7a4_10 ?_
  refine g_ldcw h 266 (v := 858993459) coJ6_266 dJ6_bitCount_0f7a4_11 ?_
  refine g_iand h dJ6_bitCount_0f7a4_14 ?_
  refine g_iload_n h 0 rfl dJ6_bitCount_0f7a4_15 ?_
  refine g_iconst h 2 (v := 2) (by decide) dJ6_bitCount_0f7a4_16 ?_
  refine g_iushr h dJ6_bitCount_0f7a4_17 ?_
  refine g_ldcw h 266 (v := 858993459) coJ6_266 dJ6_bitCount_0f7a4_18 ?_
  refine g_iand h dJ6_bitCount_0f7a4_21 ?_
  refine g_iadd h dJ6_bitCount_0f7a4_22 ?_
  refine g_nmI zf ?_
  clear zf; intro vq2 zf
  refine g_istore_n h rfl [(0, .int vq2)] (by decide) rfl dJ6_bitCount_0f7a4_23 ?_
  refine g_iload_n h 0 rfl dJ6_bitCount_0f7a4_24 ?_
  refine g_iload_n h 0 rfl dJ6_bitCount_0f7a4_25 ?_
  refine g_iconst h 4 (v := 4) (by decide) dJ6_bitCount_0f7a4_26 ?_
  refine g_iushr h dJ6_bitCount_0f7a4_27 ?_
  refine g_iadd h dJ6_bitCount_0f7a4_28 ?_
  refine g_ldcw h 267 (v := 252645135) coJ6_267 dJ6_bitCount_0f7a4_29 ?_
  refine g_iand h dJ6_bitCount_0f7a4_32 ?_
  refine g_nmI zf ?_
  clear zf; intro vq3 zf
  refine g_istore_n h rfl [(0, .int vq3)] (by decide) rfl dJ6_bitCount_0f7a4_33 ?_
  refine g_iload_n h 0 rfl dJ6_bitCount_0f7a4_34 ?_
  refine g_iload_n h 0 rfl dJ6_bitCount_0f7a4_35 ?_
  refine g_bipush h 8 (v := 8) (by decide) dJ6_bitCount_0f7a4_36 ?_
  refine g_iushr h dJ6_bitCount_0f7a4_38 ?_
  refine g_iadd h dJ6_bitCount_0f7a4_39 ?_
  refine g_nmI zf ?_
  clear zf; intro vq4 zf
  refine g_istore_n h rfl [(0, .int vq4)] (by decide) rfl dJ6_bitCount_0f7a4_40 ?_
  refine g_iload_n h 0 rfl dJ6_bitCount_0f7a4_41 ?_
  refine g_iload_n h 0 rfl dJ6_bitCount_0f7a4_42 ?_
  refine g_bipush h 16 (v := 16) (by decide) dJ6_bitCount_0f7a4_43 ?_
  refine g_iushr h dJ6_bitCount_0f7a4_45 ?_
  refine g_iadd h dJ6_bitCount_0f7a4_46 ?_
  refine g_nmI zf ?_
  clear zf; intro vq5 zf
  refine g_istore_n h rfl [(0, .int vq5)] (by decide) rfl dJ6_bitCount_0f7a4_47 ?_
  refine g_iload_n h 0 rfl dJ6_bitCount_0f7a4_48 ?_
  refine g_bipush h 63 (v := 63) (by decide) dJ6_bitCount_0f7a4_49 ?_
  refine g_iand h dJ6_bitCount_0f7a4_51 ?_
  obtain rfl := Option.some.inj zf
  exact g_iret h rfl ⟨rfl, rfl⟩ (Nat.le_refl _) (Nat.le_refl _) dJ6_bitCount_0f7a4_52

theorem cmJ6_bitCount_0f7a4 {l : Launch} {w : WX} {M : Mem} {x0 : Int32} {res : Int32} (zf : fJ6_bitCount_0f7a4 x0 = some res) : CM l w yJ6_bitCount_0f7a4 cJ6_bitCount_0f7a4 1 (some .int) { frames := 0, cells := 0, slots := 0, locals := 0 } 0 0 [.int x0] M (Pri res M) := by
  refine CM_of (by decide) (Nat.le_of_ble_eq_true rfl) (fun G hw hl h => ?_)
  subst hw
  exact kJ6_bitCount_0f7a4_e0 h zf

-- X1_become
theorem kX1_become_e0 {G : GX} (h : OKm G cX1_become RX1 2 none { frames := 1, cells := 0, slots := 0, locals := 200 }) {M : Mem} {x0 : Nat} {x1 : Nat} {res : Mem} (zf : fX1_become M x0 x1 = some res) : GG G (Qm G (Pwv res) 0 0) 0 0 0 [(0, rv G.1 x0), (1, rv G.1 x1)] [] M := by
  unfold fX1_become at zf
  have zf1 := pre_ck zf
  clear zf; obtain ⟨zk_x0, zf⟩ := zf1
  have zf1 := pre_ck zf
  clear zf; obtain ⟨zk_x1, zf⟩ := zf1
  refine g_aload_n h 0 rfl dX1_become_0 ?_
  refine g_aload_n h 1 rfl dX1_become_1 ?_
  refine gfX1_9 h zk_x1 dX1_become_2 ?_
  refine g_nmI zf ?_
  clear zf; intro vq1 zf
  refine pfX1_9 h zk_x0 dX1_become_5 ?_
  refine g_nmM zf ?_
  clear zf; intro Mq2 zf
  refine g_aload_n h 1 rfl dX1_become_8 ?_
  refine gfX1_17 h zk_x1 dX1_become_9 ?_
  refine g_iconst h 0 (v := 0) (by decide) dX1_become_12 ?_
  refine g_aload_n h 0 rfl dX1_become_13 ?_
  refine gfX1_17 h zk_x0 dX1_become_14 ?_
  refine g_iconst h 0 (v := 0) (by decide) dX1_become_17 ?_
  refine g_aload_n h 0 rfl dX1_become_18 ?_
  refine gfX1_9 h zk_x0 dX1_become_19 ?_
  refine g_nmI zf ?_
  clear zf; intro vq3 zf
  refine g_bipush h 31 (v := 31) (by decide) dX1_become_22 ?_
  refine g_imul h dX1_become_24 ?_
  refine g_copy h mlX1_21 natCopy smCopy initSystem (kf0_1 zk_x1) (lf0_1 zk_x1) (kf0_1 zk_x0) (lf0_1 zk_x0) zf (by decide) (Nat.le_of_ble_eq_true rfl) dX1_become_25 ?_
  clear zf; intro Mq4 zf
  obtain rfl := Option.some.inj zf
  exact g_vret h rfl ⟨rfl, rfl⟩ (Nat.le_refl _) (Nat.le_refl _) dX1_become_28

theorem cmX1_become {l : Launch} {w : WX} {M : Mem} {x0 : Nat} {x1 : Nat} {res : Mem} (zf : fX1_become M x0 x1 = some res) : CM l w yX1_become cX1_become 2 none { frames := 1, cells := 0, slots := 0, locals := 200 } 0 0 [rv w x0, rv w x1] M (Pwv res) := by
  refine CM_of (by decide) (Nat.le_of_ble_eq_true rfl) (fun G hw hl h => ?_)
  subst hw
  exact kX1_become_e0 h zf

-- X3_write
theorem kX3_write_e0 {G : GX} (h : OKm G cX3_write RX3 3 none { frames := 1, cells := 0, slots := 0, locals := 200 }) {M : Mem} {x0 : Nat} {x1 : Nat} {x2 : Int32} {res : Mem} (zf : fX3_write M x0 x1 x2 = some res) : GG G (Qm G (Pwv res) 0 0) 0 0 0 [(0, rv G.1 x0), (1, rv G.1 x1), (2, .int x2)] [] M := by
  unfold fX3_write at zf
  have zf1 := pre_ck zf
  clear zf; obtain ⟨zk_x0, zf⟩ := zf1
  have zf1 := pre_ck zf
  clear zf; obtain ⟨zk_x1, zf⟩ := zf1
  refine g_iload_n h 2 rfl dX3_write_0 ?_
  refine g_if_lt h 13 (by decide) zf dX3_write_1 ?_ ?_ <;> clear zf <;> intro zf
  · obtain rfl := Option.some.inj zf
    exact g_vret h rfl ⟨rfl, rfl⟩ (Nat.le_refl _) (Nat.le_refl _) dX3_write_13
  · refine g_iload_n h 2 rfl dX3_write_4 ?_
    refine g_bipush h 31 (v := 31) (by decide) dX3_write_5 ?_
    refine g_iadd h dX3_write_7 ?_
    refine g_aload_n h 1 rfl dX3_write_8 ?_
    refine g_ilen h (ln x1) (z := Int32.ofNat (ln x1)) zk_x1 rfl rfl dX3_write_9 ?_
    refine g_ic_le h 14 (by decide) zf dX3_write_10 ?_ ?_ <;> clear zf <;> intro zf
    · refine g_aload_n h 1 rfl dX3_write_14 ?_
      refine g_iload_n h 2 rfl dX3_write_15 ?_
      refine g_aload_n h 0 rfl dX3_write_16 ?_
      refine gfX3_27 h zk_x0 dX3_write_17 ?_
      refine g_nmI zf ?_
      clear zf; intro vq1 zf
      refine g_iast h (ln x1) zk_x1 rfl zf dX3_write_20 ?_
      clear zf; intro Mq2 zf
      refine g_aload_n h 1 rfl dX3_write_21 ?_
      refine g_iload_n h 2 rfl dX3_write_22 ?_
      refine g_iconst h 1 (v := 1) (by decide) dX3_write_23 ?_
      refine g_iadd h dX3_write_24 ?_
      refine g_aload_n h 0 rfl dX3_write_25 ?_
      refine gfX3_31 h zk_x0 dX3_write_26 ?_
      refine g_nmI zf ?_
      clear zf; intro vq3 zf
      refine g_iast h (ln x1) zk_x1 rfl zf dX3_write_29 ?_
      clear zf; intro Mq4 zf
      refine g_aload_n h 1 rfl dX3_write_30 ?_
      refine g_iload_n h 2 rfl dX3_write_31 ?_
      refine g_iconst h 2 (v := 2) (by decide) dX3_write_32 ?_
      refine g_iadd h dX3_write_33 ?_
      refine g_aload_n h 0 rfl dX3_write_34 ?_
      refine gfX3_34 h zk_x0 dX3_write_35 ?_
      refine g_nmI zf ?_
      clear zf; intro vq5 zf
      refine g_iast h (ln x1) zk_x1 rfl zf dX3_write_38 ?_
      clear zf; intro Mq6 zf
      refine g_aload_n h 1 rfl dX3_write_39 ?_
      refine g_iload_n h 2 rfl dX3_write_40 ?_
      refine g_iconst h 3 (v := 3) (by decide) dX3_write_41 ?_
      refine g_iadd h dX3_write_42 ?_
      refine g_aload_n h 0 rfl dX3_write_43 ?_
      refine gfX3_37 h zk_x0 dX3_write_44 ?_
      refine g_nmI zf ?_
      clear zf; intro vq7 zf
      refine g_iast h (ln x1) zk_x1 rfl zf dX3_write_47 ?_
      clear zf; intro Mq8 zf
      refine g_aload_n h 1 rfl dX3_write_48 ?_
      refine g_iload_n h 2 rfl dX3_write_49 ?_
      refine g_iconst h 4 (v := 4) (by decide) dX3_write_50 ?_
      refine g_iadd h dX3_write_51 ?_
      refine g_aload_n h 0 rfl dX3_write_52 ?_
      refine gfX3_40 h zk_x0 dX3_write_53 ?_
      refine g_nmI zf ?_
      clear zf; intro vq9 zf
      refine g_iast h (ln x1) zk_x1 rfl zf dX3_write_56 ?_
      clear zf; intro Mq10 zf
      refine g_aload_n h 1 rfl dX3_write_57 ?_
      refine g_iload_n h 2 rfl dX3_write_58 ?_
      refine g_iconst h 5 (v := 5) (by decide) dX3_write_59 ?_
      refine g_iadd h dX3_write_60 ?_
      refine g_aload_n h 0 rfl dX3_write_61 ?_
      refine gfX3_43 h zk_x0 dX3_write_62 ?_
      refine g_nmI zf ?_
      clear zf; intro vq11 zf
      refine g_iast h (ln x1) zk_x1 rfl zf dX3_write_65 ?_
      clear zf; intro Mq12 zf
      refine g_aload_n h 1 rfl dX3_write_66 ?_
      refine g_iload_n h 2 rfl dX3_write_67 ?_
      refine g_bipush h 6 (v := 6) (by decide) dX3_write_68 ?_
      refine g_iadd h dX3_write_70 ?_
      refine g_aload_n h 0 rfl dX3_write_71 ?_
      refine gfX3_46 h zk_x0 dX3_write_72 ?_
      refine g_nmI zf ?_
      clear zf; intro vq13 zf
      refine g_iast h (ln x1) zk_x1 rfl zf dX3_write_75 ?_
      clear zf; intro Mq14 zf
      refine g_aload_n h 1 rfl dX3_write_76 ?_
      refine g_iload_n h 2 rfl dX3_write_77 ?_
      refine g_bipush h 7 (v := 7) (by decide) dX3_write_78 ?_
      refine g_iadd h dX3_write_80 ?_
      refine g_aload_n h 0 rfl dX3_write_81 ?_
      refine gfX3_49 h zk_x0 dX3_write_82 ?_
      refine g_nmI zf ?_
      clear zf; intro vq15 zf
      refine g_iast h (ln x1) zk_x1 rfl zf dX3_write_85 ?_
      clear zf; intro Mq16 zf
      refine g_aload_n h 1 rfl dX3_write_86 ?_
      refine g_iload_n h 2 rfl dX3_write_87 ?_
      refine g_bipush h 8 (v := 8) (by decide) dX3_write_88 ?_
      refine g_iadd h dX3_write_90 ?_
      refine g_aload_n h 0 rfl dX3_write_91 ?_
      refine gfX3_52 h zk_x0 dX3_write_92 ?_
      refine g_nmI zf ?_
      clear zf; intro vq17 zf
      refine g_iast h (ln x1) zk_x1 rfl zf dX3_write_95 ?_
      clear zf; intro Mq18 zf
      refine g_aload_n h 0 rfl dX3_write_96 ?_
      refine gfX3_9 h zk_x0 dX3_write_97 ?_
      refine g_iconst h 0 (v := 0) (by decide) dX3_write_100 ?_
      refine g_aload_n h 1 rfl dX3_write_101 ?_
      refine g_iload_n h 2 rfl dX3_write_102 ?_
      refine g_bipush h 9 (v := 9) (by decide) dX3_write_103 ?_
      refine g_iadd h dX3_write_105 ?_
      refine g_iconst h 2 (v := 2) (by decide) dX3_write_106 ?_
      refine g_copy h mlX3_59 natCopy smCopy initSystem (kf2_1 zk_x0) (lf2_1 zk_x0) zk_x1 rfl zf (by decide) (Nat.le_of_ble_eq_true rfl) dX3_write_107 ?_
      clear zf; intro Mq19 zf
      refine g_aload_n h 0 rfl dX3_write_110 ?_
      refine gfX3_15 h zk_x0 dX3_write_111 ?_
      refine g_iconst h 0 (v := 0) (by decide) dX3_write_114 ?_
      refine g_aload_n h 1 rfl dX3_write_115 ?_
      refine g_iload_n h 2 rfl dX3_write_116 ?_
      refine g_bipush h 11 (v := 11) (by decide) dX3_write_117 ?_
      refine g_iadd h dX3_write_119 ?_
      refine g_iconst h 2 (v := 2) (by decide) dX3_write_120 ?_
      refine g_copy h mlX3_59 natCopy smCopy initSystem (kf2_2 zk_x0) (lf2_2 zk_x0) zk_x1 rfl zf (by decide) (Nat.le_of_ble_eq_true rfl) dX3_write_121 ?_
      clear zf; intro Mq20 zf
      refine g_aload_n h 0 rfl dX3_write_124 ?_
      refine gfX3_18 h zk_x0 dX3_write_125 ?_
      refine g_iconst h 0 (v := 0) (by decide) dX3_write_128 ?_
      refine g_aload_n h 1 rfl dX3_write_129 ?_
      refine g_iload_n h 2 rfl dX3_write_130 ?_
      refine g_bipush h 13 (v := 13) (by decide) dX3_write_131 ?_
      refine g_iadd h dX3_write_133 ?_
      refine g_bipush h 12 (v := 12) (by decide) dX3_write_134 ?_
      refine g_copy h mlX3_59 natCopy smCopy initSystem (kf2_3 zk_x0) (lf2_3 zk_x0) zk_x1 rfl zf (by decide) (Nat.le_of_ble_eq_true rfl) dX3_write_136 ?_
      clear zf; intro Mq21 zf
      refine g_aload_n h 0 rfl dX3_write_139 ?_
      refine gfX3_21 h zk_x0 dX3_write_140 ?_
      refine g_iconst h 0 (v := 0) (by decide) dX3_write_143 ?_
      refine g_aload_n h 1 rfl dX3_write_144 ?_
      refine g_iload_n h 2 rfl dX3_write_145 ?_
      refine g_bipush h 13 (v := 13) (by decide) dX3_write_146 ?_
      refine g_iadd h dX3_write_148 ?_
      refine g_bipush h 12 (v := 12) (by decide) dX3_write_149 ?_
      refine g_iadd h dX3_write_151 ?_
      refine g_bipush h 6 (v := 6) (by decide) dX3_write_152 ?_
      refine g_copy h mlX3_59 natCopy smCopy initSystem (kf2_4 zk_x0) (lf2_4 zk_x0) zk_x1 rfl zf (by decide) (Nat.le_of_ble_eq_true rfl) dX3_write_154 ?_
      clear zf; intro Mq22 zf
      obtain rfl := Option.some.inj zf
      exact g_vret h rfl ⟨rfl, rfl⟩ (Nat.le_refl _) (Nat.le_refl _) dX3_write_157
    · obtain rfl := Option.some.inj zf
      exact g_vret h rfl ⟨rfl, rfl⟩ (Nat.le_refl _) (Nat.le_refl _) dX3_write_13

theorem cmX3_write {l : Launch} {w : WX} {M : Mem} {x0 : Nat} {x1 : Nat} {x2 : Int32} {res : Mem} (zf : fX3_write M x0 x1 x2 = some res) : CM l w yX3_write cX3_write 3 none { frames := 1, cells := 0, slots := 0, locals := 200 } 0 0 [rv w x0, rv w x1, .int x2] M (Pwv res) := by
  refine CM_of (by decide) (Nat.le_of_ble_eq_true rfl) (fun G hw hl h => ?_)
  subst hw
  exact kX3_write_e0 h zf

-- X1_keep
theorem kX1_keep_b32 {G : GX} (h : OKm G cX1_keep RX1 2 none { frames := 2, cells := 0, slots := 0, locals := 222 }) {M : Mem} {x0 : Nat} {x1 : Nat} {res : Mem} (zf : fX1_keep_b32 M x0 x1 = some res) : GG G (Qm G (Pwv res) 0 0) 0 0 32 [(0, rv G.1 x0), (1, rv G.1 x1)] [] M := by
  unfold fX1_keep_b32 at zf
  have zf1 := pre_ck zf
  clear zf; obtain ⟨zk_x0, zf⟩ := zf1
  have zf1 := pre_ck zf
  clear zf; obtain ⟨zk_x1, zf⟩ := zf1
  refine g_aload_n h 1 rfl dX1_keep_32 ?_
  refine g_aload_n h 0 rfl dX1_keep_33 ?_
  refine gfX1_17 h zk_x0 dX1_keep_34 ?_
  refine g_aload_n h 0 rfl dX1_keep_37 ?_
  refine gfX1_9 h zk_x0 dX1_keep_38 ?_
  refine g_nmI zf ?_
  clear zf; intro vq2 zf
  refine g_bipush h 31 (v := 31) (by decide) dX1_keep_41 ?_
  refine g_imul h dX1_keep_43 ?_
  have zf1 := bd_some zf
  clear zf; obtain ⟨Mq3, zq, zf⟩ := zf1
  refine g_callVwv (As := [rv G.1 (x0 + 1), .int (vq2 * 31)]) (rest := []) h ceX3_write mlX1_27 imX3_write seX3_write (by rfl) (kd_lt (by rw [zk_x1]; decide)) (ent_2 zk_x1) rfl rfl ⟨by decide, by decide⟩ ⟨by decide, by decide⟩ rfl dX1_keep_44 rfl (Nat.le_of_ble_eq_true rfl) (cmX3_write zq) ?_
  refine g_aload_n h 0 rfl dX1_keep_47 ?_
  refine g_dup h rfl dX1_keep_48 ?_
  refine gfX1_9 h zk_x0 dX1_keep_49 ?_
  refine g_nmI zf ?_
  clear zf; intro vq4 zf
  refine g_iconst h 1 (v := 1) (by decide) dX1_keep_52 ?_
  refine g_iadd h dX1_keep_53 ?_
  refine pfX1_9 h zk_x0 dX1_keep_54 ?_
  refine g_nmM zf ?_
  clear zf; intro Mq5 zf
  obtain rfl := Option.some.inj zf
  exact g_vret h rfl ⟨rfl, rfl⟩ (Nat.le_refl _) (Nat.le_refl _) dX1_keep_57

theorem kX1_keep_e0 {G : GX} (h : OKm G cX1_keep RX1 2 none { frames := 2, cells := 0, slots := 0, locals := 222 }) {M : Mem} {x0 : Nat} {x1 : Nat} {res : Mem} (zf : fX1_keep M x0 x1 = some res) : GG G (Qm G (Pwv res) 0 0) 0 0 0 [(0, rv G.1 x0), (1, rv G.1 x1)] [] M := by
  unfold fX1_keep at zf
  have zf1 := pre_ck zf
  clear zf; obtain ⟨zk_x0, zf⟩ := zf1
  have zf1 := pre_ck zf
  clear zf; obtain ⟨zk_x1, zf⟩ := zf1
  refine g_aload_n h 0 rfl dX1_keep_0 ?_
  refine gfX1_9 h zk_x0 dX1_keep_1 ?_
  refine g_nmI zf ?_
  clear zf; intro vq1 zf
  refine g_bipush h 40 (v := 40) (by decide) dX1_keep_4 ?_
  refine g_ic_lt h 32 (by decide) zf dX1_keep_6 ?_ ?_ <;> clear zf <;> intro zf
  · refine g_sub h [0, 1] rfl ?_
    exact kX1_keep_b32 h zf
  · refine g_aload_n h 0 rfl dX1_keep_9 ?_
    refine gfX1_17 h zk_x0 dX1_keep_10 ?_
    refine g_bipush h 31 (v := 31) (by decide) dX1_keep_13 ?_
    refine g_aload_n h 0 rfl dX1_keep_15 ?_
    refine gfX1_17 h zk_x0 dX1_keep_16 ?_
    refine g_iconst h 0 (v := 0) (by decide) dX1_keep_19 ?_
    refine g_sipush h 1209 (v := 1209) (by decide) dX1_keep_20 ?_
    refine g_copy h mlX1_21 natCopy smCopy initSystem (kf0_1 zk_x0) (lf0_1 zk_x0) (kf0_1 zk_x0) (lf0_1 zk_x0) zf (by decide) (Nat.le_of_ble_eq_true rfl) dX1_keep_23 ?_
    clear zf; intro Mq6 zf
    refine g_aload_n h 0 rfl dX1_keep_26 ?_
    refine g_bipush h 39 (v := 39) (by decide) dX1_keep_27 ?_
    refine pfX1_9 h zk_x0 dX1_keep_29 ?_
    refine g_nmM zf ?_
    clear zf; intro Mq7 zf
    refine g_sub h [0, 1] rfl ?_
    exact kX1_keep_b32 h zf

theorem cmX1_keep {l : Launch} {w : WX} {M : Mem} {x0 : Nat} {x1 : Nat} {res : Mem} (zf : fX1_keep M x0 x1 = some res) : CM l w yX1_keep cX1_keep 2 none { frames := 2, cells := 0, slots := 0, locals := 222 } 0 0 [rv w x0, rv w x1] M (Pwv res) := by
  refine CM_of (by decide) (Nat.le_of_ble_eq_true rfl) (fun G hw hl h => ?_)
  subst hw
  exact kX1_keep_e0 h zf

-- X3_read
theorem kX3_read_e0 {G : GX} (h : OKm G cX3_read RX3 3 none { frames := 1, cells := 0, slots := 0, locals := 200 }) {M : Mem} {x0 : Nat} {x1 : Nat} {x2 : Int32} {res : Mem} (zf : fX3_read M x0 x1 x2 = some res) : GG G (Qm G (Pwv res) 0 0) 0 0 0 [(0, rv G.1 x0), (1, rv G.1 x1), (2, .int x2)] [] M := by
  unfold fX3_read at zf
  have zf1 := pre_ck zf
  clear zf; obtain ⟨zk_x0, zf⟩ := zf1
  have zf1 := pre_ck zf
  clear zf; obtain ⟨zk_x1, zf⟩ := zf1
  refine g_iload_n h 2 rfl dX3_read_0 ?_
  refine g_if_lt h 13 (by decide) zf dX3_read_1 ?_ ?_ <;> clear zf <;> intro zf
  · obtain rfl := Option.some.inj zf
    exact g_vret h rfl ⟨rfl, rfl⟩ (Nat.le_refl _) (Nat.le_refl _) dX3_read_13
  · refine g_iload_n h 2 rfl dX3_read_4 ?_
    refine g_bipush h 31 (v := 31) (by decide) dX3_read_5 ?_
    refine g_iadd h dX3_read_7 ?_
    refine g_aload_n h 1 rfl dX3_read_8 ?_
    refine g_ilen h (ln x1) (z := Int32.ofNat (ln x1)) zk_x1 rfl rfl dX3_read_9 ?_
    refine g_ic_le h 14 (by decide) zf dX3_read_10 ?_ ?_ <;> clear zf <;> intro zf
    · refine g_aload_n h 0 rfl dX3_read_14 ?_
      refine g_aload_n h 1 rfl dX3_read_15 ?_
      refine g_iload_n h 2 rfl dX3_read_16 ?_
      refine g_iald h (ln x1) zk_x1 rfl zf dX3_read_17 ?_
      clear zf; intro vq1 zf
      refine pfX3_27 h zk_x0 dX3_read_18 ?_
      refine g_nmM zf ?_
      clear zf; intro Mq2 zf
      refine g_aload_n h 0 rfl dX3_read_21 ?_
      refine g_aload_n h 1 rfl dX3_read_22 ?_
      refine g_iload_n h 2 rfl dX3_read_23 ?_
      refine g_iconst h 1 (v := 1) (by decide) dX3_read_24 ?_
      refine g_iadd h dX3_read_25 ?_
      refine g_iald h (ln x1) zk_x1 rfl zf dX3_read_26 ?_
      clear zf; intro vq3 zf
      refine pfX3_31 h zk_x0 dX3_read_27 ?_
      refine g_nmM zf ?_
      clear zf; intro Mq4 zf
      refine g_aload_n h 0 rfl dX3_read_30 ?_
      refine g_aload_n h 1 rfl dX3_read_31 ?_
      refine g_iload_n h 2 rfl dX3_read_32 ?_
      refine g_iconst h 2 (v := 2) (by decide) dX3_read_33 ?_
      refine g_iadd h dX3_read_34 ?_
      refine g_iald h (ln x1) zk_x1 rfl zf dX3_read_35 ?_
      clear zf; intro vq5 zf
      refine pfX3_34 h zk_x0 dX3_read_36 ?_
      refine g_nmM zf ?_
      clear zf; intro Mq6 zf
      refine g_aload_n h 0 rfl dX3_read_39 ?_
      refine g_aload_n h 1 rfl dX3_read_40 ?_
      refine g_iload_n h 2 rfl dX3_read_41 ?_
      refine g_iconst h 3 (v := 3) (by decide) dX3_read_42 ?_
      refine g_iadd h dX3_read_43 ?_
      refine g_iald h (ln x1) zk_x1 rfl zf dX3_read_44 ?_
      clear zf; intro vq7 zf
      refine pfX3_37 h zk_x0 dX3_read_45 ?_
      refine g_nmM zf ?_
      clear zf; intro Mq8 zf
      refine g_aload_n h 0 rfl dX3_read_48 ?_
      refine g_aload_n h 1 rfl dX3_read_49 ?_
      refine g_iload_n h 2 rfl dX3_read_50 ?_
      refine g_iconst h 4 (v := 4) (by decide) dX3_read_51 ?_
      refine g_iadd h dX3_read_52 ?_
      refine g_iald h (ln x1) zk_x1 rfl zf dX3_read_53 ?_
      clear zf; intro vq9 zf
      refine pfX3_40 h zk_x0 dX3_read_54 ?_
      refine g_nmM zf ?_
      clear zf; intro Mq10 zf
      refine g_aload_n h 0 rfl dX3_read_57 ?_
      refine g_aload_n h 1 rfl dX3_read_58 ?_
      refine g_iload_n h 2 rfl dX3_read_59 ?_
      refine g_iconst h 5 (v := 5) (by decide) dX3_read_60 ?_
      refine g_iadd h dX3_read_61 ?_
      refine g_iald h (ln x1) zk_x1 rfl zf dX3_read_62 ?_
      clear zf; intro vq11 zf
      refine pfX3_43 h zk_x0 dX3_read_63 ?_
      refine g_nmM zf ?_
      clear zf; intro Mq12 zf
      refine g_aload_n h 0 rfl dX3_read_66 ?_
      refine g_aload_n h 1 rfl dX3_read_67 ?_
      refine g_iload_n h 2 rfl dX3_read_68 ?_
      refine g_bipush h 6 (v := 6) (by decide) dX3_read_69 ?_
      refine g_iadd h dX3_read_71 ?_
      refine g_iald h (ln x1) zk_x1 rfl zf dX3_read_72 ?_
      clear zf; intro vq13 zf
      refine pfX3_46 h zk_x0 dX3_read_73 ?_
      refine g_nmM zf ?_
      clear zf; intro Mq14 zf
      refine g_aload_n h 0 rfl dX3_read_76 ?_
      refine g_aload_n h 1 rfl dX3_read_77 ?_
      refine g_iload_n h 2 rfl dX3_read_78 ?_
      refine g_bipush h 7 (v := 7) (by decide) dX3_read_79 ?_
      refine g_iadd h dX3_read_81 ?_
      refine g_iald h (ln x1) zk_x1 rfl zf dX3_read_82 ?_
      clear zf; intro vq15 zf
      refine pfX3_49 h zk_x0 dX3_read_83 ?_
      refine g_nmM zf ?_
      clear zf; intro Mq16 zf
      refine g_aload_n h 0 rfl dX3_read_86 ?_
      refine g_aload_n h 1 rfl dX3_read_87 ?_
      refine g_iload_n h 2 rfl dX3_read_88 ?_
      refine g_bipush h 8 (v := 8) (by decide) dX3_read_89 ?_
      refine g_iadd h dX3_read_91 ?_
      refine g_iald h (ln x1) zk_x1 rfl zf dX3_read_92 ?_
      clear zf; intro vq17 zf
      refine pfX3_52 h zk_x0 dX3_read_93 ?_
      refine g_nmM zf ?_
      clear zf; intro Mq18 zf
      refine g_aload_n h 1 rfl dX3_read_96 ?_
      refine g_iload_n h 2 rfl dX3_read_97 ?_
      refine g_bipush h 9 (v := 9) (by decide) dX3_read_98 ?_
      refine g_iadd h dX3_read_100 ?_
      refine g_aload_n h 0 rfl dX3_read_101 ?_
      refine gfX3_9 h zk_x0 dX3_read_102 ?_
      refine g_iconst h 0 (v := 0) (by decide) dX3_read_105 ?_
      refine g_iconst h 2 (v := 2) (by decide) dX3_read_106 ?_
      refine g_copy h mlX3_59 natCopy smCopy initSystem zk_x1 rfl (kf2_1 zk_x0) (lf2_1 zk_x0) zf (by decide) (Nat.le_of_ble_eq_true rfl) dX3_read_107 ?_
      clear zf; intro Mq19 zf
      refine g_aload_n h 1 rfl dX3_read_110 ?_
      refine g_iload_n h 2 rfl dX3_read_111 ?_
      refine g_bipush h 11 (v := 11) (by decide) dX3_read_112 ?_
      refine g_iadd h dX3_read_114 ?_
      refine g_aload_n h 0 rfl dX3_read_115 ?_
      refine gfX3_15 h zk_x0 dX3_read_116 ?_
      refine g_iconst h 0 (v := 0) (by decide) dX3_read_119 ?_
      refine g_iconst h 2 (v := 2) (by decide) dX3_read_120 ?_
      refine g_copy h mlX3_59 natCopy smCopy initSystem zk_x1 rfl (kf2_2 zk_x0) (lf2_2 zk_x0) zf (by decide) (Nat.le_of_ble_eq_true rfl) dX3_read_121 ?_
      clear zf; intro Mq20 zf
      refine g_aload_n h 1 rfl dX3_read_124 ?_
      refine g_iload_n h 2 rfl dX3_read_125 ?_
      refine g_bipush h 13 (v := 13) (by decide) dX3_read_126 ?_
      refine g_iadd h dX3_read_128 ?_
      refine g_aload_n h 0 rfl dX3_read_129 ?_
      refine gfX3_18 h zk_x0 dX3_read_130 ?_
      refine g_iconst h 0 (v := 0) (by decide) dX3_read_133 ?_
      refine g_bipush h 12 (v := 12) (by decide) dX3_read_134 ?_
      refine g_copy h mlX3_59 natCopy smCopy initSystem zk_x1 rfl (kf2_3 zk_x0) (lf2_3 zk_x0) zf (by decide) (Nat.le_of_ble_eq_true rfl) dX3_read_136 ?_
      clear zf; intro Mq21 zf
      refine g_aload_n h 1 rfl dX3_read_139 ?_
      refine g_iload_n h 2 rfl dX3_read_140 ?_
      refine g_bipush h 13 (v := 13) (by decide) dX3_read_141 ?_
      refine g_iadd h dX3_read_143 ?_
      refine g_bipush h 12 (v := 12) (by decide) dX3_read_144 ?_
      refine g_iadd h dX3_read_146 ?_
      refine g_aload_n h 0 rfl dX3_read_147 ?_
      refine gfX3_21 h zk_x0 dX3_read_148 ?_
      refine g_iconst h 0 (v := 0) (by decide) dX3_read_151 ?_
      refine g_bipush h 6 (v := 6) (by decide) dX3_read_152 ?_
      refine g_copy h mlX3_59 natCopy smCopy initSystem zk_x1 rfl (kf2_4 zk_x0) (lf2_4 zk_x0) zf (by decide) (Nat.le_of_ble_eq_true rfl) dX3_read_154 ?_
      clear zf; intro Mq22 zf
      obtain rfl := Option.some.inj zf
      exact g_vret h rfl ⟨rfl, rfl⟩ (Nat.le_refl _) (Nat.le_refl _) dX3_read_157
    · obtain rfl := Option.some.inj zf
      exact g_vret h rfl ⟨rfl, rfl⟩ (Nat.le_refl _) (Nat.le_refl _) dX3_read_13

theorem cmX3_read {l : Launch} {w : WX} {M : Mem} {x0 : Nat} {x1 : Nat} {x2 : Int32} {res : Mem} (zf : fX3_read M x0 x1 x2 = some res) : CM l w yX3_read cX3_read 3 none { frames := 1, cells := 0, slots := 0, locals := 200 } 0 0 [rv w x0, rv w x1, .int x2] M (Pwv res) := by
  refine CM_of (by decide) (Nat.le_of_ble_eq_true rfl) (fun G hw hl h => ?_)
  subst hw
  exact kX3_read_e0 h zf

