-- X13_gift
theorem kX13_gift_b35 {G : GX} (h : OKm G cX13_gift RX13 3 (some .int) { frames := 2, cells := 0, slots := 0, locals := 43 }) {M : Mem} {res : (Int32 × Mem)} (zf : fX13_gift_b35 M = some res) : GG G (Qm G (Pwi res) 0 0) 0 0 35 [(0, rv G.1 103)] [] M := by
  unfold fX13_gift_b35 at zf
  refine g_aload_n h 0 rfl dX13_gift_35 ?_
  refine g_iconst h 1 (v := 1) (by decide) dX13_gift_36 ?_
  have zf1 := b2_some zf
  clear zf; obtain ⟨vq5, Mq6, zq, zf⟩ := zf1
  refine g_callVwi (As := [.int 1]) (rest := []) h ceX13_refuses mlX13_423 imX13_refuses seX13_refuses (by rfl) (kd_lt (by rw [(by decide : kd 103 = 11)]; decide)) (ent_11 (by decide : kd 103 = 11)) rfl rfl ⟨by decide, by decide⟩ ⟨by decide, by decide⟩ rfl dX13_gift_37 rfl (Nat.le_of_ble_eq_true rfl) (cmX13_refuses zq) ?_
  obtain rfl := Option.some.inj zf
  exact g_iret h rfl ⟨rfl, rfl⟩ (Nat.le_refl _) (Nat.le_refl _) dX13_gift_40

theorem kX13_gift_b89 {G : GX} (h : OKm G cX13_gift RX13 3 (some .int) { frames := 2, cells := 0, slots := 0, locals := 43 }) {M : Mem} {x1 : Int32} {s0 : Int32} {s1 : Int32} {s2 : Int32} {res : (Int32 × Mem)} (zf : fX13_gift_b89 M x1 s0 s1 s2 = some res) : GG G (Qm G (Pwi res) 0 0) 0 0 89 [(0, rv G.1 103), (1, .int x1)] [.int s0, .int s1, .int s2, rv G.1 133] M := by
  unfold fX13_gift_b89 at zf
  refine g_iadd h dX13_gift_89 ?_
  refine g_bipush h (-9) (v := (-9)) (by decide) dX13_gift_90 ?_
  refine g_bipush h 9 (v := 9) (by decide) dX13_gift_92 ?_
  have zf1 := bd_some zf
  clear zf; obtain ⟨vq13, zq, zf⟩ := zf1
  refine g_callSri (As := [.int (s1 + s0), .int (-9), .int 9]) (rest := [.int s2, rv G.1 133]) h ceX13_kept mlX13_381 smX13_kept rfl rfl ⟨by decide, by decide⟩ ⟨by decide, by decide⟩ rfl dX13_gift_94 rfl (Nat.le_of_ble_eq_true rfl) (cmX13_kept zq) ?_
  refine g_iast h 186 (by decide : kd 133 = 20) (by decide) zf dX13_gift_97 ?_
  clear zf; intro Mq14 zf
  refine g_aload_n h 0 rfl dX13_gift_98 ?_
  refine gfX13_108 h (by decide : kd 103 = 11) dX13_gift_99 ?_
  refine g_bipush h 25 (v := 25) (by decide) dX13_gift_102 ?_
  refine g_iload_n h 1 rfl dX13_gift_104 ?_
  refine g_iadd h dX13_gift_105 ?_
  refine g_iald h 186 (by decide : kd 133 = 20) (by decide) zf dX13_gift_106 ?_
  clear zf; intro vq15 zf
  obtain rfl := Option.some.inj zf
  exact g_iret h rfl ⟨rfl, rfl⟩ (Nat.le_refl _) (Nat.le_refl _) dX13_gift_107

theorem kX13_gift_e0 {G : GX} (h : OKm G cX13_gift RX13 3 (some .int) { frames := 2, cells := 0, slots := 0, locals := 43 }) {M : Mem} {x1 : Int32} {x2 : Int32} {res : (Int32 × Mem)} (zf : fX13_gift M x1 x2 = some res) : GG G (Qm G (Pwi res) 0 0) 0 0 0 [(0, rv G.1 103), (1, .int x1), (2, .int x2)] [] M := by
  unfold fX13_gift at zf
  refine g_aload_n h 0 rfl dX13_gift_0 ?_
  refine g_iconst h 0 (v := 0) (by decide) dX13_gift_1 ?_
  refine pfX13_141 h (by decide : kd 103 = 11) dX13_gift_2 ?_
  refine g_nmM zf ?_
  clear zf; intro Mq1 zf
  refine g_aload_n h 0 rfl dX13_gift_5 ?_
  refine g_iload_n h 1 rfl dX13_gift_6 ?_
  have zf1 := b2_some zf
  clear zf; obtain ⟨vq2, Mq3, zq, zf⟩ := zf1
  refine g_callVwi (As := [.int x1]) (rest := []) h ceX13_isFriend mlX13_420 imX13_isFriend seX13_isFriend (by rfl) (kd_lt (by rw [(by decide : kd 103 = 11)]; decide)) (ent_11 (by decide : kd 103 = 11)) rfl rfl ⟨by decide, by decide⟩ ⟨by decide, by decide⟩ rfl dX13_gift_7 rfl (Nat.le_of_ble_eq_true rfl) (cmX13_isFriend zq) ?_
  refine g_if_ne h 15 (by decide) zf dX13_gift_10 ?_ ?_ <;> clear zf <;> intro zf
  · refine g_iload_n h 2 rfl dX13_gift_15 ?_
    refine g_iconst h 1 (v := 1) (by decide) dX13_gift_16 ?_
    refine g_bipush h 9 (v := 9) (by decide) dX13_gift_17 ?_
    have zf1 := bd_some zf
    clear zf; obtain ⟨vq4, zq, zf⟩ := zf1
    refine g_callSri (As := [.int x2, .int 1, .int 9]) (rest := []) h ceX13_within mlX13_407 smX13_within rfl rfl ⟨by decide, by decide⟩ ⟨by decide, by decide⟩ rfl dX13_gift_19 rfl (Nat.le_of_ble_eq_true rfl) (cmX13_within zq) ?_
    refine g_if_eq h 35 (by decide) zf dX13_gift_22 ?_ ?_ <;> clear zf <;> intro zf
    · refine g_sub h [0] rfl ?_
      exact kX13_gift_b35 h zf
    · refine g_iload_n h 2 rfl dX13_gift_25 ?_
      refine g_aload_n h 0 rfl dX13_gift_26 ?_
      refine gfX13_108 h (by decide : kd 103 = 11) dX13_gift_27 ?_
      refine g_iconst h 0 (v := 0) (by decide) dX13_gift_30 ?_
      refine g_iald h 186 (by decide : kd 133 = 20) (by decide) zf dX13_gift_31 ?_
      clear zf; intro vq7 zf
      refine g_ic_le h 41 (by decide) zf dX13_gift_32 ?_ ?_ <;> clear zf <;> intro zf
      · refine g_aload_n h 0 rfl dX13_gift_41 ?_
        have zf1 := bd_some zf
        clear zf; obtain ⟨Mq8, zq, zf⟩ := zf1
        refine g_callVwv (As := []) (rest := []) h ceX13_keeps mlX13_426 imX13_keeps seX13_keeps (by rfl) (kd_lt (by rw [(by decide : kd 103 = 11)]; decide)) (ent_11 (by decide : kd 103 = 11)) rfl rfl ⟨by decide, by decide⟩ ⟨by decide, by decide⟩ rfl dX13_gift_42 rfl (Nat.le_of_ble_eq_true rfl) (cmX13_keeps zq) ?_
        refine g_aload_n h 0 rfl dX13_gift_45 ?_
        refine gfX13_108 h (by decide : kd 103 = 11) dX13_gift_46 ?_
        refine g_iconst h 0 (v := 0) (by decide) dX13_gift_49 ?_
        refine g_dup2 h rfl rfl dX13_gift_50 ?_
        refine g_iald h 186 (by decide : kd 133 = 20) (by decide) zf dX13_gift_51 ?_
        clear zf; intro vq9 zf
        refine g_iload_n h 2 rfl dX13_gift_52 ?_
        refine g_isub h dX13_gift_53 ?_
        refine g_iast h 186 (by decide : kd 133 = 20) (by decide) zf dX13_gift_54 ?_
        clear zf; intro Mq10 zf
        refine g_aload_n h 0 rfl dX13_gift_55 ?_
        refine gfX13_108 h (by decide : kd 103 = 11) dX13_gift_56 ?_
        refine g_bipush h 25 (v := 25) (by decide) dX13_gift_59 ?_
        refine g_iload_n h 1 rfl dX13_gift_61 ?_
        refine g_iadd h dX13_gift_62 ?_
        refine g_aload_n h 0 rfl dX13_gift_63 ?_
        refine gfX13_108 h (by decide : kd 103 = 11) dX13_gift_64 ?_
        refine g_bipush h 25 (v := 25) (by decide) dX13_gift_67 ?_
        refine g_iload_n h 1 rfl dX13_gift_69 ?_
        refine g_iadd h dX13_gift_70 ?_
        refine g_iald h 186 (by decide : kd 133 = 20) (by decide) zf dX13_gift_71 ?_
        clear zf; intro vq11 zf
        refine g_aload_n h 0 rfl dX13_gift_72 ?_
        refine gfX13_108 h (by decide : kd 103 = 11) dX13_gift_73 ?_
        refine g_iconst h 4 (v := 4) (by decide) dX13_gift_76 ?_
        refine g_iald h 186 (by decide : kd 133 = 20) (by decide) zf dX13_gift_77 ?_
        clear zf; intro vq12 zf
        refine g_iconst h 1 (v := 1) (by decide) dX13_gift_78 ?_
        refine g_ic_ne h 86 (by decide) zf dX13_gift_79 ?_ ?_ <;> clear zf <;> intro zf
        · refine g_iconst h 0 (v := 0) (by decide) dX13_gift_86 ?_
          refine g_iload_n h 2 rfl dX13_gift_87 ?_
          refine g_isub h dX13_gift_88 ?_
          refine g_sub h [0, 1] rfl ?_
          exact kX13_gift_b89 h zf
        · refine g_iload_n h 2 rfl dX13_gift_82 ?_
          refine g_goto h 89 (by decide) dX13_gift_83 ?_
          refine g_sub h [0, 1] rfl ?_
          exact kX13_gift_b89 h zf
      · refine g_sub h [0] rfl ?_
        exact kX13_gift_b35 h zf
  · refine g_iconst h 0 (v := 0) (by decide) dX13_gift_13 ?_
    obtain rfl := Option.some.inj zf
    exact g_iret h rfl ⟨rfl, rfl⟩ (Nat.le_refl _) (Nat.le_refl _) dX13_gift_14

theorem cmX13_gift {l : Launch} {w : WX} {M : Mem} {x1 : Int32} {x2 : Int32} {res : (Int32 × Mem)} (zf : fX13_gift M x1 x2 = some res) : CM l w yX13_gift cX13_gift 3 (some .int) { frames := 2, cells := 0, slots := 0, locals := 43 } 0 0 [rv w 103, .int x1, .int x2] M (Pwi res) := by
  refine CM_of (by decide) (Nat.le_of_ble_eq_true rfl) (fun G hw hl h => ?_)
  subst hw
  exact kX13_gift_e0 h zf

-- X13_gloryIn
theorem kX13_gloryIn_e0 {G : GX} (h : OKm G cX13_gloryIn RX13 2 (some .int) { frames := 9, cells := 0, slots := 0, locals := 211 }) {M : Mem} {x1 : Int32} {res : (Int32 × Mem)} (zf : fX13_gloryIn M x1 = some res) : GG G (Qm G (Pwi res) 0 0) 0 0 0 [(0, rv G.1 103), (1, .int x1)] [] M := by
  unfold fX13_gloryIn at zf
  refine g_aload_n h 0 rfl dX13_gloryIn_0 ?_
  refine g_iconst h 0 (v := 0) (by decide) dX13_gloryIn_1 ?_
  refine g_bipush h 31 (v := 31) (by decide) dX13_gloryIn_2 ?_
  have zf1 := bd_some zf
  clear zf; obtain ⟨Mq1, zq, zf⟩ := zf1
  refine g_callVwv (As := [.int 0, .int 31]) (rest := []) h ceX13_lays0 mlX13_432 imX13_lays0 seX13_lays0 (by rfl) (kd_lt (by rw [(by decide : kd 103 = 11)]; decide)) (ent_11 (by decide : kd 103 = 11)) rfl rfl ⟨by decide, by decide⟩ ⟨by decide, by decide⟩ rfl dX13_gloryIn_4 rfl (Nat.le_of_ble_eq_true rfl) (cmX13_lays0 zq) ?_
  refine g_aload_n h 0 rfl dX13_gloryIn_7 ?_
  refine g_bipush h 31 (v := 31) (by decide) dX13_gloryIn_8 ?_
  refine g_bipush h 30 (v := 30) (by decide) dX13_gloryIn_10 ?_
  have zf1 := bd_some zf
  clear zf; obtain ⟨Mq2, zq, zf⟩ := zf1
  refine g_callVwv (As := [.int 31, .int 30]) (rest := []) h ceX13_goesYears mlX13_429 imX13_goesYears seX13_goesYears (by rfl) (kd_lt (by rw [(by decide : kd 103 = 11)]; decide)) (ent_11 (by decide : kd 103 = 11)) rfl rfl ⟨by decide, by decide⟩ ⟨by decide, by decide⟩ rfl dX13_gloryIn_12 rfl (Nat.le_of_ble_eq_true rfl) (cmX13_goesYears zq) ?_
  refine g_aload_n h 0 rfl dX13_gloryIn_15 ?_
  refine gfX13_108 h (by decide : kd 103 = 11) dX13_gloryIn_16 ?_
  refine g_bipush h 37 (v := 37) (by decide) dX13_gloryIn_19 ?_
  refine g_iload_n h 1 rfl dX13_gloryIn_21 ?_
  refine g_iadd h dX13_gloryIn_22 ?_
  refine g_iald h 186 (by decide : kd 133 = 20) (by decide) zf dX13_gloryIn_23 ?_
  clear zf; intro vq3 zf
  obtain rfl := Option.some.inj zf
  exact g_iret h rfl ⟨rfl, rfl⟩ (Nat.le_refl _) (Nat.le_refl _) dX13_gloryIn_24

theorem cmX13_gloryIn {l : Launch} {w : WX} {M : Mem} {x1 : Int32} {res : (Int32 × Mem)} (zf : fX13_gloryIn M x1 = some res) : CM l w yX13_gloryIn cX13_gloryIn 2 (some .int) { frames := 9, cells := 0, slots := 0, locals := 211 } 0 0 [rv w 103, .int x1] M (Pwi res) := by
  refine CM_of (by decide) (Nat.le_of_ble_eq_true rfl) (fun G hw hl h => ?_)
  subst hw
  exact kX13_gloryIn_e0 h zf

-- X13_guarded
theorem kX13_guarded_b95 {G : GX} (h : OKm G cX13_guarded RX13 5 (some .int) { frames := 1, cells := 0, slots := 0, locals := 22 }) {a36 : Mem → Int32 → Int32 → Int32 → Option (Int32 × Mem)} (zh36 : ∀ (M : Mem) (x1 : Int32) (x2 : Int32) (x3 : Int32) (res : (Int32 × Mem)), a36 M x1 x2 x3 = some res → GG G (Qm G (Pwi res) 0 0) 0 0 36 [(0, rv G.1 103), (1, .int x1), (2, .int x2), (3, .int x3)] [] M) {M : Mem} {x1 : Int32} {x3 : Int32} {s0 : Int32} {res : (Int32 × Mem)} (zf : fX13_guarded_b95 a36 M x1 x3 s0 = some res) : GG G (Qm G (Pwi res) 0 0) 0 0 95 [(0, rv G.1 103), (1, .int x1), (3, .int x3)] [.int s0] M := by
  unfold fX13_guarded_b95 at zf
  refine g_istore_n h rfl [(2, .int s0), (0, rv G.1 103), (1, .int x1), (3, .int x3)] (by decide) rfl dX13_guarded_95 ?_
  refine g_iinc h 3 3 rfl (v := x3 + 1) (congrArg (fun z => x3 + z) (by decide : Int32.ofInt (1) = (1 : Int32))) [(3, .int (x3 + 1)), (2, .int s0), (0, rv G.1 103), (1, .int x1)] (by decide) rfl dX13_guarded_96 ?_
  refine g_nmV zf ?_
  clear zf; intro vq10 zf
  refine g_goto h 36 (by decide) dX13_guarded_99 ?_
  refine g_sub h [2, 3, 1, 0] rfl ?_
  exact zh36 _ _ _ _ _ zf

theorem kX13_guarded_b70 {G : GX} (h : OKm G cX13_guarded RX13 5 (some .int) { frames := 1, cells := 0, slots := 0, locals := 22 }) {a36 : Mem → Int32 → Int32 → Int32 → Option (Int32 × Mem)} (zh36 : ∀ (M : Mem) (x1 : Int32) (x2 : Int32) (x3 : Int32) (res : (Int32 × Mem)), a36 M x1 x2 x3 = some res → GG G (Qm G (Pwi res) 0 0) 0 0 36 [(0, rv G.1 103), (1, .int x1), (2, .int x2), (3, .int x3)] [] M) {M : Mem} {x1 : Int32} {x2 : Int32} {x3 : Int32} {s0 : Int32} {s1 : Int32} {res : (Int32 × Mem)} (zf : fX13_guarded_b70 a36 M x1 x2 x3 s0 s1 = some res) : GG G (Qm G (Pwi res) 0 0) 0 0 70 [(0, rv G.1 103), (1, .int x1), (2, .int x2), (3, .int x3)] [.int s0, .int s1] M := by
  unfold fX13_guarded_b70 at zf
  refine g_iadd h dX13_guarded_70 ?_
  refine g_aload_n h 0 rfl dX13_guarded_71 ?_
  refine gfX13_108 h (by decide : kd 103 = 11) dX13_guarded_72 ?_
  refine g_iconst h 1 (v := 1) (by decide) dX13_guarded_75 ?_
  refine g_iald h 186 (by decide : kd 133 = 20) (by decide) zf dX13_guarded_76 ?_
  clear zf; intro vq8 zf
  refine g_bipush h 10 (v := 10) (by decide) dX13_guarded_77 ?_
  refine g_idiv h (by decide) dX13_guarded_79 ?_
  refine g_isub h dX13_guarded_80 ?_
  refine g_nmI zf ?_
  clear zf; intro vq9 zf
  refine g_istore h [(4, .int vq9), (0, rv G.1 103), (1, .int x1), (2, .int x2), (3, .int x3)] (by decide) rfl dX13_guarded_81 ?_
  refine g_iload h 0 rfl dX13_guarded_83 ?_
  refine g_iload_n h 3 rfl dX13_guarded_85 ?_
  refine g_ic_le h 94 (by decide) zf dX13_guarded_86 ?_ ?_ <;> clear zf <;> intro zf
  · refine g_iload_n h 3 rfl dX13_guarded_94 ?_
    refine g_sub h [1, 2, 4] rfl ?_
    exact kX13_guarded_b95 h zh36 zf
  · refine g_iload h 0 rfl dX13_guarded_89 ?_
    refine g_goto h 95 (by decide) dX13_guarded_91 ?_
    refine g_sub h [1, 2, 4] rfl ?_
    exact kX13_guarded_b95 h zh36 zf

theorem kX13_guarded_l36 {G : GX} (h : OKm G cX13_guarded RX13 5 (some .int) { frames := 1, cells := 0, slots := 0, locals := 22 }) : ∀ (n : Nat) (M : Mem) (x1 : Int32) (x2 : Int32) (x3 : Int32) (res : (Int32 × Mem)), fX13_guarded_l36 n M x1 x2 x3 = some res → GG G (Qm G (Pwi res) 0 0) 0 0 36 [(0, rv G.1 103), (1, .int x1), (2, .int x2), (3, .int x3)] [] M := by
  intro n
  induction n with
  | zero => intro M x1 x2 x3 res zf; rw [fX13_guarded_l36] at zf; cases zf
  | succ n ih =>
    intro M x1 x2 x3 res zf
    rw [fX13_guarded_l36] at zf
    refine g_iload_n h 3 rfl dX13_guarded_36 ?_
    refine g_aload_n h 0 rfl dX13_guarded_37 ?_
    refine gfX13_342 h (by decide : kd 103 = 11) dX13_guarded_38 ?_
    refine g_nmI zf ?_
    clear zf; intro vq4 zf
    refine g_ic_ge h 102 (by decide) zf dX13_guarded_41 ?_ ?_ <;> clear zf <;> intro zf
    · refine g_iload_n h 2 rfl dX13_guarded_102 ?_
      obtain rfl := Option.some.inj zf
      exact g_iret h rfl ⟨rfl, rfl⟩ (Nat.le_refl _) (Nat.le_refl _) dX13_guarded_103
    · refine g_aload_n h 0 rfl dX13_guarded_44 ?_
      refine gfX13_38 h (by decide : kd 103 = 11) dX13_guarded_45 ?_
      refine g_iload_n h 3 rfl dX13_guarded_48 ?_
      refine g_iald h 7 (by decide : kd 111 = 20) (by decide) zf dX13_guarded_49 ?_
      clear zf; intro vq5 zf
      refine g_aload_n h 0 rfl dX13_guarded_50 ?_
      refine gfX13_41 h (by decide : kd 103 = 11) dX13_guarded_51 ?_
      refine g_iload_n h 3 rfl dX13_guarded_54 ?_
      refine g_iald h 7 (by decide : kd 112 = 20) (by decide) zf dX13_guarded_55 ?_
      clear zf; intro vq6 zf
      refine g_aload_n h 0 rfl dX13_guarded_56 ?_
      refine gfX13_47 h (by decide : kd 103 = 11) dX13_guarded_57 ?_
      refine g_iload_n h 1 rfl dX13_guarded_60 ?_
      refine g_iald h 7 (by decide : kd 114 = 20) (by decide) zf dX13_guarded_61 ?_
      clear zf; intro vq7 zf
      refine g_ic_ne h 69 (by decide) zf dX13_guarded_62 ?_ ?_ <;> clear zf <;> intro zf
      · refine g_iconst h 0 (v := 0) (by decide) dX13_guarded_69 ?_
        refine g_sub h [0, 1, 2, 3] rfl ?_
        exact kX13_guarded_b70 h ih zf
      · refine g_iconst h 5 (v := 5) (by decide) dX13_guarded_65 ?_
        refine g_goto h 70 (by decide) dX13_guarded_66 ?_
        refine g_sub h [0, 1, 2, 3] rfl ?_
        exact kX13_guarded_b70 h ih zf

theorem kX13_guarded_b23 {G : GX} (h : OKm G cX13_guarded RX13 5 (some .int) { frames := 1, cells := 0, slots := 0, locals := 22 }) {M : Mem} {x1 : Int32} {s0 : Int32} {res : (Int32 × Mem)} (zf : fX13_guarded_b23 M x1 s0 = some res) : GG G (Qm G (Pwi res) 0 0) 0 0 23 [(0, rv G.1 103), (1, .int x1)] [.int s0, rv G.1 103] M := by
  unfold fX13_guarded_b23 at zf
  refine g_iconst h 1 (v := 1) (by decide) dX13_guarded_23 ?_
  have zf1 := b2_some zf
  clear zf; obtain ⟨vq2, Mq3, zq, zf⟩ := zf1
  refine g_callVwi (As := [.int s0, .int 1]) (rest := []) h ceX13_right mlX13_326 imX13_right seX13_right (by rfl) (kd_lt (by rw [(by decide : kd 103 = 11)]; decide)) (ent_11 (by decide : kd 103 = 11)) rfl rfl ⟨by decide, by decide⟩ ⟨by decide, by decide⟩ rfl dX13_guarded_24 rfl (Nat.le_of_ble_eq_true rfl) (cmX13_right zq) ?_
  refine g_if_ne h 32 (by decide) zf dX13_guarded_27 ?_ ?_ <;> clear zf <;> intro zf
  · refine g_iconst h 0 (v := 0) (by decide) dX13_guarded_32 ?_
    refine g_istore_n h rfl [(2, .int 0), (0, rv G.1 103), (1, .int x1)] (by decide) rfl dX13_guarded_33 ?_
    refine g_iconst h 0 (v := 0) (by decide) dX13_guarded_34 ?_
    refine g_istore_n h rfl [(3, .int 0), (2, .int 0), (0, rv G.1 103), (1, .int x1)] (by decide) rfl dX13_guarded_35 ?_
    refine g_sub h [2, 3, 1, 0] rfl ?_
    exact kX13_guarded_l36 h _ _ _ _ _ _ zf
  · refine g_iconst h 0 (v := 0) (by decide) dX13_guarded_30 ?_
    obtain rfl := Option.some.inj zf
    exact g_iret h rfl ⟨rfl, rfl⟩ (Nat.le_refl _) (Nat.le_refl _) dX13_guarded_31

theorem kX13_guarded_b22 {G : GX} (h : OKm G cX13_guarded RX13 5 (some .int) { frames := 1, cells := 0, slots := 0, locals := 22 }) {M : Mem} {x1 : Int32} {res : (Int32 × Mem)} (zf : fX13_guarded_b22 M x1 = some res) : GG G (Qm G (Pwi res) 0 0) 0 0 22 [(0, rv G.1 103), (1, .int x1)] [rv G.1 103] M := by
  unfold fX13_guarded_b22 at zf
  refine g_iconst h 0 (v := 0) (by decide) dX13_guarded_22 ?_
  refine g_sub h [0, 1] rfl ?_
  exact kX13_guarded_b23 h zf

theorem kX13_guarded_e0 {G : GX} (h : OKm G cX13_guarded RX13 5 (some .int) { frames := 1, cells := 0, slots := 0, locals := 22 }) {M : Mem} {x1 : Int32} {res : (Int32 × Mem)} (zf : fX13_guarded M x1 = some res) : GG G (Qm G (Pwi res) 0 0) 0 0 0 [(0, rv G.1 103), (1, .int x1)] [] M := by
  unfold fX13_guarded at zf
  refine g_aload_n h 0 rfl dX13_guarded_0 ?_
  refine g_iconst h 0 (v := 0) (by decide) dX13_guarded_1 ?_
  refine pfX13_141 h (by decide : kd 103 = 11) dX13_guarded_2 ?_
  refine g_nmM zf ?_
  clear zf; intro Mq1 zf
  refine g_aload_n h 0 rfl dX13_guarded_5 ?_
  refine g_iload_n h 1 rfl dX13_guarded_6 ?_
  refine g_if_lt h 22 (by decide) zf dX13_guarded_7 ?_ ?_ <;> clear zf <;> intro zf
  · refine g_sub h [0, 1] rfl ?_
    exact kX13_guarded_b22 h zf
  · refine g_iload_n h 1 rfl dX13_guarded_10 ?_
    refine g_aload_n h 0 rfl dX13_guarded_11 ?_
    refine gfX13_345 h (by decide : kd 103 = 11) dX13_guarded_12 ?_
    refine g_nmI zf ?_
    clear zf; intro vq11 zf
    refine g_ic_ge h 22 (by decide) zf dX13_guarded_15 ?_ ?_ <;> clear zf <;> intro zf
    · refine g_sub h [0, 1] rfl ?_
      exact kX13_guarded_b22 h zf
    · refine g_iconst h 1 (v := 1) (by decide) dX13_guarded_18 ?_
      refine g_goto h 23 (by decide) dX13_guarded_19 ?_
      refine g_sub h [0, 1] rfl ?_
      exact kX13_guarded_b23 h zf

theorem cmX13_guarded {l : Launch} {w : WX} {M : Mem} {x1 : Int32} {res : (Int32 × Mem)} (zf : fX13_guarded M x1 = some res) : CM l w yX13_guarded cX13_guarded 5 (some .int) { frames := 1, cells := 0, slots := 0, locals := 22 } 0 0 [rv w 103, .int x1] M (Pwi res) := by
  refine CM_of (by decide) (Nat.le_of_ble_eq_true rfl) (fun G hw hl h => ?_)
  subst hw
  exact kX13_guarded_e0 h zf

-- X13_highest
theorem kX13_highest_b75 {G : GX} (h : OKm G cX13_highest RX13 5 (some .int) { frames := 8, cells := 0, slots := 0, locals := 188 }) {a35 : Mem → Int32 → Int32 → Int32 → Int32 → Option (Int32 × Mem)} (zh35 : ∀ (M : Mem) (x1 : Int32) (x2 : Int32) (x3 : Int32) (x4 : Int32) (res : (Int32 × Mem)), a35 M x1 x2 x3 x4 = some res → GG G (Qm G (Pwi res) 0 0) 0 0 35 [(0, rv G.1 103), (1, .int x1), (2, .int x2), (3, .int x3), (4, .int x4)] [] M) {M : Mem} {x1 : Int32} {x2 : Int32} {x3 : Int32} {x4 : Int32} {res : (Int32 × Mem)} (zf : fX13_highest_b75 a35 M x1 x2 x3 x4 = some res) : GG G (Qm G (Pwi res) 0 0) 0 0 75 [(0, rv G.1 103), (1, .int x1), (2, .int x2), (3, .int x3), (4, .int x4)] [] M := by
  unfold fX13_highest_b75 at zf
  refine g_iinc h 4 4 rfl (v := x4 + 1) (congrArg (fun z => x4 + z) (by decide : Int32.ofInt (1) = (1 : Int32))) [(4, .int (x4 + 1)), (0, rv G.1 103), (1, .int x1), (2, .int x2), (3, .int x3)] (by decide) rfl dX13_highest_75 ?_
  refine g_nmV zf ?_
  clear zf; intro vq9 zf
  refine g_goto h 35 (by decide) dX13_highest_78 ?_
  refine g_sub h [1, 2, 3, 4, 0] rfl ?_
  exact zh35 _ _ _ _ _ _ zf

theorem kX13_highest_l35 {G : GX} (h : OKm G cX13_highest RX13 5 (some .int) { frames := 8, cells := 0, slots := 0, locals := 188 }) : ∀ (n : Nat) (M : Mem) (x1 : Int32) (x2 : Int32) (x3 : Int32) (x4 : Int32) (res : (Int32 × Mem)), fX13_highest_l35 n M x1 x2 x3 x4 = some res → GG G (Qm G (Pwi res) 0 0) 0 0 35 [(0, rv G.1 103), (1, .int x1), (2, .int x2), (3, .int x3), (4, .int x4)] [] M := by
  intro n
  induction n with
  | zero => intro M x1 x2 x3 x4 res zf; rw [fX13_highest_l35] at zf; cases zf
  | succ n ih =>
    intro M x1 x2 x3 x4 res zf
    rw [fX13_highest_l35] at zf
    refine g_iload h 4 rfl dX13_highest_35 ?_
    refine g_bipush h 60 (v := 60) (by decide) dX13_highest_37 ?_
    refine g_ic_gt h 81 (by decide) zf dX13_highest_39 ?_ ?_ <;> clear zf <;> intro zf
    · refine g_iload_n h 1 rfl dX13_highest_81 ?_
      refine g_if_ne h 89 (by decide) zf dX13_highest_82 ?_ ?_ <;> clear zf <;> intro zf
      · refine g_iload_n h 3 rfl dX13_highest_89 ?_
        obtain rfl := Option.some.inj zf
        exact g_iret h rfl ⟨rfl, rfl⟩ (Nat.le_refl _) (Nat.le_refl _) dX13_highest_90
      · refine g_iload_n h 2 rfl dX13_highest_85 ?_
        refine g_goto h 90 (by decide) dX13_highest_86 ?_
        obtain rfl := Option.some.inj zf
        exact g_iret h rfl ⟨rfl, rfl⟩ (Nat.le_refl _) (Nat.le_refl _) dX13_highest_90
    · refine g_aload_n h 0 rfl dX13_highest_42 ?_
      refine g_bipush h 31 (v := 31) (by decide) dX13_highest_43 ?_
      refine g_bipush h (-2) (v := (-2)) (by decide) dX13_highest_45 ?_
      have zf1 := bd_some zf
      clear zf; obtain ⟨Mq6, zq, zf⟩ := zf1
      refine g_callVwv (As := [.int 31, .int (-2)]) (rest := []) h ceX13_goesBy mlX13_404 imX13_goesBy seX13_goesBy (by rfl) (kd_lt (by rw [(by decide : kd 103 = 11)]; decide)) (ent_11 (by decide : kd 103 = 11)) rfl rfl ⟨by decide, by decide⟩ ⟨by decide, by decide⟩ rfl dX13_highest_47 rfl (Nat.le_of_ble_eq_true rfl) (cmX13_goesBy zq) ?_
      refine g_aload_n h 0 rfl dX13_highest_50 ?_
      refine gfX13_108 h (by decide : kd 103 = 11) dX13_highest_51 ?_
      refine g_bipush h 32 (v := 32) (by decide) dX13_highest_54 ?_
      refine g_iald h 186 (by decide : kd 133 = 20) (by decide) zf dX13_highest_56 ?_
      clear zf; intro vq7 zf
      refine g_iload_n h 3 rfl dX13_highest_57 ?_
      refine g_ic_gt h 64 (by decide) zf dX13_highest_58 ?_ ?_ <;> clear zf <;> intro zf
      · refine g_iload h 4 rfl dX13_highest_64 ?_
        refine g_istore_n h rfl [(2, .int x4), (0, rv G.1 103), (1, .int x1), (3, .int x3), (4, .int x4)] (by decide) rfl dX13_highest_66 ?_
        refine g_aload_n h 1 rfl dX13_highest_67 ?_
        refine gfX13_108 h (by decide : kd 103 = 11) dX13_highest_68 ?_
        refine g_bipush h 32 (v := 32) (by decide) dX13_highest_71 ?_
        refine g_iald h 186 (by decide : kd 133 = 20) (by decide) zf dX13_highest_73 ?_
        clear zf; intro vq8 zf
        refine g_istore_n h rfl [(3, .int vq8), (2, .int x4), (0, rv G.1 103), (1, .int x1), (4, .int x4)] (by decide) rfl dX13_highest_74 ?_
        refine g_sub h [2, 3, 1, 0, 4] rfl ?_
        exact kX13_highest_b75 h ih zf
      · refine g_goto h 75 (by decide) dX13_highest_61 ?_
        refine g_sub h [0, 1, 2, 3, 4] rfl ?_
        exact kX13_highest_b75 h ih zf

theorem kX13_highest_e0 {G : GX} (h : OKm G cX13_highest RX13 5 (some .int) { frames := 8, cells := 0, slots := 0, locals := 188 }) {M : Mem} {x1 : Int32} {res : (Int32 × Mem)} (zf : fX13_highest M x1 = some res) : GG G (Qm G (Pwi res) 0 0) 0 0 0 [(0, rv G.1 103), (1, .int x1)] [] M := by
  unfold fX13_highest at zf
  refine g_aload_n h 0 rfl dX13_highest_0 ?_
  refine g_iconst h 0 (v := 0) (by decide) dX13_highest_1 ?_
  refine pfX13_141 h (by decide : kd 103 = 11) dX13_highest_2 ?_
  refine g_nmM zf ?_
  clear zf; intro Mq1 zf
  refine g_aload_n h 0 rfl dX13_highest_5 ?_
  refine g_iload_n h 1 rfl dX13_highest_6 ?_
  refine g_iconst h 1 (v := 1) (by decide) dX13_highest_7 ?_
  have zf1 := b2_some zf
  clear zf; obtain ⟨vq2, Mq3, zq, zf⟩ := zf1
  refine g_callVwi (As := [.int x1, .int 1]) (rest := []) h ceX13_isWhat mlX13_414 imX13_isWhat seX13_isWhat (by rfl) (kd_lt (by rw [(by decide : kd 103 = 11)]; decide)) (ent_11 (by decide : kd 103 = 11)) rfl rfl ⟨by decide, by decide⟩ ⟨by decide, by decide⟩ rfl dX13_highest_8 rfl (Nat.le_of_ble_eq_true rfl) (cmX13_isWhat zq) ?_
  refine g_if_ne h 16 (by decide) zf dX13_highest_11 ?_ ?_ <;> clear zf <;> intro zf
  · refine g_aload_n h 0 rfl dX13_highest_16 ?_
    refine g_iconst h 0 (v := 0) (by decide) dX13_highest_17 ?_
    refine g_bipush h 31 (v := 31) (by decide) dX13_highest_18 ?_
    have zf1 := bd_some zf
    clear zf; obtain ⟨Mq4, zq, zf⟩ := zf1
    refine g_callVwv (As := [.int 0, .int 31]) (rest := []) h ceX13_lays0 mlX13_432 imX13_lays0 seX13_lays0 (by rfl) (kd_lt (by rw [(by decide : kd 103 = 11)]; decide)) (ent_11 (by decide : kd 103 = 11)) rfl rfl ⟨by decide, by decide⟩ ⟨by decide, by decide⟩ rfl dX13_highest_20 rfl (Nat.le_of_ble_eq_true rfl) (cmX13_lays0 zq) ?_
    refine g_iconst h 0 (v := 0) (by decide) dX13_highest_23 ?_
    refine g_istore_n h rfl [(2, .int 0), (0, rv G.1 103), (1, .int x1)] (by decide) rfl dX13_highest_24 ?_
    refine g_aload_n h 1 rfl dX13_highest_25 ?_
    refine gfX13_108 h (by decide : kd 103 = 11) dX13_highest_26 ?_
    refine g_iconst h 1 (v := 1) (by decide) dX13_highest_29 ?_
    refine g_iald h 186 (by decide : kd 133 = 20) (by decide) zf dX13_highest_30 ?_
    clear zf; intro vq5 zf
    refine g_istore_n h rfl [(3, .int vq5), (2, .int 0), (0, rv G.1 103), (1, .int x1)] (by decide) rfl dX13_highest_31 ?_
    refine g_iconst h 1 (v := 1) (by decide) dX13_highest_32 ?_
    refine g_istore h [(4, .int 1), (3, .int vq5), (2, .int 0), (0, rv G.1 103), (1, .int x1)] (by decide) rfl dX13_highest_33 ?_
    refine g_sub h [3, 4, 2, 1, 0] rfl ?_
    exact kX13_highest_l35 h _ _ _ _ _ _ _ zf
  · refine g_iconst h 0 (v := 0) (by decide) dX13_highest_14 ?_
    obtain rfl := Option.some.inj zf
    exact g_iret h rfl ⟨rfl, rfl⟩ (Nat.le_refl _) (Nat.le_refl _) dX13_highest_15

theorem cmX13_highest {l : Launch} {w : WX} {M : Mem} {x1 : Int32} {res : (Int32 × Mem)} (zf : fX13_highest M x1 = some res) : CM l w yX13_highest cX13_highest 5 (some .int) { frames := 8, cells := 0, slots := 0, locals := 188 } 0 0 [rv w 103, .int x1] M (Pwi res) := by
  refine CM_of (by decide) (Nat.le_of_ble_eq_true rfl) (fun G hw hl h => ?_)
  subst hw
  exact kX13_highest_e0 h zf

-- X13_image
theorem kX13_image_l28 {G : GX} (h : OKm G cX13_image RX13 2 none { frames := 1, cells := 0, slots := 0, locals := 23 }) : ∀ (n : Nat) (M : Mem) (x1 : Int32) (res : Mem), fX13_image_l28 n M x1 = some res → GG G (Qm G (Pwv res) 0 0) 0 0 28 [(0, rv G.1 103), (1, .int x1)] [] M := by
  intro n
  induction n with
  | zero => intro M x1 res zf; rw [fX13_image_l28] at zf; cases zf
  | succ n ih =>
    intro M x1 res zf
    rw [fX13_image_l28] at zf
    refine g_iload_n h 1 rfl dX13_image_28 ?_
    refine g_bipush h 31 (v := 31) (by decide) dX13_image_29 ?_
    refine g_ic_ge h 52 (by decide) zf dX13_image_31 ?_ ?_ <;> clear zf <;> intro zf
    · refine g_aload_n h 0 rfl dX13_image_52 ?_
      refine g_aload_n h 0 rfl dX13_image_53 ?_
      refine gfX13_111 h (by decide : kd 103 = 11) dX13_image_54 ?_
      refine g_aload_n h 0 rfl dX13_image_57 ?_
      refine gfX13_135 h (by decide : kd 103 = 11) dX13_image_58 ?_
      have zf1 := bd_some zf
      clear zf; obtain ⟨Mq7, zq, zf⟩ := zf1
      refine g_callVwv (As := [rv G.1 134, rv G.1 142]) (rest := []) h ceX13_copies mlX13_348 imX13_copies seX13_copies (by rfl) (kd_lt (by rw [(by decide : kd 103 = 11)]; decide)) (ent_11 (by decide : kd 103 = 11)) rfl rfl ⟨by decide, by decide⟩ ⟨by decide, by decide⟩ rfl dX13_image_61 rfl (Nat.le_of_ble_eq_true rfl) (cmX13_copies zq) ?_
      refine g_aload_n h 0 rfl dX13_image_64 ?_
      refine g_aload_n h 0 rfl dX13_image_65 ?_
      refine gfX13_123 h (by decide : kd 103 = 11) dX13_image_66 ?_
      refine g_aload_n h 0 rfl dX13_image_69 ?_
      refine gfX13_138 h (by decide : kd 103 = 11) dX13_image_70 ?_
      have zf1 := bd_some zf
      clear zf; obtain ⟨Mq8, zq, zf⟩ := zf1
      refine g_callVwv (As := [rv G.1 138, rv G.1 143]) (rest := []) h ceX13_copies mlX13_348 imX13_copies seX13_copies (by rfl) (kd_lt (by rw [(by decide : kd 103 = 11)]; decide)) (ent_11 (by decide : kd 103 = 11)) rfl rfl ⟨by decide, by decide⟩ ⟨by decide, by decide⟩ rfl dX13_image_73 rfl (Nat.le_of_ble_eq_true rfl) (cmX13_copies zq) ?_
      obtain rfl := Option.some.inj zf
      exact g_vret h rfl ⟨rfl, rfl⟩ (Nat.le_refl _) (Nat.le_refl _) dX13_image_76
    · refine g_aload_n h 0 rfl dX13_image_34 ?_
      refine gfX13_132 h (by decide : kd 103 = 11) dX13_image_35 ?_
      refine g_iload_n h 1 rfl dX13_image_38 ?_
      refine g_aload_n h 0 rfl dX13_image_39 ?_
      refine gfX13_108 h (by decide : kd 103 = 11) dX13_image_40 ?_
      refine g_iload_n h 1 rfl dX13_image_43 ?_
      refine g_iald h 186 (by decide : kd 133 = 20) (by decide) zf dX13_image_44 ?_
      clear zf; intro vq9 zf
      refine g_iast h 31 (by decide : kd 141 = 20) (by decide) zf dX13_image_45 ?_
      clear zf; intro Mq10 zf
      refine g_iinc h 1 1 rfl (v := x1 + 1) (congrArg (fun z => x1 + z) (by decide : Int32.ofInt (1) = (1 : Int32))) [(1, .int (x1 + 1)), (0, rv G.1 103)] (by decide) rfl dX13_image_46 ?_
      refine g_nmV zf ?_
      clear zf; intro vq11 zf
      refine g_goto h 28 (by decide) dX13_image_49 ?_
      refine g_sub h [1, 0] rfl ?_
      exact ih _ _ _ zf

theorem kX13_image_e0 {G : GX} (h : OKm G cX13_image RX13 2 none { frames := 1, cells := 0, slots := 0, locals := 23 }) {M : Mem} {res : Mem} (zf : fX13_image M = some res) : GG G (Qm G (Pwv res) 0 0) 0 0 0 [(0, rv G.1 103)] [] M := by
  unfold fX13_image at zf
  refine g_aload_n h 0 rfl dX13_image_0 ?_
  refine g_iconst h 0 (v := 0) (by decide) dX13_image_1 ?_
  refine pfX13_141 h (by decide : kd 103 = 11) dX13_image_2 ?_
  refine g_nmM zf ?_
  clear zf; intro Mq1 zf
  refine g_aload_n h 0 rfl dX13_image_5 ?_
  refine g_iconst h 1 (v := 1) (by decide) dX13_image_6 ?_
  refine pfX13_358 h (by decide : kd 103 = 11) (by decide) dX13_image_7 ?_
  refine g_nmM zf ?_
  clear zf; intro Mq2 zf
  refine g_aload_n h 0 rfl dX13_image_10 ?_
  refine g_aload_n h 0 rfl dX13_image_11 ?_
  refine gfX13_352 h (by decide : kd 103 = 11) dX13_image_12 ?_
  refine g_nmI zf ?_
  clear zf; intro vq3 zf
  refine pfX13_493 h (by decide : kd 103 = 11) dX13_image_15 ?_
  refine g_nmM zf ?_
  clear zf; intro Mq4 zf
  refine g_aload_n h 0 rfl dX13_image_18 ?_
  refine g_aload_n h 0 rfl dX13_image_19 ?_
  refine gfX13_355 h (by decide : kd 103 = 11) dX13_image_20 ?_
  refine g_nmI zf ?_
  clear zf; intro vq5 zf
  refine pfX13_496 h (by decide : kd 103 = 11) dX13_image_23 ?_
  refine g_nmM zf ?_
  clear zf; intro Mq6 zf
  refine g_iconst h 0 (v := 0) (by decide) dX13_image_26 ?_
  refine g_istore_n h rfl [(1, .int 0), (0, rv G.1 103)] (by decide) rfl dX13_image_27 ?_
  refine g_sub h [1, 0] rfl ?_
  exact kX13_image_l28 h _ _ _ _ zf

theorem cmX13_image {l : Launch} {w : WX} {M : Mem} {res : Mem} (zf : fX13_image M = some res) : CM l w yX13_image cX13_image 2 none { frames := 1, cells := 0, slots := 0, locals := 23 } 0 0 [rv w 103] M (Pwv res) := by
  refine CM_of (by decide) (Nat.le_of_ble_eq_true rfl) (fun G hw hl h => ?_)
  subst hw
  exact kX13_image_e0 h zf

-- X13_isResting
theorem kX13_isResting_b85 {G : GX} (h : OKm G cX13_isResting RX13 6 (some .boolean) { frames := 0, cells := 0, slots := 0, locals := 0 }) {a2 : Mem → Int32 → Int32 → Option Int32} (zh2 : ∀ (M : Mem) (x1 : Int32) (x2 : Int32) (res : Int32), a2 M x1 x2 = some res → GG G (Qm G (Pri res M) 0 0) 0 0 2 [(0, rv G.1 103), (1, .int x1), (2, .int x2)] [] M) {a49 : Mem → Int32 → Int32 → Int32 → Int32 → Int32 → Option Int32} (zh49 : ∀ (M : Mem) (x1 : Int32) (x2 : Int32) (x3 : Int32) (x4 : Int32) (x5 : Int32) (res : Int32), a49 M x1 x2 x3 x4 x5 = some res → GG G (Qm G (Pri res M) 0 0) 0 0 49 [(0, rv G.1 103), (1, .int x1), (2, .int x2), (3, .int x3), (4, .int x4), (5, .int x5)] [] M) {M : Mem} {x1 : Int32} {x2 : Int32} {x3 : Int32} {x4 : Int32} {x5 : Int32} {res : Int32} (zf : fX13_isResting_b85 a2 a49 M x1 x2 x3 x4 x5 = some res) : GG G (Qm G (Pri res M) 0 0) 0 0 85 [(0, rv G.1 103), (1, .int x1), (2, .int x2), (3, .int x3), (4, .int x4), (5, .int x5)] [] M := by
  unfold fX13_isResting_b85 at zf
  refine g_iinc h 5 5 rfl (v := x5 + 1) (congrArg (fun z => x5 + z) (by decide : Int32.ofInt (1) = (1 : Int32))) [(5, .int (x5 + 1)), (0, rv G.1 103), (1, .int x1), (2, .int x2), (3, .int x3), (4, .int x4)] (by decide) rfl dX13_isResting_85 ?_
  refine g_nmV zf ?_
  clear zf; intro vq6 zf
  refine g_goto h 49 (by decide) dX13_isResting_88 ?_
  refine g_sub h [1, 2, 3, 4, 5, 0] rfl ?_
  exact zh49 _ _ _ _ _ _ _ zf

theorem kX13_isResting_b82 {G : GX} (h : OKm G cX13_isResting RX13 6 (some .boolean) { frames := 0, cells := 0, slots := 0, locals := 0 }) {a2 : Mem → Int32 → Int32 → Option Int32} (zh2 : ∀ (M : Mem) (x1 : Int32) (x2 : Int32) (res : Int32), a2 M x1 x2 = some res → GG G (Qm G (Pri res M) 0 0) 0 0 2 [(0, rv G.1 103), (1, .int x1), (2, .int x2)] [] M) {a49 : Mem → Int32 → Int32 → Int32 → Int32 → Int32 → Option Int32} (zh49 : ∀ (M : Mem) (x1 : Int32) (x2 : Int32) (x3 : Int32) (x4 : Int32) (x5 : Int32) (res : Int32), a49 M x1 x2 x3 x4 x5 = some res → GG G (Qm G (Pri res M) 0 0) 0 0 49 [(0, rv G.1 103), (1, .int x1), (2, .int x2), (3, .int x3), (4, .int x4), (5, .int x5)] [] M) {M : Mem} {x1 : Int32} {x2 : Int32} {x3 : Int32} {x5 : Int32} {s0 : Int32} {s1 : Int32} {res : Int32} (zf : fX13_isResting_b82 a2 a49 M x1 x2 x3 x5 s0 s1 = some res) : GG G (Qm G (Pri res M) 0 0) 0 0 82 [(0, rv G.1 103), (1, .int x1), (2, .int x2), (3, .int x3), (5, .int x5)] [.int s0, .int s1] M := by
  unfold fX13_isResting_b82 at zf
  refine g_iadd h dX13_isResting_82 ?_
  refine g_nmI zf ?_
  clear zf; intro vq7 zf
  refine g_istore h [(4, .int vq7), (0, rv G.1 103), (1, .int x1), (2, .int x2), (3, .int x3), (5, .int x5)] (by decide) rfl dX13_isResting_83 ?_
  refine g_sub h [1, 2, 3, 4, 0, 5] rfl ?_
  exact kX13_isResting_b85 h zh2 zh49 zf

theorem kX13_isResting_l49 {G : GX} (h : OKm G cX13_isResting RX13 6 (some .boolean) { frames := 0, cells := 0, slots := 0, locals := 0 }) {a2 : Mem → Int32 → Int32 → Option Int32} (zh2 : ∀ (M : Mem) (x1 : Int32) (x2 : Int32) (res : Int32), a2 M x1 x2 = some res → GG G (Qm G (Pri res M) 0 0) 0 0 2 [(0, rv G.1 103), (1, .int x1), (2, .int x2)] [] M) : ∀ (n : Nat) (M : Mem) (x1 : Int32) (x2 : Int32) (x3 : Int32) (x4 : Int32) (x5 : Int32) (res : Int32), fX13_isResting_l49 a2 n M x1 x2 x3 x4 x5 = some res → GG G (Qm G (Pri res M) 0 0) 0 0 49 [(0, rv G.1 103), (1, .int x1), (2, .int x2), (3, .int x3), (4, .int x4), (5, .int x5)] [] M := by
  intro n
  induction n with
  | zero => intro M x1 x2 x3 x4 x5 res zf; rw [fX13_isResting_l49] at zf; cases zf
  | succ n ih =>
    intro M x1 x2 x3 x4 x5 res zf
    rw [fX13_isResting_l49] at zf
    refine g_iload h 5 rfl dX13_isResting_49 ?_
    refine g_aload_n h 0 rfl dX13_isResting_51 ?_
    refine gfX13_339 h (by decide : kd 103 = 11) dX13_isResting_52 ?_
    refine g_nmI zf ?_
    clear zf; intro vq4 zf
    refine g_ic_ge h 91 (by decide) zf dX13_isResting_55 ?_ ?_ <;> clear zf <;> intro zf
    · refine g_iload h 4 rfl dX13_isResting_91 ?_
      refine g_if_ge h 98 (by decide) zf dX13_isResting_93 ?_ ?_ <;> clear zf <;> intro zf
      · refine g_iinc h 2 2 rfl (v := x2 + 1) (congrArg (fun z => x2 + z) (by decide : Int32.ofInt (1) = (1 : Int32))) [(2, .int (x2 + 1)), (0, rv G.1 103), (1, .int x1), (3, .int x3), (4, .int x4), (5, .int x5)] (by decide) rfl dX13_isResting_98 ?_
        refine g_nmV zf ?_
        clear zf; intro vq5 zf
        refine g_goto h 2 (by decide) dX13_isResting_101 ?_
        refine g_sub h [1, 2, 0] rfl ?_
        exact zh2 _ _ _ _ zf
      · refine g_iconst h 0 (v := 0) (by decide) dX13_isResting_96 ?_
        obtain rfl := Option.some.inj zf
        exact g_zret h (by decide) rfl ⟨rfl, rfl⟩ (Nat.le_refl _) (Nat.le_refl _) dX13_isResting_97
    · refine g_iload h 5 rfl dX13_isResting_58 ?_
      refine g_iload_n h 2 rfl dX13_isResting_60 ?_
      refine g_ic_eq h 85 (by decide) zf dX13_isResting_61 ?_ ?_ <;> clear zf <;> intro zf
      · refine g_sub h [0, 1, 2, 3, 4, 5] rfl ?_
        exact kX13_isResting_b85 h zh2 ih zf
      · refine g_iload h 4 rfl dX13_isResting_64 ?_
        refine g_iload_n h 1 rfl dX13_isResting_66 ?_
        refine g_iload h 5 rfl dX13_isResting_67 ?_
        refine g_ishr h dX13_isResting_69 ?_
        refine g_iconst h 1 (v := 1) (by decide) dX13_isResting_70 ?_
        refine g_iand h dX13_isResting_71 ?_
        refine g_iload_n h 3 rfl dX13_isResting_72 ?_
        refine g_ic_ne h 80 (by decide) zf dX13_isResting_73 ?_ ?_ <;> clear zf <;> intro zf
        · refine g_bipush h (-2) (v := (-2)) (by decide) dX13_isResting_80 ?_
          refine g_sub h [0, 1, 2, 3, 5] rfl ?_
          exact kX13_isResting_b82 h zh2 ih zf
        · refine g_iconst h 2 (v := 2) (by decide) dX13_isResting_76 ?_
          refine g_goto h 82 (by decide) dX13_isResting_77 ?_
          refine g_sub h [0, 1, 2, 3, 5] rfl ?_
          exact kX13_isResting_b82 h zh2 ih zf

theorem kX13_isResting_b44 {G : GX} (h : OKm G cX13_isResting RX13 6 (some .boolean) { frames := 0, cells := 0, slots := 0, locals := 0 }) {a2 : Mem → Int32 → Int32 → Option Int32} (zh2 : ∀ (M : Mem) (x1 : Int32) (x2 : Int32) (res : Int32), a2 M x1 x2 = some res → GG G (Qm G (Pri res M) 0 0) 0 0 2 [(0, rv G.1 103), (1, .int x1), (2, .int x2)] [] M) {M : Mem} {x1 : Int32} {x2 : Int32} {x3 : Int32} {s0 : Int32} {res : Int32} (zf : fX13_isResting_b44 a2 M x1 x2 x3 s0 = some res) : GG G (Qm G (Pri res M) 0 0) 0 0 44 [(0, rv G.1 103), (1, .int x1), (2, .int x2), (3, .int x3)] [.int s0] M := by
  unfold fX13_isResting_b44 at zf
  refine g_istore h [(4, .int s0), (0, rv G.1 103), (1, .int x1), (2, .int x2), (3, .int x3)] (by decide) rfl dX13_isResting_44 ?_
  refine g_iconst h 0 (v := 0) (by decide) dX13_isResting_46 ?_
  refine g_istore h [(5, .int 0), (4, .int s0), (0, rv G.1 103), (1, .int x1), (2, .int x2), (3, .int x3)] (by decide) rfl dX13_isResting_47 ?_
  refine g_sub h [2, 3, 4, 5, 1, 0] rfl ?_
  exact kX13_isResting_l49 h zh2 _ _ _ _ _ _ _ _ zf

theorem kX13_isResting_l2 {G : GX} (h : OKm G cX13_isResting RX13 6 (some .boolean) { frames := 0, cells := 0, slots := 0, locals := 0 }) : ∀ (n : Nat) (M : Mem) (x1 : Int32) (x2 : Int32) (res : Int32), fX13_isResting_l2 n M x1 x2 = some res → GG G (Qm G (Pri res M) 0 0) 0 0 2 [(0, rv G.1 103), (1, .int x1), (2, .int x2)] [] M := by
  intro n
  induction n with
  | zero => intro M x1 x2 res zf; rw [fX13_isResting_l2] at zf; cases zf
  | succ n ih =>
    intro M x1 x2 res zf
    rw [fX13_isResting_l2] at zf
    refine g_iload_n h 2 rfl dX13_isResting_2 ?_
    refine g_aload_n h 0 rfl dX13_isResting_3 ?_
    refine gfX13_339 h (by decide : kd 103 = 11) dX13_isResting_4 ?_
    refine g_nmI zf ?_
    clear zf; intro vq1 zf
    refine g_ic_ge h 104 (by decide) zf dX13_isResting_7 ?_ ?_ <;> clear zf <;> intro zf
    · refine g_iconst h 1 (v := 1) (by decide) dX13_isResting_104 ?_
      obtain rfl := Option.some.inj zf
      exact g_zret h (by decide) rfl ⟨rfl, rfl⟩ (Nat.le_refl _) (Nat.le_refl _) dX13_isResting_105
    · refine g_iload_n h 1 rfl dX13_isResting_10 ?_
      refine g_iload_n h 2 rfl dX13_isResting_11 ?_
      refine g_ishr h dX13_isResting_12 ?_
      refine g_iconst h 1 (v := 1) (by decide) dX13_isResting_13 ?_
      refine g_iand h dX13_isResting_14 ?_
      refine g_nmI zf ?_
      clear zf; intro vq2 zf
      refine g_istore_n h rfl [(3, .int vq2), (0, rv G.1 103), (1, .int x1), (2, .int x2)] (by decide) rfl dX13_isResting_15 ?_
      refine g_iload_n h 0 rfl dX13_isResting_16 ?_
      refine g_iconst h 1 (v := 1) (by decide) dX13_isResting_17 ?_
      refine g_ic_ne h 33 (by decide) zf dX13_isResting_18 ?_ ?_ <;> clear zf <;> intro zf
      · refine g_iconst h 0 (v := 0) (by decide) dX13_isResting_33 ?_
        refine g_aload_n h 1 rfl dX13_isResting_34 ?_
        refine gfX13_108 h (by decide : kd 103 = 11) dX13_isResting_35 ?_
        refine g_bipush h 25 (v := 25) (by decide) dX13_isResting_38 ?_
        refine g_iload_n h 3 rfl dX13_isResting_40 ?_
        refine g_iadd h dX13_isResting_41 ?_
        refine g_iald h 186 (by decide : kd 133 = 20) (by decide) zf dX13_isResting_42 ?_
        clear zf; intro vq3 zf
        refine g_isub h dX13_isResting_43 ?_
        refine g_sub h [1, 2, 3, 0] rfl ?_
        exact kX13_isResting_b44 h ih zf
      · refine g_aload_n h 1 rfl dX13_isResting_21 ?_
        refine gfX13_108 h (by decide : kd 103 = 11) dX13_isResting_22 ?_
        refine g_bipush h 25 (v := 25) (by decide) dX13_isResting_25 ?_
        refine g_iload_n h 3 rfl dX13_isResting_27 ?_
        refine g_iadd h dX13_isResting_28 ?_
        refine g_iald h 186 (by decide : kd 133 = 20) (by decide) zf dX13_isResting_29 ?_
        clear zf; intro vq8 zf
        refine g_goto h 44 (by decide) dX13_isResting_30 ?_
        refine g_sub h [1, 2, 3, 0] rfl ?_
        exact kX13_isResting_b44 h ih zf

theorem kX13_isResting_e0 {G : GX} (h : OKm G cX13_isResting RX13 6 (some .boolean) { frames := 0, cells := 0, slots := 0, locals := 0 }) {M : Mem} {x1 : Int32} {res : Int32} (zf : fX13_isResting M x1 = some res) : GG G (Qm G (Pri res M) 0 0) 0 0 0 [(0, rv G.1 103), (1, .int x1)] [] M := by
  unfold fX13_isResting at zf
  refine g_iconst h 0 (v := 0) (by decide) dX13_isResting_0 ?_
  refine g_istore_n h rfl [(2, .int 0), (0, rv G.1 103), (1, .int x1)] (by decide) rfl dX13_isResting_1 ?_
  refine g_sub h [1, 2, 0] rfl ?_
  exact kX13_isResting_l2 h _ _ _ _ _ zf

theorem cmX13_isResting {l : Launch} {w : WX} {M : Mem} {x1 : Int32} {res : Int32} (zf : fX13_isResting M x1 = some res) : CM l w yX13_isResting cX13_isResting 6 (some .boolean) { frames := 0, cells := 0, slots := 0, locals := 0 } 0 0 [rv w 103, .int x1] M (Pri res M) := by
  refine CM_of (by decide) (Nat.le_of_ble_eq_true rfl) (fun G hw hl h => ?_)
  subst hw
  exact kX13_isResting_e0 h zf

-- X13_number
theorem kX13_number_b54 {G : GX} (h : OKm G cX13_number RX13 4 (some .int) { frames := 2, cells := 0, slots := 0, locals := 42 }) {M : Mem} {res : (Int32 × Mem)} (zf : fX13_number_b54 M = some res) : GG G (Qm G (Pwi res) 0 0) 0 0 54 [(0, rv G.1 103)] [] M := by
  unfold fX13_number_b54 at zf
  refine g_aload_n h 0 rfl dX13_number_54 ?_
  refine gfX13_168 h (by decide : kd 103 = 11) dX13_number_55 ?_
  refine g_nmI zf ?_
  clear zf; intro vq5 zf
  refine g_istore_n h rfl [(3, .int vq5), (0, rv G.1 103)] (by decide) rfl dX13_number_58 ?_
  refine g_aload_n h 1 rfl dX13_number_59 ?_
  have zf1 := bd_some zf
  clear zf; obtain ⟨vq6, zq, zf⟩ := zf1
  refine g_callVri (As := []) (rest := []) h ceX13_isGood mlX13_200 imX13_isGood seX13_isGood (by rfl) (kd_lt (by rw [(by decide : kd 103 = 11)]; decide)) (ent_11 (by decide : kd 103 = 11)) rfl rfl ⟨by decide, by decide⟩ ⟨by decide, by decide⟩ rfl dX13_number_60 rfl (Nat.le_of_ble_eq_true rfl) (cmX13_isGood zq) ?_
  refine g_if_eq h 70 (by decide) zf dX13_number_63 ?_ ?_ <;> clear zf <;> intro zf
  · refine g_iload_n h 0 rfl dX13_number_70 ?_
    obtain rfl := Option.some.inj zf
    exact g_iret h rfl ⟨rfl, rfl⟩ (Nat.le_refl _) (Nat.le_refl _) dX13_number_71
  · refine g_aload_n h 1 rfl dX13_number_66 ?_
    have zf1 := bd_some zf
    clear zf; obtain ⟨Mq7, zq, zf⟩ := zf1
    refine g_callVwv (As := []) (rest := []) h ceX13_goes mlX13_204 imX13_goes seX13_goes (by rfl) (kd_lt (by rw [(by decide : kd 103 = 11)]; decide)) (ent_11 (by decide : kd 103 = 11)) rfl rfl ⟨by decide, by decide⟩ ⟨by decide, by decide⟩ rfl dX13_number_67 rfl (Nat.le_of_ble_eq_true rfl) (cmX13_goes zq) ?_
    refine g_iload_n h 0 rfl dX13_number_70 ?_
    obtain rfl := Option.some.inj zf
    exact g_iret h rfl ⟨rfl, rfl⟩ (Nat.le_refl _) (Nat.le_refl _) dX13_number_71

theorem kX13_number_b49 {G : GX} (h : OKm G cX13_number RX13 4 (some .int) { frames := 2, cells := 0, slots := 0, locals := 42 }) {M : Mem} {res : (Int32 × Mem)} (zf : fX13_number_b49 M = some res) : GG G (Qm G (Pwi res) 0 0) 0 0 49 [(0, rv G.1 103)] [] M := by
  unfold fX13_number_b49 at zf
  refine g_aload_n h 0 rfl dX13_number_49 ?_
  refine g_iconst h 2 (v := 2) (by decide) dX13_number_50 ?_
  have zf1 := bd_some zf
  clear zf; obtain ⟨Mq4, zq, zf⟩ := zf1
  refine g_callVwv (As := [.int 2]) (rest := []) h ceX13_wrong mlX13_207 imX13_wrong seX13_wrong (by rfl) (kd_lt (by rw [(by decide : kd 103 = 11)]; decide)) (ent_11 (by decide : kd 103 = 11)) rfl rfl ⟨by decide, by decide⟩ ⟨by decide, by decide⟩ rfl dX13_number_51 rfl (Nat.le_of_ble_eq_true rfl) (cmX13_wrong zq) ?_
  refine g_sub h [0] rfl ?_
  exact kX13_number_b54 h zf

theorem kX13_number_e0 {G : GX} (h : OKm G cX13_number RX13 4 (some .int) { frames := 2, cells := 0, slots := 0, locals := 42 }) {M : Mem} {x1 : Int32} {x2 : Int32} {res : (Int32 × Mem)} (zf : fX13_number M x1 x2 = some res) : GG G (Qm G (Pwi res) 0 0) 0 0 0 [(0, rv G.1 103), (1, .int x1), (2, .int x2)] [] M := by
  unfold fX13_number at zf
  refine g_aload_n h 0 rfl dX13_number_0 ?_
  have zf1 := bd_some zf
  clear zf; obtain ⟨vq1, zq, zf⟩ := zf1
  refine g_callVri (As := []) (rest := []) h ceX13_isGood mlX13_200 imX13_isGood seX13_isGood (by rfl) (kd_lt (by rw [(by decide : kd 103 = 11)]; decide)) (ent_11 (by decide : kd 103 = 11)) rfl rfl ⟨by decide, by decide⟩ ⟨by decide, by decide⟩ rfl dX13_number_1 rfl (Nat.le_of_ble_eq_true rfl) (cmX13_isGood zq) ?_
  refine g_if_ne h 9 (by decide) zf dX13_number_4 ?_ ?_ <;> clear zf <;> intro zf
  · refine g_aload_n h 0 rfl dX13_number_9 ?_
    refine gfX13_174 h (by decide : kd 103 = 11) dX13_number_10 ?_
    refine g_nmI zf ?_
    clear zf; intro vq2 zf
    refine g_iconst h 2 (v := 2) (by decide) dX13_number_13 ?_
    refine g_ic_eq h 25 (by decide) zf dX13_number_14 ?_ ?_ <;> clear zf <;> intro zf
    · refine g_aload_n h 0 rfl dX13_number_25 ?_
      refine gfX13_184 h (by decide : kd 103 = 11) dX13_number_26 ?_
      refine g_nmI zf ?_
      clear zf; intro vq3 zf
      refine g_iconst h 4 (v := 4) (by decide) dX13_number_29 ?_
      refine g_ic_gt h 49 (by decide) zf dX13_number_30 ?_ ?_ <;> clear zf <;> intro zf
      · refine g_sub h [0] rfl ?_
        exact kX13_number_b49 h zf
      · refine g_aload_n h 0 rfl dX13_number_33 ?_
        refine gfX13_168 h (by decide : kd 103 = 11) dX13_number_34 ?_
        refine g_nmI zf ?_
        clear zf; intro vq8 zf
        refine g_iload_n h 1 rfl dX13_number_37 ?_
        refine g_ic_lt h 49 (by decide) zf dX13_number_38 ?_ ?_ <;> clear zf <;> intro zf
        · refine g_sub h [0] rfl ?_
          exact kX13_number_b49 h zf
        · refine g_aload_n h 0 rfl dX13_number_41 ?_
          refine gfX13_168 h (by decide : kd 103 = 11) dX13_number_42 ?_
          refine g_nmI zf ?_
          clear zf; intro vq9 zf
          refine g_iload_n h 2 rfl dX13_number_45 ?_
          refine g_ic_le h 54 (by decide) zf dX13_number_46 ?_ ?_ <;> clear zf <;> intro zf
          · refine g_sub h [0] rfl ?_
            exact kX13_number_b54 h zf
          · refine g_sub h [0] rfl ?_
            exact kX13_number_b49 h zf
    · refine g_aload_n h 0 rfl dX13_number_17 ?_
      refine g_iconst h 1 (v := 1) (by decide) dX13_number_18 ?_
      have zf1 := bd_some zf
      clear zf; obtain ⟨Mq10, zq, zf⟩ := zf1
      refine g_callVwv (As := [.int 1]) (rest := []) h ceX13_wrong mlX13_207 imX13_wrong seX13_wrong (by rfl) (kd_lt (by rw [(by decide : kd 103 = 11)]; decide)) (ent_11 (by decide : kd 103 = 11)) rfl rfl ⟨by decide, by decide⟩ ⟨by decide, by decide⟩ rfl dX13_number_19 rfl (Nat.le_of_ble_eq_true rfl) (cmX13_wrong zq) ?_
      refine g_goto h 54 (by decide) dX13_number_22 ?_
      refine g_sub h [0] rfl ?_
      exact kX13_number_b54 h zf
  · refine g_iconst h 0 (v := 0) (by decide) dX13_number_7 ?_
    obtain rfl := Option.some.inj zf
    exact g_iret h rfl ⟨rfl, rfl⟩ (Nat.le_refl _) (Nat.le_refl _) dX13_number_8

theorem cmX13_number {l : Launch} {w : WX} {M : Mem} {x1 : Int32} {x2 : Int32} {res : (Int32 × Mem)} (zf : fX13_number M x1 x2 = some res) : CM l w yX13_number cX13_number 4 (some .int) { frames := 2, cells := 0, slots := 0, locals := 42 } 0 0 [rv w 103, .int x1, .int x2] M (Pwi res) := by
  refine CM_of (by decide) (Nat.le_of_ble_eq_true rfl) (fun G hw hl h => ?_)
  subst hw
  exact kX13_number_e0 h zf

-- X13_readsCity
theorem kX13_readsCity_b12 {G : GX} (h : OKm G cX13_readsCity RX13 1 none { frames := 3, cells := 0, slots := 0, locals := 65 }) {M : Mem} {res : Mem} (zf : fX13_readsCity_b12 M = some res) : GG G (Qm G (Pwv res) 0 0) 0 0 12 [(0, rv G.1 103)] [] M := by
  unfold fX13_readsCity_b12 at zf
  refine g_aload_n h 0 rfl dX13_readsCity_12 ?_
  have zf1 := bd_some zf
  clear zf; obtain ⟨vq2, zq, zf⟩ := zf1
  refine g_callVri (As := []) (rest := []) h ceX13_isGood mlX13_200 imX13_isGood seX13_isGood (by rfl) (kd_lt (by rw [(by decide : kd 103 = 11)]; decide)) (ent_11 (by decide : kd 103 = 11)) rfl rfl ⟨by decide, by decide⟩ ⟨by decide, by decide⟩ rfl dX13_readsCity_13 rfl (Nat.le_of_ble_eq_true rfl) (cmX13_isGood zq) ?_
  refine g_if_ne h 20 (by decide) zf dX13_readsCity_16 ?_ ?_ <;> clear zf <;> intro zf
  · refine g_aload_n h 0 rfl dX13_readsCity_20 ?_
    refine g_iconst h 1 (v := 1) (by decide) dX13_readsCity_21 ?_
    refine pfX13_267 h (by decide : kd 103 = 11) (by decide) dX13_readsCity_22 ?_
    refine g_nmM zf ?_
    clear zf; intro Mq3 zf
    refine g_aload_n h 0 rfl dX13_readsCity_25 ?_
    have zf1 := bd_some zf
    clear zf; obtain ⟨Mq4, zq, zf⟩ := zf1
    refine g_callVwv (As := []) (rest := []) h ceX13_goes mlX13_204 imX13_goes seX13_goes (by rfl) (kd_lt (by rw [(by decide : kd 103 = 11)]; decide)) (ent_11 (by decide : kd 103 = 11)) rfl rfl ⟨by decide, by decide⟩ ⟨by decide, by decide⟩ rfl dX13_readsCity_26 rfl (Nat.le_of_ble_eq_true rfl) (cmX13_goes zq) ?_
    refine g_aload_n h 0 rfl dX13_readsCity_29 ?_
    refine gfX13_95 h (by decide : kd 103 = 11) dX13_readsCity_30 ?_
    refine g_iconst h 0 (v := 0) (by decide) dX13_readsCity_33 ?_
    refine g_aload_n h 0 rfl dX13_readsCity_34 ?_
    refine g_iconst h 0 (v := 0) (by decide) dX13_readsCity_35 ?_
    refine g_sipush h 999 (v := 999) (by decide) dX13_readsCity_36 ?_
    have zf1 := b2_some zf
    clear zf; obtain ⟨vq5, Mq6, zq, zf⟩ := zf1
    refine g_callVwi (As := [.int 0, .int 999]) (rest := [.int 0, rv G.1 129]) h ceX13_number mlX13_213 imX13_number seX13_number (by rfl) (kd_lt (by rw [(by decide : kd 103 = 11)]; decide)) (ent_11 (by decide : kd 103 = 11)) rfl rfl ⟨by decide, by decide⟩ ⟨by decide, by decide⟩ rfl dX13_readsCity_39 rfl (Nat.le_of_ble_eq_true rfl) (cmX13_number zq) ?_
    refine g_iast h 31 (by decide : kd 129 = 20) (by decide) zf dX13_readsCity_42 ?_
    clear zf; intro Mq7 zf
    refine g_aload_n h 0 rfl dX13_readsCity_43 ?_
    refine gfX13_95 h (by decide : kd 103 = 11) dX13_readsCity_44 ?_
    refine g_iconst h 1 (v := 1) (by decide) dX13_readsCity_47 ?_
    refine g_aload_n h 0 rfl dX13_readsCity_48 ?_
    refine g_iconst h 0 (v := 0) (by decide) dX13_readsCity_49 ?_
    refine g_bipush h 99 (v := 99) (by decide) dX13_readsCity_50 ?_
    have zf1 := b2_some zf
    clear zf; obtain ⟨vq8, Mq9, zq, zf⟩ := zf1
    refine g_callVwi (As := [.int 0, .int 99]) (rest := [.int 1, rv G.1 129]) h ceX13_number mlX13_213 imX13_number seX13_number (by rfl) (kd_lt (by rw [(by decide : kd 103 = 11)]; decide)) (ent_11 (by decide : kd 103 = 11)) rfl rfl ⟨by decide, by decide⟩ ⟨by decide, by decide⟩ rfl dX13_readsCity_52 rfl (Nat.le_of_ble_eq_true rfl) (cmX13_number zq) ?_
    refine g_iast h 31 (by decide : kd 129 = 20) (by decide) zf dX13_readsCity_55 ?_
    clear zf; intro Mq10 zf
    refine g_aload_n h 0 rfl dX13_readsCity_56 ?_
    refine gfX13_95 h (by decide : kd 103 = 11) dX13_readsCity_57 ?_
    refine g_iconst h 2 (v := 2) (by decide) dX13_readsCity_60 ?_
    refine g_aload_n h 0 rfl dX13_readsCity_61 ?_
    refine g_iconst h 0 (v := 0) (by decide) dX13_readsCity_62 ?_
    refine g_sipush h 999 (v := 999) (by decide) dX13_readsCity_63 ?_
    have zf1 := b2_some zf
    clear zf; obtain ⟨vq11, Mq12, zq, zf⟩ := zf1
    refine g_callVwi (As := [.int 0, .int 999]) (rest := [.int 2, rv G.1 129]) h ceX13_number mlX13_213 imX13_number seX13_number (by rfl) (kd_lt (by rw [(by decide : kd 103 = 11)]; decide)) (ent_11 (by decide : kd 103 = 11)) rfl rfl ⟨by decide, by decide⟩ ⟨by decide, by decide⟩ rfl dX13_readsCity_66 rfl (Nat.le_of_ble_eq_true rfl) (cmX13_number zq) ?_
    refine g_iast h 31 (by decide : kd 129 = 20) (by decide) zf dX13_readsCity_69 ?_
    clear zf; intro Mq13 zf
    obtain rfl := Option.some.inj zf
    exact g_vret h rfl ⟨rfl, rfl⟩ (Nat.le_refl _) (Nat.le_refl _) dX13_readsCity_70
  · obtain rfl := Option.some.inj zf
    exact g_vret h rfl ⟨rfl, rfl⟩ (Nat.le_refl _) (Nat.le_refl _) dX13_readsCity_19

theorem kX13_readsCity_e0 {G : GX} (h : OKm G cX13_readsCity RX13 1 none { frames := 3, cells := 0, slots := 0, locals := 65 }) {M : Mem} {res : Mem} (zf : fX13_readsCity M = some res) : GG G (Qm G (Pwv res) 0 0) 0 0 0 [(0, rv G.1 103)] [] M := by
  unfold fX13_readsCity at zf
  refine g_aload_n h 0 rfl dX13_readsCity_0 ?_
  refine gfX13_267 h (by decide : kd 103 = 11) dX13_readsCity_1 ?_
  refine g_nmI zf ?_
  clear zf; intro vq1 zf
  refine g_if_eq h 12 (by decide) zf dX13_readsCity_4 ?_ ?_ <;> clear zf <;> intro zf
  · refine g_sub h [0] rfl ?_
    exact kX13_readsCity_b12 h zf
  · refine g_aload_n h 0 rfl dX13_readsCity_7 ?_
    refine g_iconst h 5 (v := 5) (by decide) dX13_readsCity_8 ?_
    have zf1 := bd_some zf
    clear zf; obtain ⟨Mq14, zq, zf⟩ := zf1
    refine g_callVwv (As := [.int 5]) (rest := []) h ceX13_wrong mlX13_207 imX13_wrong seX13_wrong (by rfl) (kd_lt (by rw [(by decide : kd 103 = 11)]; decide)) (ent_11 (by decide : kd 103 = 11)) rfl rfl ⟨by decide, by decide⟩ ⟨by decide, by decide⟩ rfl dX13_readsCity_9 rfl (Nat.le_of_ble_eq_true rfl) (cmX13_wrong zq) ?_
    refine g_sub h [0] rfl ?_
    exact kX13_readsCity_b12 h zf

theorem cmX13_readsCity {l : Launch} {w : WX} {M : Mem} {res : Mem} (zf : fX13_readsCity M = some res) : CM l w yX13_readsCity cX13_readsCity 1 none { frames := 3, cells := 0, slots := 0, locals := 65 } 0 0 [rv w 103] M (Pwv res) := by
  refine CM_of (by decide) (Nat.le_of_ble_eq_true rfl) (fun G hw hl h => ?_)
  subst hw
  exact kX13_readsCity_e0 h zf

-- X13_signed
theorem kX13_signed_b22 {G : GX} (h : OKm G cX13_signed RX13 4 (some .int) { frames := 3, cells := 0, slots := 0, locals := 65 }) {M : Mem} {x1 : Int32} {x2 : Int32} {res : (Int32 × Mem)} (zf : fX13_signed_b22 M x1 x2 = some res) : GG G (Qm G (Pwi res) 0 0) 0 0 22 [(0, rv G.1 103), (1, .int x1), (2, .int x2)] [] M := by
  unfold fX13_signed_b22 at zf
  refine g_aload_n h 0 rfl dX13_signed_22 ?_
  refine g_iconst h 0 (v := 0) (by decide) dX13_signed_23 ?_
  refine g_iload_n h 1 rfl dX13_signed_24 ?_
  have zf1 := b2_some zf
  clear zf; obtain ⟨vq3, Mq4, zq, zf⟩ := zf1
  refine g_callVwi (As := [.int 0, .int x1]) (rest := []) h ceX13_number mlX13_213 imX13_number seX13_number (by rfl) (kd_lt (by rw [(by decide : kd 103 = 11)]; decide)) (ent_11 (by decide : kd 103 = 11)) rfl rfl ⟨by decide, by decide⟩ ⟨by decide, by decide⟩ rfl dX13_signed_25 rfl (Nat.le_of_ble_eq_true rfl) (cmX13_number zq) ?_
  refine g_istore_n h rfl [(3, .int vq3), (0, rv G.1 103), (1, .int x1), (2, .int x2)] (by decide) rfl dX13_signed_28 ?_
  refine g_iload_n h 3 rfl dX13_signed_29 ?_
  refine g_if_eq h 39 (by decide) zf dX13_signed_30 ?_ ?_ <;> clear zf <;> intro zf
  · refine g_iload_n h 0 rfl dX13_signed_39 ?_
    obtain rfl := Option.some.inj zf
    exact g_iret h rfl ⟨rfl, rfl⟩ (Nat.le_refl _) (Nat.le_refl _) dX13_signed_40
  · refine g_iconst h 0 (v := 0) (by decide) dX13_signed_33 ?_
    refine g_iload_n h 0 rfl dX13_signed_34 ?_
    refine g_isub h dX13_signed_35 ?_
    refine g_goto h 40 (by decide) dX13_signed_36 ?_
    obtain rfl := Option.some.inj zf
    exact g_iret h rfl ⟨rfl, rfl⟩ (Nat.le_refl _) (Nat.le_refl _) dX13_signed_40

theorem kX13_signed_e0 {G : GX} (h : OKm G cX13_signed RX13 4 (some .int) { frames := 3, cells := 0, slots := 0, locals := 65 }) {M : Mem} {x1 : Int32} {res : (Int32 × Mem)} (zf : fX13_signed M x1 = some res) : GG G (Qm G (Pwi res) 0 0) 0 0 0 [(0, rv G.1 103), (1, .int x1)] [] M := by
  unfold fX13_signed at zf
  refine g_aload_n h 0 rfl dX13_signed_0 ?_
  refine g_bipush h 45 (v := 45) (by decide) dX13_signed_1 ?_
  have zf1 := bd_some zf
  clear zf; obtain ⟨vq1, zq, zf⟩ := zf1
  refine g_callVri (As := [.int 45]) (rest := []) h ceX13_isSign mlX13_210 imX13_isSign seX13_isSign (by rfl) (kd_lt (by rw [(by decide : kd 103 = 11)]; decide)) (ent_11 (by decide : kd 103 = 11)) rfl rfl ⟨by decide, by decide⟩ ⟨by decide, by decide⟩ rfl dX13_signed_3 rfl (Nat.le_of_ble_eq_true rfl) (cmX13_isSign zq) ?_
  refine g_istore_n h rfl [(2, .int vq1), (0, rv G.1 103), (1, .int x1)] (by decide) rfl dX13_signed_6 ?_
  refine g_aload_n h 1 rfl dX13_signed_7 ?_
  have zf1 := bd_some zf
  clear zf; obtain ⟨vq2, zq, zf⟩ := zf1
  refine g_callVri (As := []) (rest := []) h ceX13_isGood mlX13_200 imX13_isGood seX13_isGood (by rfl) (kd_lt (by rw [(by decide : kd 103 = 11)]; decide)) (ent_11 (by decide : kd 103 = 11)) rfl rfl ⟨by decide, by decide⟩ ⟨by decide, by decide⟩ rfl dX13_signed_8 rfl (Nat.le_of_ble_eq_true rfl) (cmX13_isGood zq) ?_
  refine g_if_eq h 22 (by decide) zf dX13_signed_11 ?_ ?_ <;> clear zf <;> intro zf
  · refine g_sub h [1, 2, 0] rfl ?_
    exact kX13_signed_b22 h zf
  · refine g_iload_n h 0 rfl dX13_signed_14 ?_
    refine g_if_eq h 22 (by decide) zf dX13_signed_15 ?_ ?_ <;> clear zf <;> intro zf
    · refine g_sub h [1, 2, 0] rfl ?_
      exact kX13_signed_b22 h zf
    · refine g_aload_n h 1 rfl dX13_signed_18 ?_
      have zf1 := bd_some zf
      clear zf; obtain ⟨Mq5, zq, zf⟩ := zf1
      refine g_callVwv (As := []) (rest := []) h ceX13_goes mlX13_204 imX13_goes seX13_goes (by rfl) (kd_lt (by rw [(by decide : kd 103 = 11)]; decide)) (ent_11 (by decide : kd 103 = 11)) rfl rfl ⟨by decide, by decide⟩ ⟨by decide, by decide⟩ rfl dX13_signed_19 rfl (Nat.le_of_ble_eq_true rfl) (cmX13_goes zq) ?_
      refine g_sub h [1, 2, 0] rfl ?_
      exact kX13_signed_b22 h zf

theorem cmX13_signed {l : Launch} {w : WX} {M : Mem} {x1 : Int32} {res : (Int32 × Mem)} (zf : fX13_signed M x1 = some res) : CM l w yX13_signed cX13_signed 4 (some .int) { frames := 3, cells := 0, slots := 0, locals := 65 } 0 0 [rv w 103, .int x1] M (Pwi res) := by
  refine CM_of (by decide) (Nat.le_of_ble_eq_true rfl) (fun G hw hl h => ?_)
  subst hw
  exact kX13_signed_e0 h zf

-- X13_readsDeed
theorem kX13_readsDeed_b14 {G : GX} (h : OKm G cX13_readsDeed RX13 1 none { frames := 4, cells := 0, slots := 0, locals := 88 }) {M : Mem} {res : Mem} (zf : fX13_readsDeed_b14 M = some res) : GG G (Qm G (Pwv res) 0 0) 0 0 14 [(0, rv G.1 103)] [] M := by
  unfold fX13_readsDeed_b14 at zf
  refine g_aload_n h 0 rfl dX13_readsDeed_14 ?_
  have zf1 := bd_some zf
  clear zf; obtain ⟨vq2, zq, zf⟩ := zf1
  refine g_callVri (As := []) (rest := []) h ceX13_isGood mlX13_200 imX13_isGood seX13_isGood (by rfl) (kd_lt (by rw [(by decide : kd 103 = 11)]; decide)) (ent_11 (by decide : kd 103 = 11)) rfl rfl ⟨by decide, by decide⟩ ⟨by decide, by decide⟩ rfl dX13_readsDeed_15 rfl (Nat.le_of_ble_eq_true rfl) (cmX13_isGood zq) ?_
  refine g_if_ne h 22 (by decide) zf dX13_readsDeed_18 ?_ ?_ <;> clear zf <;> intro zf
  · refine g_aload_n h 0 rfl dX13_readsDeed_22 ?_
    have zf1 := bd_some zf
    clear zf; obtain ⟨Mq3, zq, zf⟩ := zf1
    refine g_callVwv (As := []) (rest := []) h ceX13_goes mlX13_204 imX13_goes seX13_goes (by rfl) (kd_lt (by rw [(by decide : kd 103 = 11)]; decide)) (ent_11 (by decide : kd 103 = 11)) rfl rfl ⟨by decide, by decide⟩ ⟨by decide, by decide⟩ rfl dX13_readsDeed_23 rfl (Nat.le_of_ble_eq_true rfl) (cmX13_goes zq) ?_
    refine g_aload_n h 0 rfl dX13_readsDeed_26 ?_
    refine gfX13_62 h (by decide : kd 103 = 11) dX13_readsDeed_27 ?_
    refine g_aload_n h 0 rfl dX13_readsDeed_30 ?_
    refine gfX13_271 h (by decide : kd 103 = 11) dX13_readsDeed_31 ?_
    refine g_nmI zf ?_
    clear zf; intro vq4 zf
    refine g_aload_n h 0 rfl dX13_readsDeed_34 ?_
    refine g_iconst h 0 (v := 0) (by decide) dX13_readsDeed_35 ?_
    refine g_bipush h 99 (v := 99) (by decide) dX13_readsDeed_36 ?_
    have zf1 := b2_some zf
    clear zf; obtain ⟨vq5, Mq6, zq, zf⟩ := zf1
    refine g_callVwi (As := [.int 0, .int 99]) (rest := [.int vq4, rv G.1 118]) h ceX13_number mlX13_213 imX13_number seX13_number (by rfl) (kd_lt (by rw [(by decide : kd 103 = 11)]; decide)) (ent_11 (by decide : kd 103 = 11)) rfl rfl ⟨by decide, by decide⟩ ⟨by decide, by decide⟩ rfl dX13_readsDeed_38 rfl (Nat.le_of_ble_eq_true rfl) (cmX13_number zq) ?_
    refine g_iast h 7 (by decide : kd 118 = 20) (by decide) zf dX13_readsDeed_41 ?_
    clear zf; intro Mq7 zf
    refine g_aload_n h 0 rfl dX13_readsDeed_42 ?_
    refine gfX13_65 h (by decide : kd 103 = 11) dX13_readsDeed_43 ?_
    refine g_aload_n h 0 rfl dX13_readsDeed_46 ?_
    refine gfX13_271 h (by decide : kd 103 = 11) dX13_readsDeed_47 ?_
    refine g_nmI zf ?_
    clear zf; intro vq8 zf
    refine g_aload_n h 0 rfl dX13_readsDeed_50 ?_
    refine g_bipush h 20 (v := 20) (by decide) dX13_readsDeed_51 ?_
    have zf1 := b2_some zf
    clear zf; obtain ⟨vq9, Mq10, zq, zf⟩ := zf1
    refine g_callVwi (As := [.int 20]) (rest := [.int vq8, rv G.1 119]) h ceX13_signed mlX13_274 imX13_signed seX13_signed (by rfl) (kd_lt (by rw [(by decide : kd 103 = 11)]; decide)) (ent_11 (by decide : kd 103 = 11)) rfl rfl ⟨by decide, by decide⟩ ⟨by decide, by decide⟩ rfl dX13_readsDeed_53 rfl (Nat.le_of_ble_eq_true rfl) (cmX13_signed zq) ?_
    refine g_iast h 7 (by decide : kd 119 = 20) (by decide) zf dX13_readsDeed_56 ?_
    clear zf; intro Mq11 zf
    refine g_aload_n h 0 rfl dX13_readsDeed_57 ?_
    refine gfX13_68 h (by decide : kd 103 = 11) dX13_readsDeed_58 ?_
    refine g_aload_n h 0 rfl dX13_readsDeed_61 ?_
    refine gfX13_271 h (by decide : kd 103 = 11) dX13_readsDeed_62 ?_
    refine g_nmI zf ?_
    clear zf; intro vq12 zf
    refine g_aload_n h 0 rfl dX13_readsDeed_65 ?_
    refine g_bipush h 99 (v := 99) (by decide) dX13_readsDeed_66 ?_
    have zf1 := b2_some zf
    clear zf; obtain ⟨vq13, Mq14, zq, zf⟩ := zf1
    refine g_callVwi (As := [.int 99]) (rest := [.int vq12, rv G.1 120]) h ceX13_signed mlX13_274 imX13_signed seX13_signed (by rfl) (kd_lt (by rw [(by decide : kd 103 = 11)]; decide)) (ent_11 (by decide : kd 103 = 11)) rfl rfl ⟨by decide, by decide⟩ ⟨by decide, by decide⟩ rfl dX13_readsDeed_68 rfl (Nat.le_of_ble_eq_true rfl) (cmX13_signed zq) ?_
    refine g_iast h 7 (by decide : kd 120 = 20) (by decide) zf dX13_readsDeed_71 ?_
    clear zf; intro Mq15 zf
    refine g_aload_n h 0 rfl dX13_readsDeed_72 ?_
    refine gfX13_71 h (by decide : kd 103 = 11) dX13_readsDeed_73 ?_
    refine g_aload_n h 0 rfl dX13_readsDeed_76 ?_
    refine gfX13_271 h (by decide : kd 103 = 11) dX13_readsDeed_77 ?_
    refine g_nmI zf ?_
    clear zf; intro vq16 zf
    refine g_aload_n h 0 rfl dX13_readsDeed_80 ?_
    refine g_bipush h 20 (v := 20) (by decide) dX13_readsDeed_81 ?_
    have zf1 := b2_some zf
    clear zf; obtain ⟨vq17, Mq18, zq, zf⟩ := zf1
    refine g_callVwi (As := [.int 20]) (rest := [.int vq16, rv G.1 121]) h ceX13_signed mlX13_274 imX13_signed seX13_signed (by rfl) (kd_lt (by rw [(by decide : kd 103 = 11)]; decide)) (ent_11 (by decide : kd 103 = 11)) rfl rfl ⟨by decide, by decide⟩ ⟨by decide, by decide⟩ rfl dX13_readsDeed_83 rfl (Nat.le_of_ble_eq_true rfl) (cmX13_signed zq) ?_
    refine g_iast h 7 (by decide : kd 121 = 20) (by decide) zf dX13_readsDeed_86 ?_
    clear zf; intro Mq19 zf
    refine g_aload_n h 0 rfl dX13_readsDeed_87 ?_
    have zf1 := bd_some zf
    clear zf; obtain ⟨vq20, zq, zf⟩ := zf1
    refine g_callVri (As := []) (rest := []) h ceX13_isGood mlX13_200 imX13_isGood seX13_isGood (by rfl) (kd_lt (by rw [(by decide : kd 103 = 11)]; decide)) (ent_11 (by decide : kd 103 = 11)) rfl rfl ⟨by decide, by decide⟩ ⟨by decide, by decide⟩ rfl dX13_readsDeed_88 rfl (Nat.le_of_ble_eq_true rfl) (cmX13_isGood zq) ?_
    refine g_if_eq h 104 (by decide) zf dX13_readsDeed_91 ?_ ?_ <;> clear zf <;> intro zf
    · obtain rfl := Option.some.inj zf
      exact g_vret h rfl ⟨rfl, rfl⟩ (Nat.le_refl _) (Nat.le_refl _) dX13_readsDeed_104
    · refine g_aload_n h 0 rfl dX13_readsDeed_94 ?_
      refine g_dup h rfl dX13_readsDeed_95 ?_
      refine gfX13_271 h (by decide : kd 103 = 11) dX13_readsDeed_96 ?_
      refine g_nmI zf ?_
      clear zf; intro vq21 zf
      refine g_iconst h 1 (v := 1) (by decide) dX13_readsDeed_99 ?_
      refine g_iadd h dX13_readsDeed_100 ?_
      refine pfX13_271 h (by decide : kd 103 = 11) dX13_readsDeed_101 ?_
      refine g_nmM zf ?_
      clear zf; intro Mq22 zf
      obtain rfl := Option.some.inj zf
      exact g_vret h rfl ⟨rfl, rfl⟩ (Nat.le_refl _) (Nat.le_refl _) dX13_readsDeed_104
  · obtain rfl := Option.some.inj zf
    exact g_vret h rfl ⟨rfl, rfl⟩ (Nat.le_refl _) (Nat.le_refl _) dX13_readsDeed_21

theorem kX13_readsDeed_e0 {G : GX} (h : OKm G cX13_readsDeed RX13 1 none { frames := 4, cells := 0, slots := 0, locals := 88 }) {M : Mem} {res : Mem} (zf : fX13_readsDeed M = some res) : GG G (Qm G (Pwv res) 0 0) 0 0 0 [(0, rv G.1 103)] [] M := by
  unfold fX13_readsDeed at zf
  refine g_aload_n h 0 rfl dX13_readsDeed_0 ?_
  refine gfX13_271 h (by decide : kd 103 = 11) dX13_readsDeed_1 ?_
  refine g_nmI zf ?_
  clear zf; intro vq1 zf
  refine g_bipush h 7 (v := 7) (by decide) dX13_readsDeed_4 ?_
  refine g_ic_ne h 14 (by decide) zf dX13_readsDeed_6 ?_ ?_ <;> clear zf <;> intro zf
  · refine g_sub h [0] rfl ?_
    exact kX13_readsDeed_b14 h zf
  · refine g_aload_n h 0 rfl dX13_readsDeed_9 ?_
    refine g_iconst h 2 (v := 2) (by decide) dX13_readsDeed_10 ?_
    have zf1 := bd_some zf
    clear zf; obtain ⟨Mq23, zq, zf⟩ := zf1
    refine g_callVwv (As := [.int 2]) (rest := []) h ceX13_wrong mlX13_207 imX13_wrong seX13_wrong (by rfl) (kd_lt (by rw [(by decide : kd 103 = 11)]; decide)) (ent_11 (by decide : kd 103 = 11)) rfl rfl ⟨by decide, by decide⟩ ⟨by decide, by decide⟩ rfl dX13_readsDeed_11 rfl (Nat.le_of_ble_eq_true rfl) (cmX13_wrong zq) ?_
    refine g_sub h [0] rfl ?_
    exact kX13_readsDeed_b14 h zf

theorem cmX13_readsDeed {l : Launch} {w : WX} {M : Mem} {res : Mem} (zf : fX13_readsDeed M = some res) : CM l w yX13_readsDeed cX13_readsDeed 1 none { frames := 4, cells := 0, slots := 0, locals := 88 } 0 0 [rv w 103] M (Pwv res) := by
  refine CM_of (by decide) (Nat.le_of_ble_eq_true rfl) (fun G hw hl h => ?_)
  subst hw
  exact kX13_readsDeed_e0 h zf

-- X13_readsWay
theorem kX13_readsWay_b123 {G : GX} (h : OKm G cX13_readsWay RX13 4 none { frames := 3, cells := 0, slots := 0, locals := 64 }) {a28 : Mem → Int32 → Int32 → Option Mem} (zh28 : ∀ (M : Mem) (x1 : Int32) (x2 : Int32) (res : Mem), a28 M x1 x2 = some res → GG G (Qm G (Pwv res) 0 0) 0 0 28 [(0, rv G.1 103), (1, .int x1), (2, .int x2)] [] M) {M : Mem} {x1 : Int32} {s0 : Int32} {res : Mem} (zf : fX13_readsWay_b123 a28 M x1 s0 = some res) : GG G (Qm G (Pwv res) 0 0) 0 0 123 [(0, rv G.1 103), (1, .int x1)] [.int s0] M := by
  unfold fX13_readsWay_b123 at zf
  refine g_istore_n h rfl [(2, .int s0), (0, rv G.1 103), (1, .int x1)] (by decide) rfl dX13_readsWay_123 ?_
  refine g_goto h 28 (by decide) dX13_readsWay_124 ?_
  refine g_sub h [1, 2, 0] rfl ?_
  exact zh28 _ _ _ _ zf

theorem kX13_readsWay_b63 {G : GX} (h : OKm G cX13_readsWay RX13 4 none { frames := 3, cells := 0, slots := 0, locals := 64 }) {a28 : Mem → Int32 → Int32 → Option Mem} (zh28 : ∀ (M : Mem) (x1 : Int32) (x2 : Int32) (res : Mem), a28 M x1 x2 = some res → GG G (Qm G (Pwv res) 0 0) 0 0 28 [(0, rv G.1 103), (1, .int x1), (2, .int x2)] [] M) {M : Mem} {x1 : Int32} {res : Mem} (zf : fX13_readsWay_b63 a28 M x1 = some res) : GG G (Qm G (Pwv res) 0 0) 0 0 63 [(0, rv G.1 103), (1, .int x1)] [] M := by
  unfold fX13_readsWay_b63 at zf
  refine g_aload_n h 0 rfl dX13_readsWay_63 ?_
  refine g_aload_n h 0 rfl dX13_readsWay_64 ?_
  refine gfX13_271 h (by decide : kd 103 = 11) dX13_readsWay_65 ?_
  refine g_nmI zf ?_
  clear zf; intro vq6 zf
  have zf1 := b2_some zf
  clear zf; obtain ⟨vq7, Mq8, zq, zf⟩ := zf1
  refine g_callVwi (As := [.int vq6]) (rest := []) h ceX13_among mlX13_277 imX13_among seX13_among (by rfl) (kd_lt (by rw [(by decide : kd 103 = 11)]; decide)) (ent_11 (by decide : kd 103 = 11)) rfl rfl ⟨by decide, by decide⟩ ⟨by decide, by decide⟩ rfl dX13_readsWay_68 rfl (Nat.le_of_ble_eq_true rfl) (cmX13_among zq) ?_
  refine g_istore_n h rfl [(3, .int vq7), (0, rv G.1 103), (1, .int x1)] (by decide) rfl dX13_readsWay_71 ?_
  refine g_aload_n h 1 rfl dX13_readsWay_72 ?_
  have zf1 := bd_some zf
  clear zf; obtain ⟨vq9, zq, zf⟩ := zf1
  refine g_callVri (As := []) (rest := []) h ceX13_isGood mlX13_200 imX13_isGood seX13_isGood (by rfl) (kd_lt (by rw [(by decide : kd 103 = 11)]; decide)) (ent_11 (by decide : kd 103 = 11)) rfl rfl ⟨by decide, by decide⟩ ⟨by decide, by decide⟩ rfl dX13_readsWay_73 rfl (Nat.le_of_ble_eq_true rfl) (cmX13_isGood zq) ?_
  refine g_if_ne h 80 (by decide) zf dX13_readsWay_76 ?_ ?_ <;> clear zf <;> intro zf
  · refine g_aload_n h 1 rfl dX13_readsWay_80 ?_
    refine gfX13_95 h (by decide : kd 103 = 11) dX13_readsWay_81 ?_
    refine g_bipush h 13 (v := 13) (by decide) dX13_readsWay_84 ?_
    refine g_bipush h 6 (v := 6) (by decide) dX13_readsWay_86 ?_
    refine g_iload_n h 2 rfl dX13_readsWay_88 ?_
    refine g_imul h dX13_readsWay_89 ?_
    refine g_iadd h dX13_readsWay_90 ?_
    refine g_aload_n h 1 rfl dX13_readsWay_91 ?_
    refine gfX13_74 h (by decide : kd 103 = 11) dX13_readsWay_92 ?_
    refine g_iload_n h 2 rfl dX13_readsWay_95 ?_
    refine g_iald h 2 (by decide : kd 122 = 20) (by decide) zf dX13_readsWay_96 ?_
    clear zf; intro vq10 zf
    refine g_iadd h dX13_readsWay_97 ?_
    refine g_iload_n h 0 rfl dX13_readsWay_98 ?_
    refine g_iast h 31 (by decide : kd 129 = 20) (by decide) zf dX13_readsWay_99 ?_
    clear zf; intro Mq11 zf
    refine g_aload_n h 1 rfl dX13_readsWay_100 ?_
    refine gfX13_74 h (by decide : kd 103 = 11) dX13_readsWay_101 ?_
    refine g_iload_n h 2 rfl dX13_readsWay_104 ?_
    refine g_dup2 h rfl rfl dX13_readsWay_105 ?_
    refine g_iald h 2 (by decide : kd 122 = 20) (by decide) zf dX13_readsWay_106 ?_
    clear zf; intro vq12 zf
    refine g_iconst h 1 (v := 1) (by decide) dX13_readsWay_107 ?_
    refine g_iadd h dX13_readsWay_108 ?_
    refine g_iast h 2 (by decide : kd 122 = 20) (by decide) zf dX13_readsWay_109 ?_
    clear zf; intro Mq13 zf
    refine g_aload_n h 1 rfl dX13_readsWay_110 ?_
    refine gfX13_174 h (by decide : kd 103 = 11) dX13_readsWay_111 ?_
    refine g_nmI zf ?_
    clear zf; intro vq14 zf
    refine g_iconst h 2 (v := 2) (by decide) dX13_readsWay_114 ?_
    refine g_ic_ne h 122 (by decide) zf dX13_readsWay_115 ?_ ?_ <;> clear zf <;> intro zf
    · refine g_iconst h 0 (v := 0) (by decide) dX13_readsWay_122 ?_
      refine g_sub h [1, 2] rfl ?_
      exact kX13_readsWay_b123 h zh28 zf
    · refine g_iconst h 1 (v := 1) (by decide) dX13_readsWay_118 ?_
      refine g_goto h 123 (by decide) dX13_readsWay_119 ?_
      refine g_sub h [1, 2] rfl ?_
      exact kX13_readsWay_b123 h zh28 zf
  · obtain rfl := Option.some.inj zf
    exact g_vret h rfl ⟨rfl, rfl⟩ (Nat.le_refl _) (Nat.le_refl _) dX13_readsWay_79

theorem kX13_readsWay_l28 {G : GX} (h : OKm G cX13_readsWay RX13 4 none { frames := 3, cells := 0, slots := 0, locals := 64 }) : ∀ (n : Nat) (M : Mem) (x1 : Int32) (x2 : Int32) (res : Mem), fX13_readsWay_l28 n M x1 x2 = some res → GG G (Qm G (Pwv res) 0 0) 0 0 28 [(0, rv G.1 103), (1, .int x1), (2, .int x2)] [] M := by
  intro n
  induction n with
  | zero => intro M x1 x2 res zf; rw [fX13_readsWay_l28] at zf; cases zf
  | succ n ih =>
    intro M x1 x2 res zf
    rw [fX13_readsWay_l28] at zf
    refine g_iload_n h 2 rfl dX13_readsWay_28 ?_
    refine g_if_eq h 127 (by decide) zf dX13_readsWay_29 ?_ ?_ <;> clear zf <;> intro zf
    · obtain rfl := Option.some.inj zf
      exact g_vret h rfl ⟨rfl, rfl⟩ (Nat.le_refl _) (Nat.le_refl _) dX13_readsWay_127
    · refine g_aload_n h 0 rfl dX13_readsWay_32 ?_
      have zf1 := bd_some zf
      clear zf; obtain ⟨vq4, zq, zf⟩ := zf1
      refine g_callVri (As := []) (rest := []) h ceX13_isGood mlX13_200 imX13_isGood seX13_isGood (by rfl) (kd_lt (by rw [(by decide : kd 103 = 11)]; decide)) (ent_11 (by decide : kd 103 = 11)) rfl rfl ⟨by decide, by decide⟩ ⟨by decide, by decide⟩ rfl dX13_readsWay_33 rfl (Nat.le_of_ble_eq_true rfl) (cmX13_isGood zq) ?_
      refine g_if_eq h 127 (by decide) zf dX13_readsWay_36 ?_ ?_ <;> clear zf <;> intro zf
      · obtain rfl := Option.some.inj zf
        exact g_vret h rfl ⟨rfl, rfl⟩ (Nat.le_refl _) (Nat.le_refl _) dX13_readsWay_127
      · refine g_aload_n h 0 rfl dX13_readsWay_39 ?_
        refine gfX13_74 h (by decide : kd 103 = 11) dX13_readsWay_40 ?_
        refine g_iload_n h 1 rfl dX13_readsWay_43 ?_
        refine g_iald h 2 (by decide : kd 122 = 20) (by decide) zf dX13_readsWay_44 ?_
        clear zf; intro vq5 zf
        refine g_bipush h 6 (v := 6) (by decide) dX13_readsWay_45 ?_
        refine g_ic_ne h 63 (by decide) zf dX13_readsWay_47 ?_ ?_ <;> clear zf <;> intro zf
        · refine g_sub h [0, 1] rfl ?_
          exact kX13_readsWay_b63 h ih zf
        · refine g_aload_n h 0 rfl dX13_readsWay_50 ?_
          refine gfX13_174 h (by decide : kd 103 = 11) dX13_readsWay_51 ?_
          refine g_nmI zf ?_
          clear zf; intro vq15 zf
          refine g_iconst h 2 (v := 2) (by decide) dX13_readsWay_54 ?_
          refine g_ic_ne h 63 (by decide) zf dX13_readsWay_55 ?_ ?_ <;> clear zf <;> intro zf
          · refine g_sub h [0, 1] rfl ?_
            exact kX13_readsWay_b63 h ih zf
          · refine g_aload_n h 0 rfl dX13_readsWay_58 ?_
            refine g_iconst h 2 (v := 2) (by decide) dX13_readsWay_59 ?_
            have zf1 := bd_some zf
            clear zf; obtain ⟨Mq16, zq, zf⟩ := zf1
            refine g_callVwv (As := [.int 2]) (rest := []) h ceX13_wrong mlX13_207 imX13_wrong seX13_wrong (by rfl) (kd_lt (by rw [(by decide : kd 103 = 11)]; decide)) (ent_11 (by decide : kd 103 = 11)) rfl rfl ⟨by decide, by decide⟩ ⟨by decide, by decide⟩ rfl dX13_readsWay_60 rfl (Nat.le_of_ble_eq_true rfl) (cmX13_wrong zq) ?_
            refine g_sub h [0, 1] rfl ?_
            exact kX13_readsWay_b63 h ih zf

theorem kX13_readsWay_b14 {G : GX} (h : OKm G cX13_readsWay RX13 4 none { frames := 3, cells := 0, slots := 0, locals := 64 }) {M : Mem} {x1 : Int32} {res : Mem} (zf : fX13_readsWay_b14 M x1 = some res) : GG G (Qm G (Pwv res) 0 0) 0 0 14 [(0, rv G.1 103), (1, .int x1)] [] M := by
  unfold fX13_readsWay_b14 at zf
  refine g_aload_n h 0 rfl dX13_readsWay_14 ?_
  have zf1 := bd_some zf
  clear zf; obtain ⟨vq2, zq, zf⟩ := zf1
  refine g_callVri (As := []) (rest := []) h ceX13_isGood mlX13_200 imX13_isGood seX13_isGood (by rfl) (kd_lt (by rw [(by decide : kd 103 = 11)]; decide)) (ent_11 (by decide : kd 103 = 11)) rfl rfl ⟨by decide, by decide⟩ ⟨by decide, by decide⟩ rfl dX13_readsWay_15 rfl (Nat.le_of_ble_eq_true rfl) (cmX13_isGood zq) ?_
  refine g_if_ne h 22 (by decide) zf dX13_readsWay_18 ?_ ?_ <;> clear zf <;> intro zf
  · refine g_aload_n h 0 rfl dX13_readsWay_22 ?_
    have zf1 := bd_some zf
    clear zf; obtain ⟨Mq3, zq, zf⟩ := zf1
    refine g_callVwv (As := []) (rest := []) h ceX13_goes mlX13_204 imX13_goes seX13_goes (by rfl) (kd_lt (by rw [(by decide : kd 103 = 11)]; decide)) (ent_11 (by decide : kd 103 = 11)) rfl rfl ⟨by decide, by decide⟩ ⟨by decide, by decide⟩ rfl dX13_readsWay_23 rfl (Nat.le_of_ble_eq_true rfl) (cmX13_goes zq) ?_
    refine g_iconst h 1 (v := 1) (by decide) dX13_readsWay_26 ?_
    refine g_istore_n h rfl [(2, .int 1), (0, rv G.1 103), (1, .int x1)] (by decide) rfl dX13_readsWay_27 ?_
    refine g_sub h [1, 2, 0] rfl ?_
    exact kX13_readsWay_l28 h _ _ _ _ _ zf
  · obtain rfl := Option.some.inj zf
    exact g_vret h rfl ⟨rfl, rfl⟩ (Nat.le_refl _) (Nat.le_refl _) dX13_readsWay_21

theorem kX13_readsWay_e0 {G : GX} (h : OKm G cX13_readsWay RX13 4 none { frames := 3, cells := 0, slots := 0, locals := 64 }) {M : Mem} {x1 : Int32} {res : Mem} (zf : fX13_readsWay M x1 = some res) : GG G (Qm G (Pwv res) 0 0) 0 0 0 [(0, rv G.1 103), (1, .int x1)] [] M := by
  unfold fX13_readsWay at zf
  refine g_aload_n h 0 rfl dX13_readsWay_0 ?_
  refine gfX13_74 h (by decide : kd 103 = 11) dX13_readsWay_1 ?_
  refine g_iload_n h 1 rfl dX13_readsWay_4 ?_
  refine g_iald h 2 (by decide : kd 122 = 20) (by decide) zf dX13_readsWay_5 ?_
  clear zf; intro vq1 zf
  refine g_if_le h 14 (by decide) zf dX13_readsWay_6 ?_ ?_ <;> clear zf <;> intro zf
  · refine g_sub h [0, 1] rfl ?_
    exact kX13_readsWay_b14 h zf
  · refine g_aload_n h 0 rfl dX13_readsWay_9 ?_
    refine g_iconst h 5 (v := 5) (by decide) dX13_readsWay_10 ?_
    have zf1 := bd_some zf
    clear zf; obtain ⟨Mq17, zq, zf⟩ := zf1
    refine g_callVwv (As := [.int 5]) (rest := []) h ceX13_wrong mlX13_207 imX13_wrong seX13_wrong (by rfl) (kd_lt (by rw [(by decide : kd 103 = 11)]; decide)) (ent_11 (by decide : kd 103 = 11)) rfl rfl ⟨by decide, by decide⟩ ⟨by decide, by decide⟩ rfl dX13_readsWay_11 rfl (Nat.le_of_ble_eq_true rfl) (cmX13_wrong zq) ?_
    refine g_sub h [0, 1] rfl ?_
    exact kX13_readsWay_b14 h zf

theorem cmX13_readsWay {l : Launch} {w : WX} {M : Mem} {x1 : Int32} {res : Mem} (zf : fX13_readsWay M x1 = some res) : CM l w yX13_readsWay cX13_readsWay 4 none { frames := 3, cells := 0, slots := 0, locals := 64 } 0 0 [rv w 103, .int x1] M (Pwv res) := by
  refine CM_of (by decide) (Nat.le_of_ble_eq_true rfl) (fun G hw hl h => ?_)
  subst hw
  exact kX13_readsWay_e0 h zf

-- X13_readsHarvests
theorem kX13_readsHarvests_b108 {G : GX} (h : OKm G cX13_readsHarvests RX13 3 none { frames := 3, cells := 0, slots := 0, locals := 65 }) {a26 : Mem → Int32 → Option Mem} (zh26 : ∀ (M : Mem) (x1 : Int32) (res : Mem), a26 M x1 = some res → GG G (Qm G (Pwv res) 0 0) 0 0 26 [(0, rv G.1 103), (1, .int x1)] [] M) {M : Mem} {s0 : Int32} {res : Mem} (zf : fX13_readsHarvests_b108 a26 M s0 = some res) : GG G (Qm G (Pwv res) 0 0) 0 0 108 [(0, rv G.1 103)] [.int s0] M := by
  unfold fX13_readsHarvests_b108 at zf
  refine g_istore_n h rfl [(1, .int s0), (0, rv G.1 103)] (by decide) rfl dX13_readsHarvests_108 ?_
  refine g_goto h 26 (by decide) dX13_readsHarvests_109 ?_
  refine g_sub h [1, 0] rfl ?_
  exact zh26 _ _ _ zf

theorem kX13_readsHarvests_b59 {G : GX} (h : OKm G cX13_readsHarvests RX13 3 none { frames := 3, cells := 0, slots := 0, locals := 65 }) {a26 : Mem → Int32 → Option Mem} (zh26 : ∀ (M : Mem) (x1 : Int32) (res : Mem), a26 M x1 = some res → GG G (Qm G (Pwv res) 0 0) 0 0 26 [(0, rv G.1 103), (1, .int x1)] [] M) {M : Mem} {res : Mem} (zf : fX13_readsHarvests_b59 a26 M = some res) : GG G (Qm G (Pwv res) 0 0) 0 0 59 [(0, rv G.1 103)] [] M := by
  unfold fX13_readsHarvests_b59 at zf
  refine g_aload_n h 0 rfl dX13_readsHarvests_59 ?_
  refine g_iconst h 0 (v := 0) (by decide) dX13_readsHarvests_60 ?_
  refine g_bipush h 99 (v := 99) (by decide) dX13_readsHarvests_61 ?_
  have zf1 := b2_some zf
  clear zf; obtain ⟨vq6, Mq7, zq, zf⟩ := zf1
  refine g_callVwi (As := [.int 0, .int 99]) (rest := []) h ceX13_number mlX13_213 imX13_number seX13_number (by rfl) (kd_lt (by rw [(by decide : kd 103 = 11)]; decide)) (ent_11 (by decide : kd 103 = 11)) rfl rfl ⟨by decide, by decide⟩ ⟨by decide, by decide⟩ rfl dX13_readsHarvests_63 rfl (Nat.le_of_ble_eq_true rfl) (cmX13_number zq) ?_
  refine g_istore_n h rfl [(2, .int vq6), (0, rv G.1 103)] (by decide) rfl dX13_readsHarvests_66 ?_
  refine g_aload_n h 1 rfl dX13_readsHarvests_67 ?_
  have zf1 := bd_some zf
  clear zf; obtain ⟨vq8, zq, zf⟩ := zf1
  refine g_callVri (As := []) (rest := []) h ceX13_isGood mlX13_200 imX13_isGood seX13_isGood (by rfl) (kd_lt (by rw [(by decide : kd 103 = 11)]; decide)) (ent_11 (by decide : kd 103 = 11)) rfl rfl ⟨by decide, by decide⟩ ⟨by decide, by decide⟩ rfl dX13_readsHarvests_68 rfl (Nat.le_of_ble_eq_true rfl) (cmX13_isGood zq) ?_
  refine g_if_ne h 75 (by decide) zf dX13_readsHarvests_71 ?_ ?_ <;> clear zf <;> intro zf
  · refine g_aload_n h 1 rfl dX13_readsHarvests_75 ?_
    refine gfX13_77 h (by decide : kd 103 = 11) dX13_readsHarvests_76 ?_
    refine g_aload_n h 1 rfl dX13_readsHarvests_79 ?_
    refine gfX13_280 h (by decide : kd 103 = 11) dX13_readsHarvests_80 ?_
    refine g_nmI zf ?_
    clear zf; intro vq9 zf
    refine g_iload_n h 0 rfl dX13_readsHarvests_83 ?_
    refine g_iast h 10 (by decide : kd 123 = 20) (by decide) zf dX13_readsHarvests_84 ?_
    clear zf; intro Mq10 zf
    refine g_aload_n h 1 rfl dX13_readsHarvests_85 ?_
    refine g_dup h rfl dX13_readsHarvests_86 ?_
    refine gfX13_280 h (by decide : kd 103 = 11) dX13_readsHarvests_87 ?_
    refine g_nmI zf ?_
    clear zf; intro vq11 zf
    refine g_iconst h 1 (v := 1) (by decide) dX13_readsHarvests_90 ?_
    refine g_iadd h dX13_readsHarvests_91 ?_
    refine pfX13_280 h (by decide : kd 103 = 11) dX13_readsHarvests_92 ?_
    refine g_nmM zf ?_
    clear zf; intro Mq12 zf
    refine g_aload_n h 1 rfl dX13_readsHarvests_95 ?_
    refine gfX13_174 h (by decide : kd 103 = 11) dX13_readsHarvests_96 ?_
    refine g_nmI zf ?_
    clear zf; intro vq13 zf
    refine g_iconst h 2 (v := 2) (by decide) dX13_readsHarvests_99 ?_
    refine g_ic_ne h 107 (by decide) zf dX13_readsHarvests_100 ?_ ?_ <;> clear zf <;> intro zf
    · refine g_iconst h 0 (v := 0) (by decide) dX13_readsHarvests_107 ?_
      refine g_sub h [1] rfl ?_
      exact kX13_readsHarvests_b108 h zh26 zf
    · refine g_iconst h 1 (v := 1) (by decide) dX13_readsHarvests_103 ?_
      refine g_goto h 108 (by decide) dX13_readsHarvests_104 ?_
      refine g_sub h [1] rfl ?_
      exact kX13_readsHarvests_b108 h zh26 zf
  · obtain rfl := Option.some.inj zf
    exact g_vret h rfl ⟨rfl, rfl⟩ (Nat.le_refl _) (Nat.le_refl _) dX13_readsHarvests_74

theorem kX13_readsHarvests_l26 {G : GX} (h : OKm G cX13_readsHarvests RX13 3 none { frames := 3, cells := 0, slots := 0, locals := 65 }) : ∀ (n : Nat) (M : Mem) (x1 : Int32) (res : Mem), fX13_readsHarvests_l26 n M x1 = some res → GG G (Qm G (Pwv res) 0 0) 0 0 26 [(0, rv G.1 103), (1, .int x1)] [] M := by
  intro n
  induction n with
  | zero => intro M x1 res zf; rw [fX13_readsHarvests_l26] at zf; cases zf
  | succ n ih =>
    intro M x1 res zf
    rw [fX13_readsHarvests_l26] at zf
    refine g_iload_n h 1 rfl dX13_readsHarvests_26 ?_
    refine g_if_eq h 112 (by decide) zf dX13_readsHarvests_27 ?_ ?_ <;> clear zf <;> intro zf
    · obtain rfl := Option.some.inj zf
      exact g_vret h rfl ⟨rfl, rfl⟩ (Nat.le_refl _) (Nat.le_refl _) dX13_readsHarvests_112
    · refine g_aload_n h 0 rfl dX13_readsHarvests_30 ?_
      have zf1 := bd_some zf
      clear zf; obtain ⟨vq4, zq, zf⟩ := zf1
      refine g_callVri (As := []) (rest := []) h ceX13_isGood mlX13_200 imX13_isGood seX13_isGood (by rfl) (kd_lt (by rw [(by decide : kd 103 = 11)]; decide)) (ent_11 (by decide : kd 103 = 11)) rfl rfl ⟨by decide, by decide⟩ ⟨by decide, by decide⟩ rfl dX13_readsHarvests_31 rfl (Nat.le_of_ble_eq_true rfl) (cmX13_isGood zq) ?_
      refine g_if_eq h 112 (by decide) zf dX13_readsHarvests_34 ?_ ?_ <;> clear zf <;> intro zf
      · obtain rfl := Option.some.inj zf
        exact g_vret h rfl ⟨rfl, rfl⟩ (Nat.le_refl _) (Nat.le_refl _) dX13_readsHarvests_112
      · refine g_aload_n h 0 rfl dX13_readsHarvests_37 ?_
        refine gfX13_280 h (by decide : kd 103 = 11) dX13_readsHarvests_38 ?_
        refine g_nmI zf ?_
        clear zf; intro vq5 zf
        refine g_bipush h 10 (v := 10) (by decide) dX13_readsHarvests_41 ?_
        refine g_ic_ne h 59 (by decide) zf dX13_readsHarvests_43 ?_ ?_ <;> clear zf <;> intro zf
        · refine g_sub h [0] rfl ?_
          exact kX13_readsHarvests_b59 h ih zf
        · refine g_aload_n h 0 rfl dX13_readsHarvests_46 ?_
          refine gfX13_174 h (by decide : kd 103 = 11) dX13_readsHarvests_47 ?_
          refine g_nmI zf ?_
          clear zf; intro vq14 zf
          refine g_iconst h 2 (v := 2) (by decide) dX13_readsHarvests_50 ?_
          refine g_ic_ne h 59 (by decide) zf dX13_readsHarvests_51 ?_ ?_ <;> clear zf <;> intro zf
          · refine g_sub h [0] rfl ?_
            exact kX13_readsHarvests_b59 h ih zf
          · refine g_aload_n h 0 rfl dX13_readsHarvests_54 ?_
            refine g_iconst h 2 (v := 2) (by decide) dX13_readsHarvests_55 ?_
            have zf1 := bd_some zf
            clear zf; obtain ⟨Mq15, zq, zf⟩ := zf1
            refine g_callVwv (As := [.int 2]) (rest := []) h ceX13_wrong mlX13_207 imX13_wrong seX13_wrong (by rfl) (kd_lt (by rw [(by decide : kd 103 = 11)]; decide)) (ent_11 (by decide : kd 103 = 11)) rfl rfl ⟨by decide, by decide⟩ ⟨by decide, by decide⟩ rfl dX13_readsHarvests_56 rfl (Nat.le_of_ble_eq_true rfl) (cmX13_wrong zq) ?_
            refine g_sub h [0] rfl ?_
            exact kX13_readsHarvests_b59 h ih zf

theorem kX13_readsHarvests_b12 {G : GX} (h : OKm G cX13_readsHarvests RX13 3 none { frames := 3, cells := 0, slots := 0, locals := 65 }) {M : Mem} {res : Mem} (zf : fX13_readsHarvests_b12 M = some res) : GG G (Qm G (Pwv res) 0 0) 0 0 12 [(0, rv G.1 103)] [] M := by
  unfold fX13_readsHarvests_b12 at zf
  refine g_aload_n h 0 rfl dX13_readsHarvests_12 ?_
  have zf1 := bd_some zf
  clear zf; obtain ⟨vq2, zq, zf⟩ := zf1
  refine g_callVri (As := []) (rest := []) h ceX13_isGood mlX13_200 imX13_isGood seX13_isGood (by rfl) (kd_lt (by rw [(by decide : kd 103 = 11)]; decide)) (ent_11 (by decide : kd 103 = 11)) rfl rfl ⟨by decide, by decide⟩ ⟨by decide, by decide⟩ rfl dX13_readsHarvests_13 rfl (Nat.le_of_ble_eq_true rfl) (cmX13_isGood zq) ?_
  refine g_if_ne h 20 (by decide) zf dX13_readsHarvests_16 ?_ ?_ <;> clear zf <;> intro zf
  · refine g_aload_n h 0 rfl dX13_readsHarvests_20 ?_
    have zf1 := bd_some zf
    clear zf; obtain ⟨Mq3, zq, zf⟩ := zf1
    refine g_callVwv (As := []) (rest := []) h ceX13_goes mlX13_204 imX13_goes seX13_goes (by rfl) (kd_lt (by rw [(by decide : kd 103 = 11)]; decide)) (ent_11 (by decide : kd 103 = 11)) rfl rfl ⟨by decide, by decide⟩ ⟨by decide, by decide⟩ rfl dX13_readsHarvests_21 rfl (Nat.le_of_ble_eq_true rfl) (cmX13_goes zq) ?_
    refine g_iconst h 1 (v := 1) (by decide) dX13_readsHarvests_24 ?_
    refine g_istore_n h rfl [(1, .int 1), (0, rv G.1 103)] (by decide) rfl dX13_readsHarvests_25 ?_
    refine g_sub h [1, 0] rfl ?_
    exact kX13_readsHarvests_l26 h _ _ _ _ zf
  · obtain rfl := Option.some.inj zf
    exact g_vret h rfl ⟨rfl, rfl⟩ (Nat.le_refl _) (Nat.le_refl _) dX13_readsHarvests_19

theorem kX13_readsHarvests_e0 {G : GX} (h : OKm G cX13_readsHarvests RX13 3 none { frames := 3, cells := 0, slots := 0, locals := 65 }) {M : Mem} {res : Mem} (zf : fX13_readsHarvests M = some res) : GG G (Qm G (Pwv res) 0 0) 0 0 0 [(0, rv G.1 103)] [] M := by
  unfold fX13_readsHarvests at zf
  refine g_aload_n h 0 rfl dX13_readsHarvests_0 ?_
  refine gfX13_280 h (by decide : kd 103 = 11) dX13_readsHarvests_1 ?_
  refine g_nmI zf ?_
  clear zf; intro vq1 zf
  refine g_if_le h 12 (by decide) zf dX13_readsHarvests_4 ?_ ?_ <;> clear zf <;> intro zf
  · refine g_sub h [0] rfl ?_
    exact kX13_readsHarvests_b12 h zf
  · refine g_aload_n h 0 rfl dX13_readsHarvests_7 ?_
    refine g_iconst h 5 (v := 5) (by decide) dX13_readsHarvests_8 ?_
    have zf1 := bd_some zf
    clear zf; obtain ⟨Mq16, zq, zf⟩ := zf1
    refine g_callVwv (As := [.int 5]) (rest := []) h ceX13_wrong mlX13_207 imX13_wrong seX13_wrong (by rfl) (kd_lt (by rw [(by decide : kd 103 = 11)]; decide)) (ent_11 (by decide : kd 103 = 11)) rfl rfl ⟨by decide, by decide⟩ ⟨by decide, by decide⟩ rfl dX13_readsHarvests_9 rfl (Nat.le_of_ble_eq_true rfl) (cmX13_wrong zq) ?_
    refine g_sub h [0] rfl ?_
    exact kX13_readsHarvests_b12 h zf

theorem cmX13_readsHarvests {l : Launch} {w : WX} {M : Mem} {res : Mem} (zf : fX13_readsHarvests M = some res) : CM l w yX13_readsHarvests cX13_readsHarvests 3 none { frames := 3, cells := 0, slots := 0, locals := 65 } 0 0 [rv w 103] M (Pwv res) := by
  refine CM_of (by decide) (Nat.le_of_ble_eq_true rfl) (fun G hw hl h => ?_)
  subst hw
  exact kX13_readsHarvests_e0 h zf

-- X13_readsFriend
theorem kX13_readsFriend_b14 {G : GX} (h : OKm G cX13_readsFriend RX13 1 none { frames := 4, cells := 0, slots := 0, locals := 88 }) {M : Mem} {res : Mem} (zf : fX13_readsFriend_b14 M = some res) : GG G (Qm G (Pwv res) 0 0) 0 0 14 [(0, rv G.1 103)] [] M := by
  unfold fX13_readsFriend_b14 at zf
  refine g_aload_n h 0 rfl dX13_readsFriend_14 ?_
  have zf1 := bd_some zf
  clear zf; obtain ⟨vq2, zq, zf⟩ := zf1
  refine g_callVri (As := []) (rest := []) h ceX13_isGood mlX13_200 imX13_isGood seX13_isGood (by rfl) (kd_lt (by rw [(by decide : kd 103 = 11)]; decide)) (ent_11 (by decide : kd 103 = 11)) rfl rfl ⟨by decide, by decide⟩ ⟨by decide, by decide⟩ rfl dX13_readsFriend_15 rfl (Nat.le_of_ble_eq_true rfl) (cmX13_isGood zq) ?_
  refine g_if_ne h 22 (by decide) zf dX13_readsFriend_18 ?_ ?_ <;> clear zf <;> intro zf
  · refine g_aload_n h 0 rfl dX13_readsFriend_22 ?_
    have zf1 := bd_some zf
    clear zf; obtain ⟨Mq3, zq, zf⟩ := zf1
    refine g_callVwv (As := []) (rest := []) h ceX13_goes mlX13_204 imX13_goes seX13_goes (by rfl) (kd_lt (by rw [(by decide : kd 103 = 11)]; decide)) (ent_11 (by decide : kd 103 = 11)) rfl rfl ⟨by decide, by decide⟩ ⟨by decide, by decide⟩ rfl dX13_readsFriend_23 rfl (Nat.le_of_ble_eq_true rfl) (cmX13_goes zq) ?_
    refine g_aload_n h 0 rfl dX13_readsFriend_26 ?_
    refine gfX13_95 h (by decide : kd 103 = 11) dX13_readsFriend_27 ?_
    refine g_bipush h 25 (v := 25) (by decide) dX13_readsFriend_30 ?_
    refine g_aload_n h 0 rfl dX13_readsFriend_32 ?_
    refine gfX13_283 h (by decide : kd 103 = 11) dX13_readsFriend_33 ?_
    refine g_nmI zf ?_
    clear zf; intro vq4 zf
    refine g_iadd h dX13_readsFriend_36 ?_
    refine g_aload_n h 0 rfl dX13_readsFriend_37 ?_
    refine g_bipush h 9 (v := 9) (by decide) dX13_readsFriend_38 ?_
    have zf1 := b2_some zf
    clear zf; obtain ⟨vq5, Mq6, zq, zf⟩ := zf1
    refine g_callVwi (As := [.int 9]) (rest := [.int (25 + vq4), rv G.1 129]) h ceX13_signed mlX13_274 imX13_signed seX13_signed (by rfl) (kd_lt (by rw [(by decide : kd 103 = 11)]; decide)) (ent_11 (by decide : kd 103 = 11)) rfl rfl ⟨by decide, by decide⟩ ⟨by decide, by decide⟩ rfl dX13_readsFriend_40 rfl (Nat.le_of_ble_eq_true rfl) (cmX13_signed zq) ?_
    refine g_iast h 31 (by decide : kd 129 = 20) (by decide) zf dX13_readsFriend_43 ?_
    clear zf; intro Mq7 zf
    refine g_aload_n h 0 rfl dX13_readsFriend_44 ?_
    refine gfX13_80 h (by decide : kd 103 = 11) dX13_readsFriend_45 ?_
    refine g_aload_n h 0 rfl dX13_readsFriend_48 ?_
    refine gfX13_283 h (by decide : kd 103 = 11) dX13_readsFriend_49 ?_
    refine g_nmI zf ?_
    clear zf; intro vq8 zf
    refine g_aload_n h 0 rfl dX13_readsFriend_52 ?_
    refine g_iconst h 0 (v := 0) (by decide) dX13_readsFriend_53 ?_
    refine g_bipush h 9 (v := 9) (by decide) dX13_readsFriend_54 ?_
    have zf1 := b2_some zf
    clear zf; obtain ⟨vq9, Mq10, zq, zf⟩ := zf1
    refine g_callVwi (As := [.int 0, .int 9]) (rest := [.int vq8, rv G.1 124]) h ceX13_number mlX13_213 imX13_number seX13_number (by rfl) (kd_lt (by rw [(by decide : kd 103 = 11)]; decide)) (ent_11 (by decide : kd 103 = 11)) rfl rfl ⟨by decide, by decide⟩ ⟨by decide, by decide⟩ rfl dX13_readsFriend_56 rfl (Nat.le_of_ble_eq_true rfl) (cmX13_number zq) ?_
    refine g_iast h 6 (by decide : kd 124 = 20) (by decide) zf dX13_readsFriend_59 ?_
    clear zf; intro Mq11 zf
    refine g_aload_n h 0 rfl dX13_readsFriend_60 ?_
    have zf1 := bd_some zf
    clear zf; obtain ⟨vq12, zq, zf⟩ := zf1
    refine g_callVri (As := []) (rest := []) h ceX13_isGood mlX13_200 imX13_isGood seX13_isGood (by rfl) (kd_lt (by rw [(by decide : kd 103 = 11)]; decide)) (ent_11 (by decide : kd 103 = 11)) rfl rfl ⟨by decide, by decide⟩ ⟨by decide, by decide⟩ rfl dX13_readsFriend_61 rfl (Nat.le_of_ble_eq_true rfl) (cmX13_isGood zq) ?_
    refine g_if_eq h 77 (by decide) zf dX13_readsFriend_64 ?_ ?_ <;> clear zf <;> intro zf
    · obtain rfl := Option.some.inj zf
      exact g_vret h rfl ⟨rfl, rfl⟩ (Nat.le_refl _) (Nat.le_refl _) dX13_readsFriend_77
    · refine g_aload_n h 0 rfl dX13_readsFriend_67 ?_
      refine g_dup h rfl dX13_readsFriend_68 ?_
      refine gfX13_283 h (by decide : kd 103 = 11) dX13_readsFriend_69 ?_
      refine g_nmI zf ?_
      clear zf; intro vq13 zf
      refine g_iconst h 1 (v := 1) (by decide) dX13_readsFriend_72 ?_
      refine g_iadd h dX13_readsFriend_73 ?_
      refine pfX13_283 h (by decide : kd 103 = 11) dX13_readsFriend_74 ?_
      refine g_nmM zf ?_
      clear zf; intro Mq14 zf
      obtain rfl := Option.some.inj zf
      exact g_vret h rfl ⟨rfl, rfl⟩ (Nat.le_refl _) (Nat.le_refl _) dX13_readsFriend_77
  · obtain rfl := Option.some.inj zf
    exact g_vret h rfl ⟨rfl, rfl⟩ (Nat.le_refl _) (Nat.le_refl _) dX13_readsFriend_21

theorem kX13_readsFriend_e0 {G : GX} (h : OKm G cX13_readsFriend RX13 1 none { frames := 4, cells := 0, slots := 0, locals := 88 }) {M : Mem} {res : Mem} (zf : fX13_readsFriend M = some res) : GG G (Qm G (Pwv res) 0 0) 0 0 0 [(0, rv G.1 103)] [] M := by
  unfold fX13_readsFriend at zf
  refine g_aload_n h 0 rfl dX13_readsFriend_0 ?_
  refine gfX13_283 h (by decide : kd 103 = 11) dX13_readsFriend_1 ?_
  refine g_nmI zf ?_
  clear zf; intro vq1 zf
  refine g_bipush h 6 (v := 6) (by decide) dX13_readsFriend_4 ?_
  refine g_ic_ne h 14 (by decide) zf dX13_readsFriend_6 ?_ ?_ <;> clear zf <;> intro zf
  · refine g_sub h [0] rfl ?_
    exact kX13_readsFriend_b14 h zf
  · refine g_aload_n h 0 rfl dX13_readsFriend_9 ?_
    refine g_iconst h 2 (v := 2) (by decide) dX13_readsFriend_10 ?_
    have zf1 := bd_some zf
    clear zf; obtain ⟨Mq15, zq, zf⟩ := zf1
    refine g_callVwv (As := [.int 2]) (rest := []) h ceX13_wrong mlX13_207 imX13_wrong seX13_wrong (by rfl) (kd_lt (by rw [(by decide : kd 103 = 11)]; decide)) (ent_11 (by decide : kd 103 = 11)) rfl rfl ⟨by decide, by decide⟩ ⟨by decide, by decide⟩ rfl dX13_readsFriend_11 rfl (Nat.le_of_ble_eq_true rfl) (cmX13_wrong zq) ?_
    refine g_sub h [0] rfl ?_
    exact kX13_readsFriend_b14 h zf

theorem cmX13_readsFriend {l : Launch} {w : WX} {M : Mem} {res : Mem} (zf : fX13_readsFriend M = some res) : CM l w yX13_readsFriend cX13_readsFriend 1 none { frames := 4, cells := 0, slots := 0, locals := 88 } 0 0 [rv w 103] M (Pwv res) := by
  refine CM_of (by decide) (Nat.le_of_ble_eq_true rfl) (fun G hw hl h => ?_)
  subst hw
  exact kX13_readsFriend_e0 h zf

-- X13_readsFighter
theorem kX13_readsFighter_b25 {G : GX} (h : OKm G cX13_readsFighter RX13 4 none { frames := 3, cells := 0, slots := 0, locals := 65 }) {M : Mem} {x1 : Int32} {res : Mem} (zf : fX13_readsFighter_b25 M x1 = some res) : GG G (Qm G (Pwv res) 0 0) 0 0 25 [(0, rv G.1 103), (1, .int x1)] [] M := by
  unfold fX13_readsFighter_b25 at zf
  refine g_aload_n h 0 rfl dX13_readsFighter_25 ?_
  have zf1 := bd_some zf
  clear zf; obtain ⟨vq2, zq, zf⟩ := zf1
  refine g_callVri (As := []) (rest := []) h ceX13_isGood mlX13_200 imX13_isGood seX13_isGood (by rfl) (kd_lt (by rw [(by decide : kd 103 = 11)]; decide)) (ent_11 (by decide : kd 103 = 11)) rfl rfl ⟨by decide, by decide⟩ ⟨by decide, by decide⟩ rfl dX13_readsFighter_26 rfl (Nat.le_of_ble_eq_true rfl) (cmX13_isGood zq) ?_
  refine g_if_ne h 33 (by decide) zf dX13_readsFighter_29 ?_ ?_ <;> clear zf <;> intro zf
  · refine g_aload_n h 0 rfl dX13_readsFighter_33 ?_
    have zf1 := bd_some zf
    clear zf; obtain ⟨Mq3, zq, zf⟩ := zf1
    refine g_callVwv (As := []) (rest := []) h ceX13_goes mlX13_204 imX13_goes seX13_goes (by rfl) (kd_lt (by rw [(by decide : kd 103 = 11)]; decide)) (ent_11 (by decide : kd 103 = 11)) rfl rfl ⟨by decide, by decide⟩ ⟨by decide, by decide⟩ rfl dX13_readsFighter_34 rfl (Nat.le_of_ble_eq_true rfl) (cmX13_goes zq) ?_
    refine g_aload_n h 0 rfl dX13_readsFighter_37 ?_
    refine g_iconst h 0 (v := 0) (by decide) dX13_readsFighter_38 ?_
    refine g_bipush h 20 (v := 20) (by decide) dX13_readsFighter_39 ?_
    have zf1 := b2_some zf
    clear zf; obtain ⟨vq4, Mq5, zq, zf⟩ := zf1
    refine g_callVwi (As := [.int 0, .int 20]) (rest := []) h ceX13_number mlX13_213 imX13_number seX13_number (by rfl) (kd_lt (by rw [(by decide : kd 103 = 11)]; decide)) (ent_11 (by decide : kd 103 = 11)) rfl rfl ⟨by decide, by decide⟩ ⟨by decide, by decide⟩ rfl dX13_readsFighter_41 rfl (Nat.le_of_ble_eq_true rfl) (cmX13_number zq) ?_
    refine g_istore_n h rfl [(2, .int vq4), (0, rv G.1 103), (1, .int x1)] (by decide) rfl dX13_readsFighter_44 ?_
    refine g_aload_n h 1 rfl dX13_readsFighter_45 ?_
    refine g_iconst h 0 (v := 0) (by decide) dX13_readsFighter_46 ?_
    refine g_iconst h 3 (v := 3) (by decide) dX13_readsFighter_47 ?_
    have zf1 := b2_some zf
    clear zf; obtain ⟨vq6, Mq7, zq, zf⟩ := zf1
    refine g_callVwi (As := [.int 0, .int 3]) (rest := []) h ceX13_number mlX13_213 imX13_number seX13_number (by rfl) (kd_lt (by rw [(by decide : kd 103 = 11)]; decide)) (ent_11 (by decide : kd 103 = 11)) rfl rfl ⟨by decide, by decide⟩ ⟨by decide, by decide⟩ rfl dX13_readsFighter_48 rfl (Nat.le_of_ble_eq_true rfl) (cmX13_number zq) ?_
    refine g_istore_n h rfl [(3, .int vq6), (2, .int vq4), (0, rv G.1 103), (1, .int x1)] (by decide) rfl dX13_readsFighter_51 ?_
    refine g_aload_n h 2 rfl dX13_readsFighter_52 ?_
    have zf1 := bd_some zf
    clear zf; obtain ⟨vq8, zq, zf⟩ := zf1
    refine g_callVri (As := []) (rest := []) h ceX13_isGood mlX13_200 imX13_isGood seX13_isGood (by rfl) (kd_lt (by rw [(by decide : kd 103 = 11)]; decide)) (ent_11 (by decide : kd 103 = 11)) rfl rfl ⟨by decide, by decide⟩ ⟨by decide, by decide⟩ rfl dX13_readsFighter_53 rfl (Nat.le_of_ble_eq_true rfl) (cmX13_isGood zq) ?_
    refine g_if_ne h 60 (by decide) zf dX13_readsFighter_56 ?_ ?_ <;> clear zf <;> intro zf
    · refine g_iload_n h 3 rfl dX13_readsFighter_60 ?_
      refine g_if_eq h 97 (by decide) zf dX13_readsFighter_61 ?_ ?_ <;> clear zf <;> intro zf
      · refine g_aload_n h 2 rfl dX13_readsFighter_97 ?_
        refine gfX13_83 h (by decide : kd 103 = 11) dX13_readsFighter_98 ?_
        refine g_aload_n h 2 rfl dX13_readsFighter_101 ?_
        refine gfX13_289 h (by decide : kd 103 = 11) dX13_readsFighter_102 ?_
        refine g_nmI zf ?_
        clear zf; intro vq9 zf
        refine g_iload_n h 1 rfl dX13_readsFighter_105 ?_
        refine g_iast h 7 (by decide : kd 125 = 20) (by decide) zf dX13_readsFighter_106 ?_
        clear zf; intro Mq10 zf
        refine g_aload_n h 2 rfl dX13_readsFighter_107 ?_
        refine gfX13_86 h (by decide : kd 103 = 11) dX13_readsFighter_108 ?_
        refine g_aload_n h 2 rfl dX13_readsFighter_111 ?_
        refine gfX13_289 h (by decide : kd 103 = 11) dX13_readsFighter_112 ?_
        refine g_nmI zf ?_
        clear zf; intro vq11 zf
        refine g_iload_n h 0 rfl dX13_readsFighter_115 ?_
        refine g_iast h 7 (by decide : kd 126 = 20) (by decide) zf dX13_readsFighter_116 ?_
        clear zf; intro Mq12 zf
        refine g_aload_n h 2 rfl dX13_readsFighter_117 ?_
        refine g_dup h rfl dX13_readsFighter_118 ?_
        refine gfX13_289 h (by decide : kd 103 = 11) dX13_readsFighter_119 ?_
        refine g_nmI zf ?_
        clear zf; intro vq13 zf
        refine g_iconst h 1 (v := 1) (by decide) dX13_readsFighter_122 ?_
        refine g_iadd h dX13_readsFighter_123 ?_
        refine pfX13_289 h (by decide : kd 103 = 11) dX13_readsFighter_124 ?_
        refine g_nmM zf ?_
        clear zf; intro Mq14 zf
        obtain rfl := Option.some.inj zf
        exact g_vret h rfl ⟨rfl, rfl⟩ (Nat.le_refl _) (Nat.le_refl _) dX13_readsFighter_127
      · refine g_aload_n h 2 rfl dX13_readsFighter_64 ?_
        refine gfX13_89 h (by decide : kd 103 = 11) dX13_readsFighter_65 ?_
        refine g_aload_n h 2 rfl dX13_readsFighter_68 ?_
        refine gfX13_286 h (by decide : kd 103 = 11) dX13_readsFighter_69 ?_
        refine g_nmI zf ?_
        clear zf; intro vq15 zf
        refine g_iload_n h 1 rfl dX13_readsFighter_72 ?_
        refine g_iast h 7 (by decide : kd 127 = 20) (by decide) zf dX13_readsFighter_73 ?_
        clear zf; intro Mq16 zf
        refine g_aload_n h 2 rfl dX13_readsFighter_74 ?_
        refine gfX13_92 h (by decide : kd 103 = 11) dX13_readsFighter_75 ?_
        refine g_aload_n h 2 rfl dX13_readsFighter_78 ?_
        refine gfX13_286 h (by decide : kd 103 = 11) dX13_readsFighter_79 ?_
        refine g_nmI zf ?_
        clear zf; intro vq17 zf
        refine g_iload_n h 0 rfl dX13_readsFighter_82 ?_
        refine g_iast h 7 (by decide : kd 128 = 20) (by decide) zf dX13_readsFighter_83 ?_
        clear zf; intro Mq18 zf
        refine g_aload_n h 2 rfl dX13_readsFighter_84 ?_
        refine g_dup h rfl dX13_readsFighter_85 ?_
        refine gfX13_286 h (by decide : kd 103 = 11) dX13_readsFighter_86 ?_
        refine g_nmI zf ?_
        clear zf; intro vq19 zf
        refine g_iconst h 1 (v := 1) (by decide) dX13_readsFighter_89 ?_
        refine g_iadd h dX13_readsFighter_90 ?_
        refine pfX13_286 h (by decide : kd 103 = 11) dX13_readsFighter_91 ?_
        refine g_nmM zf ?_
        clear zf; intro Mq20 zf
        refine g_goto h 127 (by decide) dX13_readsFighter_94 ?_
        obtain rfl := Option.some.inj zf
        exact g_vret h rfl ⟨rfl, rfl⟩ (Nat.le_refl _) (Nat.le_refl _) dX13_readsFighter_127
    · obtain rfl := Option.some.inj zf
      exact g_vret h rfl ⟨rfl, rfl⟩ (Nat.le_refl _) (Nat.le_refl _) dX13_readsFighter_59
  · obtain rfl := Option.some.inj zf
    exact g_vret h rfl ⟨rfl, rfl⟩ (Nat.le_refl _) (Nat.le_refl _) dX13_readsFighter_32

theorem kX13_readsFighter_b15 {G : GX} (h : OKm G cX13_readsFighter RX13 4 none { frames := 3, cells := 0, slots := 0, locals := 65 }) {M : Mem} {x1 : Int32} {s0 : Int32} {res : Mem} (zf : fX13_readsFighter_b15 M x1 s0 = some res) : GG G (Qm G (Pwv res) 0 0) 0 0 15 [(0, rv G.1 103), (1, .int x1)] [.int s0] M := by
  unfold fX13_readsFighter_b15 at zf
  refine g_bipush h 7 (v := 7) (by decide) dX13_readsFighter_15 ?_
  refine g_ic_ne h 25 (by decide) zf dX13_readsFighter_17 ?_ ?_ <;> clear zf <;> intro zf
  · refine g_sub h [0, 1] rfl ?_
    exact kX13_readsFighter_b25 h zf
  · refine g_aload_n h 0 rfl dX13_readsFighter_20 ?_
    refine g_iconst h 2 (v := 2) (by decide) dX13_readsFighter_21 ?_
    have zf1 := bd_some zf
    clear zf; obtain ⟨Mq21, zq, zf⟩ := zf1
    refine g_callVwv (As := [.int 2]) (rest := []) h ceX13_wrong mlX13_207 imX13_wrong seX13_wrong (by rfl) (kd_lt (by rw [(by decide : kd 103 = 11)]; decide)) (ent_11 (by decide : kd 103 = 11)) rfl rfl ⟨by decide, by decide⟩ ⟨by decide, by decide⟩ rfl dX13_readsFighter_22 rfl (Nat.le_of_ble_eq_true rfl) (cmX13_wrong zq) ?_
    refine g_sub h [0, 1] rfl ?_
    exact kX13_readsFighter_b25 h zf

theorem kX13_readsFighter_e0 {G : GX} (h : OKm G cX13_readsFighter RX13 4 none { frames := 3, cells := 0, slots := 0, locals := 65 }) {M : Mem} {x1 : Int32} {res : Mem} (zf : fX13_readsFighter M x1 = some res) : GG G (Qm G (Pwv res) 0 0) 0 0 0 [(0, rv G.1 103), (1, .int x1)] [] M := by
  unfold fX13_readsFighter at zf
  refine g_iload_n h 1 rfl dX13_readsFighter_0 ?_
  refine g_if_eq h 11 (by decide) zf dX13_readsFighter_1 ?_ ?_ <;> clear zf <;> intro zf
  · refine g_aload_n h 0 rfl dX13_readsFighter_11 ?_
    refine gfX13_289 h (by decide : kd 103 = 11) dX13_readsFighter_12 ?_
    refine g_nmI zf ?_
    clear zf; intro vq1 zf
    refine g_sub h [0, 1] rfl ?_
    exact kX13_readsFighter_b15 h zf
  · refine g_aload_n h 0 rfl dX13_readsFighter_4 ?_
    refine gfX13_286 h (by decide : kd 103 = 11) dX13_readsFighter_5 ?_
    refine g_nmI zf ?_
    clear zf; intro vq22 zf
    refine g_goto h 15 (by decide) dX13_readsFighter_8 ?_
    refine g_sub h [0, 1] rfl ?_
    exact kX13_readsFighter_b15 h zf

theorem cmX13_readsFighter {l : Launch} {w : WX} {M : Mem} {x1 : Int32} {res : Mem} (zf : fX13_readsFighter M x1 = some res) : CM l w yX13_readsFighter cX13_readsFighter 4 none { frames := 3, cells := 0, slots := 0, locals := 65 } 0 0 [rv w 103, .int x1] M (Pwv res) := by
  refine CM_of (by decide) (Nat.le_of_ble_eq_true rfl) (fun G hw hl h => ?_)
  subst hw
  exact kX13_readsFighter_e0 h zf

-- X13_need
theorem kX13_need_e0 {G : GX} (h : OKm G cX13_need RX13 2 none { frames := 2, cells := 0, slots := 0, locals := 42 }) {M : Mem} {x1 : Int32} {res : Mem} (zf : fX13_need M x1 = some res) : GG G (Qm G (Pwv res) 0 0) 0 0 0 [(0, rv G.1 103), (1, .int x1)] [] M := by
  unfold fX13_need at zf
  refine g_aload_n h 0 rfl dX13_need_0 ?_
  have zf1 := bd_some zf
  clear zf; obtain ⟨vq1, zq, zf⟩ := zf1
  refine g_callVri (As := []) (rest := []) h ceX13_isGood mlX13_200 imX13_isGood seX13_isGood (by rfl) (kd_lt (by rw [(by decide : kd 103 = 11)]; decide)) (ent_11 (by decide : kd 103 = 11)) rfl rfl ⟨by decide, by decide⟩ ⟨by decide, by decide⟩ rfl dX13_need_1 rfl (Nat.le_of_ble_eq_true rfl) (cmX13_isGood zq) ?_
  refine g_if_ne h 8 (by decide) zf dX13_need_4 ?_ ?_ <;> clear zf <;> intro zf
  · refine g_iload_n h 1 rfl dX13_need_8 ?_
    refine g_if_eq h 19 (by decide) zf dX13_need_9 ?_ ?_ <;> clear zf <;> intro zf
    · refine g_aload_n h 0 rfl dX13_need_19 ?_
      refine g_iconst h 1 (v := 1) (by decide) dX13_need_20 ?_
      have zf1 := bd_some zf
      clear zf; obtain ⟨Mq2, zq, zf⟩ := zf1
      refine g_callVwv (As := [.int 1]) (rest := []) h ceX13_wrong mlX13_207 imX13_wrong seX13_wrong (by rfl) (kd_lt (by rw [(by decide : kd 103 = 11)]; decide)) (ent_11 (by decide : kd 103 = 11)) rfl rfl ⟨by decide, by decide⟩ ⟨by decide, by decide⟩ rfl dX13_need_21 rfl (Nat.le_of_ble_eq_true rfl) (cmX13_wrong zq) ?_
      obtain rfl := Option.some.inj zf
      exact g_vret h rfl ⟨rfl, rfl⟩ (Nat.le_refl _) (Nat.le_refl _) dX13_need_24
    · refine g_aload_n h 0 rfl dX13_need_12 ?_
      have zf1 := bd_some zf
      clear zf; obtain ⟨Mq3, zq, zf⟩ := zf1
      refine g_callVwv (As := []) (rest := []) h ceX13_goes mlX13_204 imX13_goes seX13_goes (by rfl) (kd_lt (by rw [(by decide : kd 103 = 11)]; decide)) (ent_11 (by decide : kd 103 = 11)) rfl rfl ⟨by decide, by decide⟩ ⟨by decide, by decide⟩ rfl dX13_need_13 rfl (Nat.le_of_ble_eq_true rfl) (cmX13_goes zq) ?_
      refine g_goto h 24 (by decide) dX13_need_16 ?_
      obtain rfl := Option.some.inj zf
      exact g_vret h rfl ⟨rfl, rfl⟩ (Nat.le_refl _) (Nat.le_refl _) dX13_need_24
  · obtain rfl := Option.some.inj zf
    exact g_vret h rfl ⟨rfl, rfl⟩ (Nat.le_refl _) (Nat.le_refl _) dX13_need_7

theorem cmX13_need {l : Launch} {w : WX} {M : Mem} {x1 : Int32} {res : Mem} (zf : fX13_need M x1 = some res) : CM l w yX13_need cX13_need 2 none { frames := 2, cells := 0, slots := 0, locals := 42 } 0 0 [rv w 103, .int x1] M (Pwv res) := by
  refine CM_of (by decide) (Nat.le_of_ble_eq_true rfl) (fun G hw hl h => ?_)
  subst hw
  exact kX13_need_e0 h zf

-- X13_line
theorem kX13_line_b263 {G : GX} (h : OKm G cX13_line RX13 2 none { frames := 6, cells := 0, slots := 0, locals := 139 }) {M : Mem} {res : Mem} (zf : fX13_line_b263 M = some res) : GG G (Qm G (Pwv res) 0 0) 0 0 263 [(0, rv G.1 103)] [] M := by
  unfold fX13_line_b263 at zf
  refine g_aload_n h 0 rfl dX13_line_263 ?_
  refine g_aload_n h 0 rfl dX13_line_264 ?_
  refine g_bipush h 59 (v := 59) (by decide) dX13_line_265 ?_
  have zf1 := bd_some zf
  clear zf; obtain ⟨vq3, zq, zf⟩ := zf1
  refine g_callVri (As := [.int 59]) (rest := [rv G.1 103]) h ceX13_isSign mlX13_210 imX13_isSign seX13_isSign (by rfl) (kd_lt (by rw [(by decide : kd 103 = 11)]; decide)) (ent_11 (by decide : kd 103 = 11)) rfl rfl ⟨by decide, by decide⟩ ⟨by decide, by decide⟩ rfl dX13_line_267 rfl (Nat.le_of_ble_eq_true rfl) (cmX13_isSign zq) ?_
  have zf1 := bd_some zf
  clear zf; obtain ⟨Mq4, zq, zf⟩ := zf1
  refine g_callVwv (As := [.int vq3]) (rest := []) h ceX13_need mlX13_323 imX13_need seX13_need (by rfl) (kd_lt (by rw [(by decide : kd 103 = 11)]; decide)) (ent_11 (by decide : kd 103 = 11)) rfl rfl ⟨by decide, by decide⟩ ⟨by decide, by decide⟩ rfl dX13_line_270 rfl (Nat.le_of_ble_eq_true rfl) (cmX13_need zq) ?_
  obtain rfl := Option.some.inj zf
  exact g_vret h rfl ⟨rfl, rfl⟩ (Nat.le_refl _) (Nat.le_refl _) dX13_line_273

theorem kX13_line_b43 {G : GX} (h : OKm G cX13_line RX13 2 none { frames := 6, cells := 0, slots := 0, locals := 139 }) {M : Mem} {x1 : Int32} {res : Mem} (zf : fX13_line_b43 M x1 = some res) : GG G (Qm G (Pwv res) 0 0) 0 0 43 [(0, rv G.1 103), (1, .int x1)] [] M := by
  unfold fX13_line_b43 at zf
  refine g_aload_n h 0 rfl dX13_line_43 ?_
  refine g_iload_n h 1 rfl dX13_line_44 ?_
  refine g_bipush h 10 (v := 10) (by decide) dX13_line_45 ?_
  refine g_isub h dX13_line_47 ?_
  have zf1 := bd_some zf
  clear zf; obtain ⟨Mq2, zq, zf⟩ := zf1
  refine g_callVwv (As := [.int (x1 - 10)]) (rest := []) h ceX13_readsWay mlX13_298 imX13_readsWay seX13_readsWay (by rfl) (kd_lt (by rw [(by decide : kd 103 = 11)]; decide)) (ent_11 (by decide : kd 103 = 11)) rfl rfl ⟨by decide, by decide⟩ ⟨by decide, by decide⟩ rfl dX13_line_48 rfl (Nat.le_of_ble_eq_true rfl) (cmX13_readsWay zq) ?_
  refine g_goto h 263 (by decide) dX13_line_51 ?_
  refine g_sub h [0] rfl ?_
  exact kX13_line_b263 h zf

theorem kX13_line_b155 {G : GX} (h : OKm G cX13_line RX13 2 none { frames := 6, cells := 0, slots := 0, locals := 139 }) {M : Mem} {s0 : Int32} {res : Mem} (zf : fX13_line_b155 M s0 = some res) : GG G (Qm G (Pwv res) 0 0) 0 0 155 [(0, rv G.1 103)] [.int s0, rv G.1 103] M := by
  unfold fX13_line_b155 at zf
  have zf1 := bd_some zf
  clear zf; obtain ⟨Mq5, zq, zf⟩ := zf1
  refine g_callVwv (As := [.int s0]) (rest := []) h ceX13_readsFighter mlX13_310 imX13_readsFighter seX13_readsFighter (by rfl) (kd_lt (by rw [(by decide : kd 103 = 11)]; decide)) (ent_11 (by decide : kd 103 = 11)) rfl rfl ⟨by decide, by decide⟩ ⟨by decide, by decide⟩ rfl dX13_line_155 rfl (Nat.le_of_ble_eq_true rfl) (cmX13_readsFighter zq) ?_
  refine g_goto h 263 (by decide) dX13_line_158 ?_
  refine g_sub h [0] rfl ?_
  exact kX13_line_b263 h zf

theorem kX13_line_b143 {G : GX} (h : OKm G cX13_line RX13 2 none { frames := 6, cells := 0, slots := 0, locals := 139 }) {M : Mem} {x1 : Int32} {res : Mem} (zf : fX13_line_b143 M x1 = some res) : GG G (Qm G (Pwv res) 0 0) 0 0 143 [(0, rv G.1 103), (1, .int x1)] [] M := by
  unfold fX13_line_b143 at zf
  refine g_aload_n h 0 rfl dX13_line_143 ?_
  refine g_iload_n h 1 rfl dX13_line_144 ?_
  refine g_bipush h 16 (v := 16) (by decide) dX13_line_145 ?_
  refine g_ic_ne h 154 (by decide) zf dX13_line_147 ?_ ?_ <;> clear zf <;> intro zf
  · refine g_iconst h 0 (v := 0) (by decide) dX13_line_154 ?_
    refine g_sub h [0] rfl ?_
    exact kX13_line_b155 h zf
  · refine g_iconst h 1 (v := 1) (by decide) dX13_line_150 ?_
    refine g_goto h 155 (by decide) dX13_line_151 ?_
    refine g_sub h [0] rfl ?_
    exact kX13_line_b155 h zf

theorem kX13_line_b228 {G : GX} (h : OKm G cX13_line RX13 2 none { frames := 6, cells := 0, slots := 0, locals := 139 }) {M : Mem} {res : Mem} (zf : fX13_line_b228 M = some res) : GG G (Qm G (Pwv res) 0 0) 0 0 228 [(0, rv G.1 103)] [] M := by
  unfold fX13_line_b228 at zf
  refine g_aload_n h 0 rfl dX13_line_228 ?_
  have zf1 := bd_some zf
  clear zf; obtain ⟨vq8, zq, zf⟩ := zf1
  refine g_callVri (As := []) (rest := []) h ceX13_isGood mlX13_200 imX13_isGood seX13_isGood (by rfl) (kd_lt (by rw [(by decide : kd 103 = 11)]; decide)) (ent_11 (by decide : kd 103 = 11)) rfl rfl ⟨by decide, by decide⟩ ⟨by decide, by decide⟩ rfl dX13_line_229 rfl (Nat.le_of_ble_eq_true rfl) (cmX13_isGood zq) ?_
  refine g_if_ne h 236 (by decide) zf dX13_line_232 ?_ ?_ <;> clear zf <;> intro zf
  · refine g_aload_n h 0 rfl dX13_line_236 ?_
    have zf1 := bd_some zf
    clear zf; obtain ⟨Mq9, zq, zf⟩ := zf1
    refine g_callVwv (As := []) (rest := []) h ceX13_goes mlX13_204 imX13_goes seX13_goes (by rfl) (kd_lt (by rw [(by decide : kd 103 = 11)]; decide)) (ent_11 (by decide : kd 103 = 11)) rfl rfl ⟨by decide, by decide⟩ ⟨by decide, by decide⟩ rfl dX13_line_237 rfl (Nat.le_of_ble_eq_true rfl) (cmX13_goes zq) ?_
    refine g_aload_n h 0 rfl dX13_line_240 ?_
    refine g_aload_n h 0 rfl dX13_line_241 ?_
    refine gfX13_217 h (by decide : kd 103 = 11) dX13_line_242 ?_
    refine g_nmI zf ?_
    clear zf; intro vq10 zf
    refine pfX13_320 h (by decide : kd 103 = 11) dX13_line_245 ?_
    refine g_nmM zf ?_
    clear zf; intro Mq11 zf
    refine g_aload_n h 0 rfl dX13_line_248 ?_
    refine g_iconst h 3 (v := 3) (by decide) dX13_line_249 ?_
    refine g_bipush h 7 (v := 7) (by decide) dX13_line_250 ?_
    have zf1 := bd_some zf
    clear zf; obtain ⟨Mq12, zq, zf⟩ := zf1
    refine g_callVwv (As := [.int 3, .int 7]) (rest := []) h ceX13_expression mlX13_316 imX13_expression seX13_expression (by rfl) (kd_lt (by rw [(by decide : kd 103 = 11)]; decide)) (ent_11 (by decide : kd 103 = 11)) rfl rfl ⟨by decide, by decide⟩ ⟨by decide, by decide⟩ rfl dX13_line_252 rfl (Nat.le_of_ble_eq_true rfl) (cmX13_expression zq) ?_
    refine g_goto h 263 (by decide) dX13_line_255 ?_
    refine g_sub h [0] rfl ?_
    exact kX13_line_b263 h zf
  · obtain rfl := Option.some.inj zf
    exact g_vret h rfl ⟨rfl, rfl⟩ (Nat.le_refl _) (Nat.le_refl _) dX13_line_235

theorem kX13_line_b180 {G : GX} (h : OKm G cX13_line RX13 2 none { frames := 6, cells := 0, slots := 0, locals := 139 }) {M : Mem} {res : Mem} (zf : fX13_line_b180 M = some res) : GG G (Qm G (Pwv res) 0 0) 0 0 180 [(0, rv G.1 103)] [] M := by
  unfold fX13_line_b180 at zf
  refine g_aload_n h 0 rfl dX13_line_180 ?_
  have zf1 := bd_some zf
  clear zf; obtain ⟨vq15, zq, zf⟩ := zf1
  refine g_callVri (As := []) (rest := []) h ceX13_isGood mlX13_200 imX13_isGood seX13_isGood (by rfl) (kd_lt (by rw [(by decide : kd 103 = 11)]; decide)) (ent_11 (by decide : kd 103 = 11)) rfl rfl ⟨by decide, by decide⟩ ⟨by decide, by decide⟩ rfl dX13_line_181 rfl (Nat.le_of_ble_eq_true rfl) (cmX13_isGood zq) ?_
  refine g_if_ne h 188 (by decide) zf dX13_line_184 ?_ ?_ <;> clear zf <;> intro zf
  · refine g_aload_n h 0 rfl dX13_line_188 ?_
    have zf1 := bd_some zf
    clear zf; obtain ⟨Mq16, zq, zf⟩ := zf1
    refine g_callVwv (As := []) (rest := []) h ceX13_goes mlX13_204 imX13_goes seX13_goes (by rfl) (kd_lt (by rw [(by decide : kd 103 = 11)]; decide)) (ent_11 (by decide : kd 103 = 11)) rfl rfl ⟨by decide, by decide⟩ ⟨by decide, by decide⟩ rfl dX13_line_189 rfl (Nat.le_of_ble_eq_true rfl) (cmX13_goes zq) ?_
    refine g_aload_n h 0 rfl dX13_line_192 ?_
    refine g_aload_n h 0 rfl dX13_line_193 ?_
    refine gfX13_217 h (by decide : kd 103 = 11) dX13_line_194 ?_
    refine g_nmI zf ?_
    clear zf; intro vq17 zf
    refine pfX13_313 h (by decide : kd 103 = 11) dX13_line_197 ?_
    refine g_nmM zf ?_
    clear zf; intro Mq18 zf
    refine g_aload_n h 0 rfl dX13_line_200 ?_
    refine g_iconst h 0 (v := 0) (by decide) dX13_line_201 ?_
    refine g_iconst h 5 (v := 5) (by decide) dX13_line_202 ?_
    have zf1 := bd_some zf
    clear zf; obtain ⟨Mq19, zq, zf⟩ := zf1
    refine g_callVwv (As := [.int 0, .int 5]) (rest := []) h ceX13_expression mlX13_316 imX13_expression seX13_expression (by rfl) (kd_lt (by rw [(by decide : kd 103 = 11)]; decide)) (ent_11 (by decide : kd 103 = 11)) rfl rfl ⟨by decide, by decide⟩ ⟨by decide, by decide⟩ rfl dX13_line_203 rfl (Nat.le_of_ble_eq_true rfl) (cmX13_expression zq) ?_
    refine g_goto h 263 (by decide) dX13_line_206 ?_
    refine g_sub h [0] rfl ?_
    exact kX13_line_b263 h zf
  · obtain rfl := Option.some.inj zf
    exact g_vret h rfl ⟨rfl, rfl⟩ (Nat.le_refl _) (Nat.le_refl _) dX13_line_187

theorem kX13_line_b85 {G : GX} (h : OKm G cX13_line RX13 2 none { frames := 6, cells := 0, slots := 0, locals := 139 }) {M : Mem} {res : Mem} (zf : fX13_line_b85 M = some res) : GG G (Qm G (Pwv res) 0 0) 0 0 85 [(0, rv G.1 103)] [] M := by
  unfold fX13_line_b85 at zf
  refine g_aload_n h 0 rfl dX13_line_85 ?_
  have zf1 := bd_some zf
  clear zf; obtain ⟨vq23, zq, zf⟩ := zf1
  refine g_callVri (As := []) (rest := []) h ceX13_isGood mlX13_200 imX13_isGood seX13_isGood (by rfl) (kd_lt (by rw [(by decide : kd 103 = 11)]; decide)) (ent_11 (by decide : kd 103 = 11)) rfl rfl ⟨by decide, by decide⟩ ⟨by decide, by decide⟩ rfl dX13_line_86 rfl (Nat.le_of_ble_eq_true rfl) (cmX13_isGood zq) ?_
  refine g_if_ne h 93 (by decide) zf dX13_line_89 ?_ ?_ <;> clear zf <;> intro zf
  · refine g_aload_n h 0 rfl dX13_line_93 ?_
    refine g_iconst h 1 (v := 1) (by decide) dX13_line_94 ?_
    refine pfX13_304 h (by decide : kd 103 = 11) (by decide) dX13_line_95 ?_
    refine g_nmM zf ?_
    clear zf; intro Mq24 zf
    refine g_aload_n h 0 rfl dX13_line_98 ?_
    have zf1 := bd_some zf
    clear zf; obtain ⟨Mq25, zq, zf⟩ := zf1
    refine g_callVwv (As := []) (rest := []) h ceX13_goes mlX13_204 imX13_goes seX13_goes (by rfl) (kd_lt (by rw [(by decide : kd 103 = 11)]; decide)) (ent_11 (by decide : kd 103 = 11)) rfl rfl ⟨by decide, by decide⟩ ⟨by decide, by decide⟩ rfl dX13_line_99 rfl (Nat.le_of_ble_eq_true rfl) (cmX13_goes zq) ?_
    refine g_aload_n h 0 rfl dX13_line_102 ?_
    refine gfX13_95 h (by decide : kd 103 = 11) dX13_line_103 ?_
    refine g_bipush h 12 (v := 12) (by decide) dX13_line_106 ?_
    refine g_aload_n h 0 rfl dX13_line_108 ?_
    refine g_iconst h 1 (v := 1) (by decide) dX13_line_109 ?_
    refine g_iconst h 5 (v := 5) (by decide) dX13_line_110 ?_
    have zf1 := b2_some zf
    clear zf; obtain ⟨vq26, Mq27, zq, zf⟩ := zf1
    refine g_callVwi (As := [.int 1, .int 5]) (rest := [.int 12, rv G.1 129]) h ceX13_number mlX13_213 imX13_number seX13_number (by rfl) (kd_lt (by rw [(by decide : kd 103 = 11)]; decide)) (ent_11 (by decide : kd 103 = 11)) rfl rfl ⟨by decide, by decide⟩ ⟨by decide, by decide⟩ rfl dX13_line_111 rfl (Nat.le_of_ble_eq_true rfl) (cmX13_number zq) ?_
    refine g_iast h 31 (by decide : kd 129 = 20) (by decide) zf dX13_line_114 ?_
    clear zf; intro Mq28 zf
    refine g_goto h 263 (by decide) dX13_line_115 ?_
    refine g_sub h [0] rfl ?_
    exact kX13_line_b263 h zf
  · obtain rfl := Option.some.inj zf
    exact g_vret h rfl ⟨rfl, rfl⟩ (Nat.le_refl _) (Nat.le_refl _) dX13_line_92

theorem kX13_line_e0 {G : GX} (h : OKm G cX13_line RX13 2 none { frames := 6, cells := 0, slots := 0, locals := 139 }) {M : Mem} {res : Mem} (zf : fX13_line M = some res) : GG G (Qm G (Pwv res) 0 0) 0 0 0 [(0, rv G.1 103)] [] M := by
  unfold fX13_line at zf
  refine g_aload_n h 0 rfl dX13_line_0 ?_
  have zf1 := bd_some zf
  clear zf; obtain ⟨vq1, zq, zf⟩ := zf1
  refine g_callVri (As := []) (rest := []) h ceX13_knownWord mlX13_232 imX13_knownWord seX13_knownWord (by rfl) (kd_lt (by rw [(by decide : kd 103 = 11)]; decide)) (ent_11 (by decide : kd 103 = 11)) rfl rfl ⟨by decide, by decide⟩ ⟨by decide, by decide⟩ rfl dX13_line_1 rfl (Nat.le_of_ble_eq_true rfl) (cmX13_knownWord zq) ?_
  refine g_istore_n h rfl [(1, .int vq1), (0, rv G.1 103)] (by decide) rfl dX13_line_4 ?_
  refine g_iload_n h 0 rfl dX13_line_5 ?_
  refine g_bipush h 8 (v := 8) (by decide) dX13_line_6 ?_
  refine g_ic_ne h 18 (by decide) zf dX13_line_8 ?_ ?_ <;> clear zf <;> intro zf
  · refine g_iload_n h 0 rfl dX13_line_18 ?_
    refine g_bipush h 9 (v := 9) (by decide) dX13_line_19 ?_
    refine g_ic_ne h 31 (by decide) zf dX13_line_21 ?_ ?_ <;> clear zf <;> intro zf
    · refine g_iload_n h 0 rfl dX13_line_31 ?_
      refine g_bipush h 10 (v := 10) (by decide) dX13_line_32 ?_
      refine g_ic_eq h 43 (by decide) zf dX13_line_34 ?_ ?_ <;> clear zf <;> intro zf
      · refine g_sub h [1, 0] rfl ?_
        exact kX13_line_b43 h zf
      · refine g_iload_n h 0 rfl dX13_line_37 ?_
        refine g_bipush h 11 (v := 11) (by decide) dX13_line_38 ?_
        refine g_ic_ne h 54 (by decide) zf dX13_line_40 ?_ ?_ <;> clear zf <;> intro zf
        · refine g_iload_n h 0 rfl dX13_line_54 ?_
          refine g_bipush h 12 (v := 12) (by decide) dX13_line_55 ?_
          refine g_ic_ne h 67 (by decide) zf dX13_line_57 ?_ ?_ <;> clear zf <;> intro zf
          · refine g_iload_n h 0 rfl dX13_line_67 ?_
            refine g_bipush h 13 (v := 13) (by decide) dX13_line_68 ?_
            refine g_ic_ne h 118 (by decide) zf dX13_line_70 ?_ ?_ <;> clear zf <;> intro zf
            · refine g_iload_n h 0 rfl dX13_line_118 ?_
              refine g_bipush h 14 (v := 14) (by decide) dX13_line_119 ?_
              refine g_ic_ne h 131 (by decide) zf dX13_line_121 ?_ ?_ <;> clear zf <;> intro zf
              · refine g_iload_n h 0 rfl dX13_line_131 ?_
                refine g_bipush h 15 (v := 15) (by decide) dX13_line_132 ?_
                refine g_ic_eq h 143 (by decide) zf dX13_line_134 ?_ ?_ <;> clear zf <;> intro zf
                · refine g_sub h [1, 0] rfl ?_
                  exact kX13_line_b143 h zf
                · refine g_iload_n h 0 rfl dX13_line_137 ?_
                  refine g_bipush h 16 (v := 16) (by decide) dX13_line_138 ?_
                  refine g_ic_ne h 161 (by decide) zf dX13_line_140 ?_ ?_ <;> clear zf <;> intro zf
                  · refine g_iload_n h 0 rfl dX13_line_161 ?_
                    refine g_bipush h 17 (v := 17) (by decide) dX13_line_162 ?_
                    refine g_ic_ne h 209 (by decide) zf dX13_line_164 ?_ ?_ <;> clear zf <;> intro zf
                    · refine g_iload_n h 0 rfl dX13_line_209 ?_
                      refine g_bipush h 18 (v := 18) (by decide) dX13_line_210 ?_
                      refine g_ic_ne h 258 (by decide) zf dX13_line_212 ?_ ?_ <;> clear zf <;> intro zf
                      · refine g_aload_n h 1 rfl dX13_line_258 ?_
                        refine g_iconst h 1 (v := 1) (by decide) dX13_line_259 ?_
                        have zf1 := bd_some zf
                        clear zf; obtain ⟨Mq6, zq, zf⟩ := zf1
                        refine g_callVwv (As := [.int 1]) (rest := []) h ceX13_wrong mlX13_207 imX13_wrong seX13_wrong (by rfl) (kd_lt (by rw [(by decide : kd 103 = 11)]; decide)) (ent_11 (by decide : kd 103 = 11)) rfl rfl ⟨by decide, by decide⟩ ⟨by decide, by decide⟩ rfl dX13_line_260 rfl (Nat.le_of_ble_eq_true rfl) (cmX13_wrong zq) ?_
                        refine g_sub h [1] rfl ?_
                        exact kX13_line_b263 h zf
                      · refine g_aload_n h 1 rfl dX13_line_215 ?_
                        refine gfX13_320 h (by decide : kd 103 = 11) dX13_line_216 ?_
                        refine g_nmI zf ?_
                        clear zf; intro vq7 zf
                        refine g_iconst h (-1) (v := (-1)) (by decide) dX13_line_219 ?_
                        refine g_ic_eq h 228 (by decide) zf dX13_line_220 ?_ ?_ <;> clear zf <;> intro zf
                        · refine g_sub h [1] rfl ?_
                          exact kX13_line_b228 h zf
                        · refine g_aload_n h 1 rfl dX13_line_223 ?_
                          refine g_iconst h 5 (v := 5) (by decide) dX13_line_224 ?_
                          have zf1 := bd_some zf
                          clear zf; obtain ⟨Mq13, zq, zf⟩ := zf1
                          refine g_callVwv (As := [.int 5]) (rest := []) h ceX13_wrong mlX13_207 imX13_wrong seX13_wrong (by rfl) (kd_lt (by rw [(by decide : kd 103 = 11)]; decide)) (ent_11 (by decide : kd 103 = 11)) rfl rfl ⟨by decide, by decide⟩ ⟨by decide, by decide⟩ rfl dX13_line_225 rfl (Nat.le_of_ble_eq_true rfl) (cmX13_wrong zq) ?_
                          refine g_sub h [1] rfl ?_
                          exact kX13_line_b228 h zf
                    · refine g_aload_n h 1 rfl dX13_line_167 ?_
                      refine gfX13_313 h (by decide : kd 103 = 11) dX13_line_168 ?_
                      refine g_nmI zf ?_
                      clear zf; intro vq14 zf
                      refine g_iconst h (-1) (v := (-1)) (by decide) dX13_line_171 ?_
                      refine g_ic_eq h 180 (by decide) zf dX13_line_172 ?_ ?_ <;> clear zf <;> intro zf
                      · refine g_sub h [1] rfl ?_
                        exact kX13_line_b180 h zf
                      · refine g_aload_n h 1 rfl dX13_line_175 ?_
                        refine g_iconst h 5 (v := 5) (by decide) dX13_line_176 ?_
                        have zf1 := bd_some zf
                        clear zf; obtain ⟨Mq20, zq, zf⟩ := zf1
                        refine g_callVwv (As := [.int 5]) (rest := []) h ceX13_wrong mlX13_207 imX13_wrong seX13_wrong (by rfl) (kd_lt (by rw [(by decide : kd 103 = 11)]; decide)) (ent_11 (by decide : kd 103 = 11)) rfl rfl ⟨by decide, by decide⟩ ⟨by decide, by decide⟩ rfl dX13_line_177 rfl (Nat.le_of_ble_eq_true rfl) (cmX13_wrong zq) ?_
                        refine g_sub h [1] rfl ?_
                        exact kX13_line_b180 h zf
                  · refine g_sub h [1, 0] rfl ?_
                    exact kX13_line_b143 h zf
              · refine g_aload_n h 1 rfl dX13_line_124 ?_
                have zf1 := bd_some zf
                clear zf; obtain ⟨Mq21, zq, zf⟩ := zf1
                refine g_callVwv (As := []) (rest := []) h ceX13_readsFriend mlX13_307 imX13_readsFriend seX13_readsFriend (by rfl) (kd_lt (by rw [(by decide : kd 103 = 11)]; decide)) (ent_11 (by decide : kd 103 = 11)) rfl rfl ⟨by decide, by decide⟩ ⟨by decide, by decide⟩ rfl dX13_line_125 rfl (Nat.le_of_ble_eq_true rfl) (cmX13_readsFriend zq) ?_
                refine g_goto h 263 (by decide) dX13_line_128 ?_
                refine g_sub h [1] rfl ?_
                exact kX13_line_b263 h zf
            · refine g_aload_n h 1 rfl dX13_line_73 ?_
              refine gfX13_304 h (by decide : kd 103 = 11) dX13_line_74 ?_
              refine g_nmI zf ?_
              clear zf; intro vq22 zf
              refine g_if_eq h 85 (by decide) zf dX13_line_77 ?_ ?_ <;> clear zf <;> intro zf
              · refine g_sub h [1] rfl ?_
                exact kX13_line_b85 h zf
              · refine g_aload_n h 1 rfl dX13_line_80 ?_
                refine g_iconst h 5 (v := 5) (by decide) dX13_line_81 ?_
                have zf1 := bd_some zf
                clear zf; obtain ⟨Mq29, zq, zf⟩ := zf1
                refine g_callVwv (As := [.int 5]) (rest := []) h ceX13_wrong mlX13_207 imX13_wrong seX13_wrong (by rfl) (kd_lt (by rw [(by decide : kd 103 = 11)]; decide)) (ent_11 (by decide : kd 103 = 11)) rfl rfl ⟨by decide, by decide⟩ ⟨by decide, by decide⟩ rfl dX13_line_82 rfl (Nat.le_of_ble_eq_true rfl) (cmX13_wrong zq) ?_
                refine g_sub h [1] rfl ?_
                exact kX13_line_b85 h zf
          · refine g_aload_n h 1 rfl dX13_line_60 ?_
            have zf1 := bd_some zf
            clear zf; obtain ⟨Mq30, zq, zf⟩ := zf1
            refine g_callVwv (As := []) (rest := []) h ceX13_readsHarvests mlX13_301 imX13_readsHarvests seX13_readsHarvests (by rfl) (kd_lt (by rw [(by decide : kd 103 = 11)]; decide)) (ent_11 (by decide : kd 103 = 11)) rfl rfl ⟨by decide, by decide⟩ ⟨by decide, by decide⟩ rfl dX13_line_61 rfl (Nat.le_of_ble_eq_true rfl) (cmX13_readsHarvests zq) ?_
            refine g_goto h 263 (by decide) dX13_line_64 ?_
            refine g_sub h [1] rfl ?_
            exact kX13_line_b263 h zf
        · refine g_sub h [1, 0] rfl ?_
          exact kX13_line_b43 h zf
    · refine g_aload_n h 1 rfl dX13_line_24 ?_
      have zf1 := bd_some zf
      clear zf; obtain ⟨Mq31, zq, zf⟩ := zf1
      refine g_callVwv (As := []) (rest := []) h ceX13_readsDeed mlX13_295 imX13_readsDeed seX13_readsDeed (by rfl) (kd_lt (by rw [(by decide : kd 103 = 11)]; decide)) (ent_11 (by decide : kd 103 = 11)) rfl rfl ⟨by decide, by decide⟩ ⟨by decide, by decide⟩ rfl dX13_line_25 rfl (Nat.le_of_ble_eq_true rfl) (cmX13_readsDeed zq) ?_
      refine g_goto h 263 (by decide) dX13_line_28 ?_
      refine g_sub h [1] rfl ?_
      exact kX13_line_b263 h zf
  · refine g_aload_n h 1 rfl dX13_line_11 ?_
    have zf1 := bd_some zf
    clear zf; obtain ⟨Mq32, zq, zf⟩ := zf1
    refine g_callVwv (As := []) (rest := []) h ceX13_readsCity mlX13_292 imX13_readsCity seX13_readsCity (by rfl) (kd_lt (by rw [(by decide : kd 103 = 11)]; decide)) (ent_11 (by decide : kd 103 = 11)) rfl rfl ⟨by decide, by decide⟩ ⟨by decide, by decide⟩ rfl dX13_line_12 rfl (Nat.le_of_ble_eq_true rfl) (cmX13_readsCity zq) ?_
    refine g_goto h 263 (by decide) dX13_line_15 ?_
    refine g_sub h [1] rfl ?_
    exact kX13_line_b263 h zf

theorem cmX13_line {l : Launch} {w : WX} {M : Mem} {res : Mem} (zf : fX13_line M = some res) : CM l w yX13_line cX13_line 2 none { frames := 6, cells := 0, slots := 0, locals := 139 } 0 0 [rv w 103] M (Pwv res) := by
  refine CM_of (by decide) (Nat.le_of_ble_eq_true rfl) (fun G hw hl h => ?_)
  subst hw
  exact kX13_line_e0 h zf

-- X13_land
theorem kX13_land_l415 {G : GX} (h : OKm G cX13_land RX13 3 (some .int) { frames := 7, cells := 0, slots := 0, locals := 160 }) : ∀ (n : Nat) (M : Mem) (x2 : Int32) (res : (Int32 × Mem)), fX13_land_l415 n M x2 = some res → GG G (Qm G (Pwi res) 0 0) 0 0 415 [(0, rv G.1 103), (2, .int x2)] [] M := by
  intro n
  induction n with
  | zero => intro M x2 res zf; rw [fX13_land_l415] at zf; cases zf
  | succ n ih =>
    intro M x2 res zf
    rw [fX13_land_l415] at zf
    refine g_iload_n h 1 rfl dX13_land_415 ?_
    refine g_bipush h 31 (v := 31) (by decide) dX13_land_416 ?_
    refine g_ic_ge h 439 (by decide) zf dX13_land_418 ?_ ?_ <;> clear zf <;> intro zf
    · refine g_aload_n h 0 rfl dX13_land_439 ?_
      refine g_iconst h 0 (v := 0) (by decide) dX13_land_440 ?_
      refine pfX13_352 h (by decide : kd 103 = 11) dX13_land_441 ?_
      refine g_nmM zf ?_
      clear zf; intro Mq53 zf
      refine g_aload_n h 0 rfl dX13_land_444 ?_
      refine g_iconst h 0 (v := 0) (by decide) dX13_land_445 ?_
      refine pfX13_355 h (by decide : kd 103 = 11) dX13_land_446 ?_
      refine g_nmM zf ?_
      clear zf; intro Mq54 zf
      refine g_aload_n h 0 rfl dX13_land_449 ?_
      refine g_iconst h 0 (v := 0) (by decide) dX13_land_450 ?_
      refine pfX13_358 h (by decide : kd 103 = 11) (by decide) dX13_land_451 ?_
      refine g_nmM zf ?_
      clear zf; intro Mq55 zf
      refine g_iconst h 0 (v := 0) (by decide) dX13_land_454 ?_
      obtain rfl := Option.some.inj zf
      exact g_iret h rfl ⟨rfl, rfl⟩ (Nat.le_refl _) (Nat.le_refl _) dX13_land_455
    · refine g_aload_n h 0 rfl dX13_land_421 ?_
      refine gfX13_108 h (by decide : kd 103 = 11) dX13_land_422 ?_
      refine g_iload_n h 1 rfl dX13_land_425 ?_
      refine g_aload_n h 0 rfl dX13_land_426 ?_
      refine gfX13_95 h (by decide : kd 103 = 11) dX13_land_427 ?_
      refine g_iload_n h 1 rfl dX13_land_430 ?_
      refine g_iald h 31 (by decide : kd 129 = 20) (by decide) zf dX13_land_431 ?_
      clear zf; intro vq56 zf
      refine g_iast h 186 (by decide : kd 133 = 20) (by decide) zf dX13_land_432 ?_
      clear zf; intro Mq57 zf
      refine g_iinc h 2 1 rfl (v := x2 + 1) (congrArg (fun z => x2 + z) (by decide : Int32.ofInt (1) = (1 : Int32))) [(2, .int (x2 + 1)), (0, rv G.1 103)] (by decide) rfl dX13_land_433 ?_
      refine g_nmV zf ?_
      clear zf; intro vq58 zf
      refine g_goto h 415 (by decide) dX13_land_436 ?_
      refine g_sub h [1, 0] rfl ?_
      exact ih _ _ _ zf

theorem kX13_land_b191 {G : GX} (h : OKm G cX13_land RX13 3 (some .int) { frames := 7, cells := 0, slots := 0, locals := 160 }) {M : Mem} {res : (Int32 × Mem)} (zf : fX13_land_b191 M = some res) : GG G (Qm G (Pwi res) 0 0) 0 0 191 [(0, rv G.1 103)] [] M := by
  unfold fX13_land_b191 at zf
  refine g_aload_n h 0 rfl dX13_land_191 ?_
  have zf1 := bd_some zf
  clear zf; obtain ⟨vq26, zq, zf⟩ := zf1
  refine g_callVri (As := []) (rest := []) h ceX13_isGood mlX13_200 imX13_isGood seX13_isGood (by rfl) (kd_lt (by rw [(by decide : kd 103 = 11)]; decide)) (ent_11 (by decide : kd 103 = 11)) rfl rfl ⟨by decide, by decide⟩ ⟨by decide, by decide⟩ rfl dX13_land_192 rfl (Nat.le_of_ble_eq_true rfl) (cmX13_isGood zq) ?_
  refine g_if_ne h 213 (by decide) zf dX13_land_195 ?_ ?_ <;> clear zf <;> intro zf
  · refine g_aload_n h 0 rfl dX13_land_213 ?_
    refine g_aload_n h 0 rfl dX13_land_214 ?_
    refine gfX13_271 h (by decide : kd 103 = 11) dX13_land_215 ?_
    refine g_nmI zf ?_
    clear zf; intro vq27 zf
    refine pfX13_333 h (by decide : kd 103 = 11) dX13_land_218 ?_
    refine g_nmM zf ?_
    clear zf; intro Mq28 zf
    refine g_aload_n h 0 rfl dX13_land_221 ?_
    refine g_aload_n h 0 rfl dX13_land_222 ?_
    refine gfX13_280 h (by decide : kd 103 = 11) dX13_land_223 ?_
    refine g_nmI zf ?_
    clear zf; intro vq29 zf
    refine pfX13_336 h (by decide : kd 103 = 11) dX13_land_226 ?_
    refine g_nmM zf ?_
    clear zf; intro Mq30 zf
    refine g_aload_n h 0 rfl dX13_land_229 ?_
    refine g_aload_n h 0 rfl dX13_land_230 ?_
    refine gfX13_283 h (by decide : kd 103 = 11) dX13_land_231 ?_
    refine g_nmI zf ?_
    clear zf; intro vq31 zf
    refine pfX13_339 h (by decide : kd 103 = 11) dX13_land_234 ?_
    refine g_nmM zf ?_
    clear zf; intro Mq32 zf
    refine g_aload_n h 0 rfl dX13_land_237 ?_
    refine g_aload_n h 0 rfl dX13_land_238 ?_
    refine gfX13_289 h (by decide : kd 103 = 11) dX13_land_239 ?_
    refine g_nmI zf ?_
    clear zf; intro vq33 zf
    refine pfX13_342 h (by decide : kd 103 = 11) dX13_land_242 ?_
    refine g_nmM zf ?_
    clear zf; intro Mq34 zf
    refine g_aload_n h 0 rfl dX13_land_245 ?_
    refine g_aload_n h 0 rfl dX13_land_246 ?_
    refine gfX13_286 h (by decide : kd 103 = 11) dX13_land_247 ?_
    refine g_nmI zf ?_
    clear zf; intro vq35 zf
    refine pfX13_345 h (by decide : kd 103 = 11) dX13_land_250 ?_
    refine g_nmM zf ?_
    clear zf; intro Mq36 zf
    refine g_aload_n h 0 rfl dX13_land_253 ?_
    refine g_aload_n h 0 rfl dX13_land_254 ?_
    refine gfX13_313 h (by decide : kd 103 = 11) dX13_land_255 ?_
    refine g_nmI zf ?_
    clear zf; intro vq37 zf
    refine pfX13_9 h (by decide : kd 103 = 11) dX13_land_258 ?_
    refine g_nmM zf ?_
    clear zf; intro Mq38 zf
    refine g_aload_n h 0 rfl dX13_land_261 ?_
    refine g_aload_n h 0 rfl dX13_land_262 ?_
    refine gfX13_320 h (by decide : kd 103 = 11) dX13_land_263 ?_
    refine g_nmI zf ?_
    clear zf; intro vq39 zf
    refine pfX13_13 h (by decide : kd 103 = 11) dX13_land_266 ?_
    refine g_nmM zf ?_
    clear zf; intro Mq40 zf
    refine g_aload_n h 0 rfl dX13_land_269 ?_
    refine g_aload_n h 0 rfl dX13_land_270 ?_
    refine gfX13_62 h (by decide : kd 103 = 11) dX13_land_271 ?_
    refine g_aload_n h 0 rfl dX13_land_274 ?_
    refine gfX13_16 h (by decide : kd 103 = 11) dX13_land_275 ?_
    have zf1 := bd_some zf
    clear zf; obtain ⟨Mq41, zq, zf⟩ := zf1
    refine g_callVwv (As := [rv G.1 118, rv G.1 104]) (rest := []) h ceX13_copies mlX13_348 imX13_copies seX13_copies (by rfl) (kd_lt (by rw [(by decide : kd 103 = 11)]; decide)) (ent_11 (by decide : kd 103 = 11)) rfl rfl ⟨by decide, by decide⟩ ⟨by decide, by decide⟩ rfl dX13_land_278 rfl (Nat.le_of_ble_eq_true rfl) (cmX13_copies zq) ?_
    refine g_aload_n h 0 rfl dX13_land_281 ?_
    refine g_aload_n h 0 rfl dX13_land_282 ?_
    refine gfX13_65 h (by decide : kd 103 = 11) dX13_land_283 ?_
    refine g_aload_n h 0 rfl dX13_land_286 ?_
    refine gfX13_20 h (by decide : kd 103 = 11) dX13_land_287 ?_
    have zf1 := bd_some zf
    clear zf; obtain ⟨Mq42, zq, zf⟩ := zf1
    refine g_callVwv (As := [rv G.1 119, rv G.1 105]) (rest := []) h ceX13_copies mlX13_348 imX13_copies seX13_copies (by rfl) (kd_lt (by rw [(by decide : kd 103 = 11)]; decide)) (ent_11 (by decide : kd 103 = 11)) rfl rfl ⟨by decide, by decide⟩ ⟨by decide, by decide⟩ rfl dX13_land_290 rfl (Nat.le_of_ble_eq_true rfl) (cmX13_copies zq) ?_
    refine g_aload_n h 0 rfl dX13_land_293 ?_
    refine g_aload_n h 0 rfl dX13_land_294 ?_
    refine gfX13_68 h (by decide : kd 103 = 11) dX13_land_295 ?_
    refine g_aload_n h 0 rfl dX13_land_298 ?_
    refine gfX13_23 h (by decide : kd 103 = 11) dX13_land_299 ?_
    have zf1 := bd_some zf
    clear zf; obtain ⟨Mq43, zq, zf⟩ := zf1
    refine g_callVwv (As := [rv G.1 120, rv G.1 106]) (rest := []) h ceX13_copies mlX13_348 imX13_copies seX13_copies (by rfl) (kd_lt (by rw [(by decide : kd 103 = 11)]; decide)) (ent_11 (by decide : kd 103 = 11)) rfl rfl ⟨by decide, by decide⟩ ⟨by decide, by decide⟩ rfl dX13_land_302 rfl (Nat.le_of_ble_eq_true rfl) (cmX13_copies zq) ?_
    refine g_aload_n h 0 rfl dX13_land_305 ?_
    refine g_aload_n h 0 rfl dX13_land_306 ?_
    refine gfX13_71 h (by decide : kd 103 = 11) dX13_land_307 ?_
    refine g_aload_n h 0 rfl dX13_land_310 ?_
    refine gfX13_26 h (by decide : kd 103 = 11) dX13_land_311 ?_
    have zf1 := bd_some zf
    clear zf; obtain ⟨Mq44, zq, zf⟩ := zf1
    refine g_callVwv (As := [rv G.1 121, rv G.1 107]) (rest := []) h ceX13_copies mlX13_348 imX13_copies seX13_copies (by rfl) (kd_lt (by rw [(by decide : kd 103 = 11)]; decide)) (ent_11 (by decide : kd 103 = 11)) rfl rfl ⟨by decide, by decide⟩ ⟨by decide, by decide⟩ rfl dX13_land_314 rfl (Nat.le_of_ble_eq_true rfl) (cmX13_copies zq) ?_
    refine g_aload_n h 0 rfl dX13_land_317 ?_
    refine g_aload_n h 0 rfl dX13_land_318 ?_
    refine gfX13_74 h (by decide : kd 103 = 11) dX13_land_319 ?_
    refine g_aload_n h 0 rfl dX13_land_322 ?_
    refine gfX13_29 h (by decide : kd 103 = 11) dX13_land_323 ?_
    have zf1 := bd_some zf
    clear zf; obtain ⟨Mq45, zq, zf⟩ := zf1
    refine g_callVwv (As := [rv G.1 122, rv G.1 108]) (rest := []) h ceX13_copies mlX13_348 imX13_copies seX13_copies (by rfl) (kd_lt (by rw [(by decide : kd 103 = 11)]; decide)) (ent_11 (by decide : kd 103 = 11)) rfl rfl ⟨by decide, by decide⟩ ⟨by decide, by decide⟩ rfl dX13_land_326 rfl (Nat.le_of_ble_eq_true rfl) (cmX13_copies zq) ?_
    refine g_aload_n h 0 rfl dX13_land_329 ?_
    refine g_aload_n h 0 rfl dX13_land_330 ?_
    refine gfX13_77 h (by decide : kd 103 = 11) dX13_land_331 ?_
    refine g_aload_n h 0 rfl dX13_land_334 ?_
    refine gfX13_32 h (by decide : kd 103 = 11) dX13_land_335 ?_
    have zf1 := bd_some zf
    clear zf; obtain ⟨Mq46, zq, zf⟩ := zf1
    refine g_callVwv (As := [rv G.1 123, rv G.1 109]) (rest := []) h ceX13_copies mlX13_348 imX13_copies seX13_copies (by rfl) (kd_lt (by rw [(by decide : kd 103 = 11)]; decide)) (ent_11 (by decide : kd 103 = 11)) rfl rfl ⟨by decide, by decide⟩ ⟨by decide, by decide⟩ rfl dX13_land_338 rfl (Nat.le_of_ble_eq_true rfl) (cmX13_copies zq) ?_
    refine g_aload_n h 0 rfl dX13_land_341 ?_
    refine g_aload_n h 0 rfl dX13_land_342 ?_
    refine gfX13_80 h (by decide : kd 103 = 11) dX13_land_343 ?_
    refine g_aload_n h 0 rfl dX13_land_346 ?_
    refine gfX13_35 h (by decide : kd 103 = 11) dX13_land_347 ?_
    have zf1 := bd_some zf
    clear zf; obtain ⟨Mq47, zq, zf⟩ := zf1
    refine g_callVwv (As := [rv G.1 124, rv G.1 110]) (rest := []) h ceX13_copies mlX13_348 imX13_copies seX13_copies (by rfl) (kd_lt (by rw [(by decide : kd 103 = 11)]; decide)) (ent_11 (by decide : kd 103 = 11)) rfl rfl ⟨by decide, by decide⟩ ⟨by decide, by decide⟩ rfl dX13_land_350 rfl (Nat.le_of_ble_eq_true rfl) (cmX13_copies zq) ?_
    refine g_aload_n h 0 rfl dX13_land_353 ?_
    refine g_aload_n h 0 rfl dX13_land_354 ?_
    refine gfX13_83 h (by decide : kd 103 = 11) dX13_land_355 ?_
    refine g_aload_n h 0 rfl dX13_land_358 ?_
    refine gfX13_38 h (by decide : kd 103 = 11) dX13_land_359 ?_
    have zf1 := bd_some zf
    clear zf; obtain ⟨Mq48, zq, zf⟩ := zf1
    refine g_callVwv (As := [rv G.1 125, rv G.1 111]) (rest := []) h ceX13_copies mlX13_348 imX13_copies seX13_copies (by rfl) (kd_lt (by rw [(by decide : kd 103 = 11)]; decide)) (ent_11 (by decide : kd 103 = 11)) rfl rfl ⟨by decide, by decide⟩ ⟨by decide, by decide⟩ rfl dX13_land_362 rfl (Nat.le_of_ble_eq_true rfl) (cmX13_copies zq) ?_
    refine g_aload_n h 0 rfl dX13_land_365 ?_
    refine g_aload_n h 0 rfl dX13_land_366 ?_
    refine gfX13_86 h (by decide : kd 103 = 11) dX13_land_367 ?_
    refine g_aload_n h 0 rfl dX13_land_370 ?_
    refine gfX13_41 h (by decide : kd 103 = 11) dX13_land_371 ?_
    have zf1 := bd_some zf
    clear zf; obtain ⟨Mq49, zq, zf⟩ := zf1
    refine g_callVwv (As := [rv G.1 126, rv G.1 112]) (rest := []) h ceX13_copies mlX13_348 imX13_copies seX13_copies (by rfl) (kd_lt (by rw [(by decide : kd 103 = 11)]; decide)) (ent_11 (by decide : kd 103 = 11)) rfl rfl ⟨by decide, by decide⟩ ⟨by decide, by decide⟩ rfl dX13_land_374 rfl (Nat.le_of_ble_eq_true rfl) (cmX13_copies zq) ?_
    refine g_aload_n h 0 rfl dX13_land_377 ?_
    refine g_aload_n h 0 rfl dX13_land_378 ?_
    refine gfX13_89 h (by decide : kd 103 = 11) dX13_land_379 ?_
    refine g_aload_n h 0 rfl dX13_land_382 ?_
    refine gfX13_44 h (by decide : kd 103 = 11) dX13_land_383 ?_
    have zf1 := bd_some zf
    clear zf; obtain ⟨Mq50, zq, zf⟩ := zf1
    refine g_callVwv (As := [rv G.1 127, rv G.1 113]) (rest := []) h ceX13_copies mlX13_348 imX13_copies seX13_copies (by rfl) (kd_lt (by rw [(by decide : kd 103 = 11)]; decide)) (ent_11 (by decide : kd 103 = 11)) rfl rfl ⟨by decide, by decide⟩ ⟨by decide, by decide⟩ rfl dX13_land_386 rfl (Nat.le_of_ble_eq_true rfl) (cmX13_copies zq) ?_
    refine g_aload_n h 0 rfl dX13_land_389 ?_
    refine g_aload_n h 0 rfl dX13_land_390 ?_
    refine gfX13_92 h (by decide : kd 103 = 11) dX13_land_391 ?_
    refine g_aload_n h 0 rfl dX13_land_394 ?_
    refine gfX13_47 h (by decide : kd 103 = 11) dX13_land_395 ?_
    have zf1 := bd_some zf
    clear zf; obtain ⟨Mq51, zq, zf⟩ := zf1
    refine g_callVwv (As := [rv G.1 128, rv G.1 114]) (rest := []) h ceX13_copies mlX13_348 imX13_copies seX13_copies (by rfl) (kd_lt (by rw [(by decide : kd 103 = 11)]; decide)) (ent_11 (by decide : kd 103 = 11)) rfl rfl ⟨by decide, by decide⟩ ⟨by decide, by decide⟩ rfl dX13_land_398 rfl (Nat.le_of_ble_eq_true rfl) (cmX13_copies zq) ?_
    refine g_aload_n h 0 rfl dX13_land_401 ?_
    refine g_aload_n h 0 rfl dX13_land_402 ?_
    refine gfX13_98 h (by decide : kd 103 = 11) dX13_land_403 ?_
    refine g_aload_n h 0 rfl dX13_land_406 ?_
    refine gfX13_50 h (by decide : kd 103 = 11) dX13_land_407 ?_
    have zf1 := bd_some zf
    clear zf; obtain ⟨Mq52, zq, zf⟩ := zf1
    refine g_callVwv (As := [rv G.1 130, rv G.1 115]) (rest := []) h ceX13_copies mlX13_348 imX13_copies seX13_copies (by rfl) (kd_lt (by rw [(by decide : kd 103 = 11)]; decide)) (ent_11 (by decide : kd 103 = 11)) rfl rfl ⟨by decide, by decide⟩ ⟨by decide, by decide⟩ rfl dX13_land_410 rfl (Nat.le_of_ble_eq_true rfl) (cmX13_copies zq) ?_
    refine g_iconst h 0 (v := 0) (by decide) dX13_land_413 ?_
    refine g_istore_n h rfl [(2, .int 0), (0, rv G.1 103)] (by decide) rfl dX13_land_414 ?_
    refine g_sub h [1, 0] rfl ?_
    exact kX13_land_l415 h _ _ _ _ zf
  · refine g_aload_n h 0 rfl dX13_land_198 ?_
    refine gfX13_59 h (by decide : kd 103 = 11) dX13_land_199 ?_
    refine g_iconst h 0 (v := 0) (by decide) dX13_land_202 ?_
    refine g_dup2 h rfl rfl dX13_land_203 ?_
    refine g_iald h 3 (by decide : kd 117 = 20) (by decide) zf dX13_land_204 ?_
    clear zf; intro vq59 zf
    refine g_iconst h 1 (v := 1) (by decide) dX13_land_205 ?_
    refine g_iadd h dX13_land_206 ?_
    refine g_iast h 3 (by decide : kd 117 = 20) (by decide) zf dX13_land_207 ?_
    clear zf; intro Mq60 zf
    refine g_aload_n h 0 rfl dX13_land_208 ?_
    refine gfX13_197 h (by decide : kd 103 = 11) dX13_land_209 ?_
    refine g_nmI zf ?_
    clear zf; intro vq61 zf
    obtain rfl := Option.some.inj zf
    exact g_iret h rfl ⟨rfl, rfl⟩ (Nat.le_refl _) (Nat.le_refl _) dX13_land_212

theorem kX13_land_l170 {G : GX} (h : OKm G cX13_land RX13 3 (some .int) { frames := 7, cells := 0, slots := 0, locals := 160 }) : ∀ (n : Nat) (M : Mem) (res : (Int32 × Mem)), fX13_land_l170 n M = some res → GG G (Qm G (Pwi res) 0 0) 0 0 170 [(0, rv G.1 103)] [] M := by
  intro n
  induction n with
  | zero => intro M res zf; rw [fX13_land_l170] at zf; cases zf
  | succ n ih =>
    intro M res zf
    rw [fX13_land_l170] at zf
    refine g_aload_n h 0 rfl dX13_land_170 ?_
    have zf1 := bd_some zf
    clear zf; obtain ⟨vq25, zq, zf⟩ := zf1
    refine g_callVri (As := []) (rest := []) h ceX13_isGood mlX13_200 imX13_isGood seX13_isGood (by rfl) (kd_lt (by rw [(by decide : kd 103 = 11)]; decide)) (ent_11 (by decide : kd 103 = 11)) rfl rfl ⟨by decide, by decide⟩ ⟨by decide, by decide⟩ rfl dX13_land_171 rfl (Nat.le_of_ble_eq_true rfl) (cmX13_isGood zq) ?_
    refine g_if_eq h 191 (by decide) zf dX13_land_174 ?_ ?_ <;> clear zf <;> intro zf
    · refine g_sub h [0] rfl ?_
      exact kX13_land_b191 h zf
    · refine g_aload_n h 0 rfl dX13_land_177 ?_
      refine gfX13_174 h (by decide : kd 103 = 11) dX13_land_178 ?_
      refine g_nmI zf ?_
      clear zf; intro vq62 zf
      refine g_if_eq h 191 (by decide) zf dX13_land_181 ?_ ?_ <;> clear zf <;> intro zf
      · refine g_sub h [0] rfl ?_
        exact kX13_land_b191 h zf
      · refine g_aload_n h 0 rfl dX13_land_184 ?_
        have zf1 := bd_some zf
        clear zf; obtain ⟨Mq63, zq, zf⟩ := zf1
        refine g_callVwv (As := []) (rest := []) h ceX13_line mlX13_330 imX13_line seX13_line (by rfl) (kd_lt (by rw [(by decide : kd 103 = 11)]; decide)) (ent_11 (by decide : kd 103 = 11)) rfl rfl ⟨by decide, by decide⟩ ⟨by decide, by decide⟩ rfl dX13_land_185 rfl (Nat.le_of_ble_eq_true rfl) (cmX13_line zq) ?_
        refine g_goto h 170 (by decide) dX13_land_188 ?_
        refine g_sub h [0] rfl ?_
        exact ih _ _ zf

theorem kX13_land_l118 {G : GX} (h : OKm G cX13_land RX13 3 (some .int) { frames := 7, cells := 0, slots := 0, locals := 160 }) : ∀ (n : Nat) (M : Mem) (x2 : Int32) (res : (Int32 × Mem)), fX13_land_l118 n M x2 = some res → GG G (Qm G (Pwi res) 0 0) 0 0 118 [(0, rv G.1 103), (2, .int x2)] [] M := by
  intro n
  induction n with
  | zero => intro M x2 res zf; rw [fX13_land_l118] at zf; cases zf
  | succ n ih =>
    intro M x2 res zf
    rw [fX13_land_l118] at zf
    refine g_iload_n h 1 rfl dX13_land_118 ?_
    refine g_bipush h 31 (v := 31) (by decide) dX13_land_119 ?_
    refine g_ic_ge h 137 (by decide) zf dX13_land_121 ?_ ?_ <;> clear zf <;> intro zf
    · refine g_aload_n h 0 rfl dX13_land_137 ?_
      refine gfX13_95 h (by decide : kd 103 = 11) dX13_land_138 ?_
      refine g_iconst h 0 (v := 0) (by decide) dX13_land_141 ?_
      refine g_bipush h 50 (v := 50) (by decide) dX13_land_142 ?_
      refine g_iast h 31 (by decide : kd 129 = 20) (by decide) zf dX13_land_144 ?_
      clear zf; intro Mq20 zf
      refine g_aload_n h 0 rfl dX13_land_145 ?_
      refine gfX13_95 h (by decide : kd 103 = 11) dX13_land_146 ?_
      refine g_iconst h 1 (v := 1) (by decide) dX13_land_149 ?_
      refine g_bipush h 20 (v := 20) (by decide) dX13_land_150 ?_
      refine g_iast h 31 (by decide : kd 129 = 20) (by decide) zf dX13_land_152 ?_
      clear zf; intro Mq21 zf
      refine g_aload_n h 0 rfl dX13_land_153 ?_
      refine gfX13_95 h (by decide : kd 103 = 11) dX13_land_154 ?_
      refine g_bipush h 12 (v := 12) (by decide) dX13_land_157 ?_
      refine g_iconst h 1 (v := 1) (by decide) dX13_land_159 ?_
      refine g_iast h 31 (by decide : kd 129 = 20) (by decide) zf dX13_land_160 ?_
      clear zf; intro Mq22 zf
      refine g_aload_n h 0 rfl dX13_land_161 ?_
      refine g_iconst h 0 (v := 0) (by decide) dX13_land_162 ?_
      refine pfX13_217 h (by decide : kd 103 = 11) dX13_land_163 ?_
      refine g_nmM zf ?_
      clear zf; intro Mq23 zf
      refine g_aload_n h 0 rfl dX13_land_166 ?_
      have zf1 := bd_some zf
      clear zf; obtain ⟨Mq24, zq, zf⟩ := zf1
      refine g_callVwv (As := []) (rest := []) h ceX13_goes mlX13_204 imX13_goes seX13_goes (by rfl) (kd_lt (by rw [(by decide : kd 103 = 11)]; decide)) (ent_11 (by decide : kd 103 = 11)) rfl rfl ⟨by decide, by decide⟩ ⟨by decide, by decide⟩ rfl dX13_land_167 rfl (Nat.le_of_ble_eq_true rfl) (cmX13_goes zq) ?_
      refine g_sub h [0] rfl ?_
      exact kX13_land_l170 h _ _ _ zf
    · refine g_aload_n h 0 rfl dX13_land_124 ?_
      refine gfX13_95 h (by decide : kd 103 = 11) dX13_land_125 ?_
      refine g_iload_n h 1 rfl dX13_land_128 ?_
      refine g_iconst h 0 (v := 0) (by decide) dX13_land_129 ?_
      refine g_iast h 31 (by decide : kd 129 = 20) (by decide) zf dX13_land_130 ?_
      clear zf; intro Mq64 zf
      refine g_iinc h 2 1 rfl (v := x2 + 1) (congrArg (fun z => x2 + z) (by decide : Int32.ofInt (1) = (1 : Int32))) [(2, .int (x2 + 1)), (0, rv G.1 103)] (by decide) rfl dX13_land_131 ?_
      refine g_nmV zf ?_
      clear zf; intro vq65 zf
      refine g_goto h 118 (by decide) dX13_land_134 ?_
      refine g_sub h [1, 0] rfl ?_
      exact ih _ _ _ zf

theorem kX13_land_b23 {G : GX} (h : OKm G cX13_land RX13 3 (some .int) { frames := 7, cells := 0, slots := 0, locals := 160 }) {M : Mem} {x1 : Int32} {s0 : Int32} {res : (Int32 × Mem)} (zf : fX13_land_b23 M x1 s0 = some res) : GG G (Qm G (Pwi res) 0 0) 0 0 23 [(0, rv G.1 103), (1, .int x1)] [.int s0, rv G.1 103] M := by
  unfold fX13_land_b23 at zf
  refine g_iconst h 1 (v := 1) (by decide) dX13_land_23 ?_
  have zf1 := b2_some zf
  clear zf; obtain ⟨vq2, Mq3, zq, zf⟩ := zf1
  refine g_callVwi (As := [.int s0, .int 1]) (rest := []) h ceX13_right mlX13_326 imX13_right seX13_right (by rfl) (kd_lt (by rw [(by decide : kd 103 = 11)]; decide)) (ent_11 (by decide : kd 103 = 11)) rfl rfl ⟨by decide, by decide⟩ ⟨by decide, by decide⟩ rfl dX13_land_24 rfl (Nat.le_of_ble_eq_true rfl) (cmX13_right zq) ?_
  refine g_if_ne h 32 (by decide) zf dX13_land_27 ?_ ?_ <;> clear zf <;> intro zf
  · refine g_aload_n h 0 rfl dX13_land_32 ?_
    refine g_iconst h 0 (v := 0) (by decide) dX13_land_33 ?_
    refine pfX13_144 h (by decide : kd 103 = 11) dX13_land_34 ?_
    refine g_nmM zf ?_
    clear zf; intro Mq4 zf
    refine g_aload_n h 0 rfl dX13_land_37 ?_
    refine g_iconst h (-1) (v := (-1)) (by decide) dX13_land_38 ?_
    refine pfX13_56 h (by decide : kd 103 = 11) dX13_land_39 ?_
    refine g_nmM zf ?_
    clear zf; intro Mq5 zf
    refine g_aload_n h 0 rfl dX13_land_42 ?_
    refine g_iconst h 0 (v := 0) (by decide) dX13_land_43 ?_
    refine pfX13_197 h (by decide : kd 103 = 11) dX13_land_44 ?_
    refine g_nmM zf ?_
    clear zf; intro Mq6 zf
    refine g_aload_n h 0 rfl dX13_land_47 ?_
    refine g_iload_n h 1 rfl dX13_land_48 ?_
    refine pfX13_151 h (by decide : kd 103 = 11) dX13_land_49 ?_
    refine g_nmM zf ?_
    clear zf; intro Mq7 zf
    refine g_aload_n h 0 rfl dX13_land_52 ?_
    refine g_iconst h 0 (v := 0) (by decide) dX13_land_53 ?_
    refine pfX13_154 h (by decide : kd 103 = 11) dX13_land_54 ?_
    refine g_nmM zf ?_
    clear zf; intro Mq8 zf
    refine g_aload_n h 0 rfl dX13_land_57 ?_
    refine g_iconst h 0 (v := 0) (by decide) dX13_land_58 ?_
    refine pfX13_271 h (by decide : kd 103 = 11) dX13_land_59 ?_
    refine g_nmM zf ?_
    clear zf; intro Mq9 zf
    refine g_aload_n h 0 rfl dX13_land_62 ?_
    refine g_iconst h 0 (v := 0) (by decide) dX13_land_63 ?_
    refine pfX13_280 h (by decide : kd 103 = 11) dX13_land_64 ?_
    refine g_nmM zf ?_
    clear zf; intro Mq10 zf
    refine g_aload_n h 0 rfl dX13_land_67 ?_
    refine g_iconst h 0 (v := 0) (by decide) dX13_land_68 ?_
    refine pfX13_283 h (by decide : kd 103 = 11) dX13_land_69 ?_
    refine g_nmM zf ?_
    clear zf; intro Mq11 zf
    refine g_aload_n h 0 rfl dX13_land_72 ?_
    refine g_iconst h 0 (v := 0) (by decide) dX13_land_73 ?_
    refine pfX13_289 h (by decide : kd 103 = 11) dX13_land_74 ?_
    refine g_nmM zf ?_
    clear zf; intro Mq12 zf
    refine g_aload_n h 0 rfl dX13_land_77 ?_
    refine g_iconst h 0 (v := 0) (by decide) dX13_land_78 ?_
    refine pfX13_286 h (by decide : kd 103 = 11) dX13_land_79 ?_
    refine g_nmM zf ?_
    clear zf; intro Mq13 zf
    refine g_aload_n h 0 rfl dX13_land_82 ?_
    refine g_iconst h (-1) (v := (-1)) (by decide) dX13_land_83 ?_
    refine pfX13_313 h (by decide : kd 103 = 11) dX13_land_84 ?_
    refine g_nmM zf ?_
    clear zf; intro Mq14 zf
    refine g_aload_n h 0 rfl dX13_land_87 ?_
    refine g_iconst h (-1) (v := (-1)) (by decide) dX13_land_88 ?_
    refine pfX13_320 h (by decide : kd 103 = 11) dX13_land_89 ?_
    refine g_nmM zf ?_
    clear zf; intro Mq15 zf
    refine g_aload_n h 0 rfl dX13_land_92 ?_
    refine gfX13_74 h (by decide : kd 103 = 11) dX13_land_93 ?_
    refine g_iconst h 0 (v := 0) (by decide) dX13_land_96 ?_
    refine g_iconst h 0 (v := 0) (by decide) dX13_land_97 ?_
    refine g_iast h 2 (by decide : kd 122 = 20) (by decide) zf dX13_land_98 ?_
    clear zf; intro Mq16 zf
    refine g_aload_n h 0 rfl dX13_land_99 ?_
    refine gfX13_74 h (by decide : kd 103 = 11) dX13_land_100 ?_
    refine g_iconst h 1 (v := 1) (by decide) dX13_land_103 ?_
    refine g_iconst h 0 (v := 0) (by decide) dX13_land_104 ?_
    refine g_iast h 2 (by decide : kd 122 = 20) (by decide) zf dX13_land_105 ?_
    clear zf; intro Mq17 zf
    refine g_aload_n h 0 rfl dX13_land_106 ?_
    refine g_iconst h 0 (v := 0) (by decide) dX13_land_107 ?_
    refine pfX13_267 h (by decide : kd 103 = 11) (by decide) dX13_land_108 ?_
    refine g_nmM zf ?_
    clear zf; intro Mq18 zf
    refine g_aload_n h 0 rfl dX13_land_111 ?_
    refine g_iconst h 0 (v := 0) (by decide) dX13_land_112 ?_
    refine pfX13_304 h (by decide : kd 103 = 11) (by decide) dX13_land_113 ?_
    refine g_nmM zf ?_
    clear zf; intro Mq19 zf
    refine g_iconst h 0 (v := 0) (by decide) dX13_land_116 ?_
    refine g_istore_n h rfl [(2, .int 0), (0, rv G.1 103), (1, .int x1)] (by decide) rfl dX13_land_117 ?_
    refine g_sub h [1, 0] rfl ?_
    exact kX13_land_l118 h _ _ _ _ zf
  · refine g_iconst h 0 (v := 0) (by decide) dX13_land_30 ?_
    obtain rfl := Option.some.inj zf
    exact g_iret h rfl ⟨rfl, rfl⟩ (Nat.le_refl _) (Nat.le_refl _) dX13_land_31

theorem kX13_land_b22 {G : GX} (h : OKm G cX13_land RX13 3 (some .int) { frames := 7, cells := 0, slots := 0, locals := 160 }) {M : Mem} {x1 : Int32} {res : (Int32 × Mem)} (zf : fX13_land_b22 M x1 = some res) : GG G (Qm G (Pwi res) 0 0) 0 0 22 [(0, rv G.1 103), (1, .int x1)] [rv G.1 103] M := by
  unfold fX13_land_b22 at zf
  refine g_iconst h 0 (v := 0) (by decide) dX13_land_22 ?_
  refine g_sub h [0, 1] rfl ?_
  exact kX13_land_b23 h zf

theorem kX13_land_e0 {G : GX} (h : OKm G cX13_land RX13 3 (some .int) { frames := 7, cells := 0, slots := 0, locals := 160 }) {M : Mem} {x1 : Int32} {res : (Int32 × Mem)} (zf : fX13_land M x1 = some res) : GG G (Qm G (Pwi res) 0 0) 0 0 0 [(0, rv G.1 103), (1, .int x1)] [] M := by
  unfold fX13_land at zf
  refine g_aload_n h 0 rfl dX13_land_0 ?_
  refine g_iconst h 0 (v := 0) (by decide) dX13_land_1 ?_
  refine pfX13_141 h (by decide : kd 103 = 11) dX13_land_2 ?_
  refine g_nmM zf ?_
  clear zf; intro Mq1 zf
  refine g_aload_n h 0 rfl dX13_land_5 ?_
  refine g_iload_n h 1 rfl dX13_land_6 ?_
  refine g_if_lt h 22 (by decide) zf dX13_land_7 ?_ ?_ <;> clear zf <;> intro zf
  · refine g_sub h [0, 1] rfl ?_
    exact kX13_land_b22 h zf
  · refine g_iload_n h 1 rfl dX13_land_10 ?_
    refine g_aload_n h 0 rfl dX13_land_11 ?_
    refine gfX13_144 h (by decide : kd 103 = 11) dX13_land_12 ?_
    refine g_nmI zf ?_
    clear zf; intro vq66 zf
    refine g_ic_gt h 22 (by decide) zf dX13_land_15 ?_ ?_ <;> clear zf <;> intro zf
    · refine g_sub h [0, 1] rfl ?_
      exact kX13_land_b22 h zf
    · refine g_iconst h 1 (v := 1) (by decide) dX13_land_18 ?_
      refine g_goto h 23 (by decide) dX13_land_19 ?_
      refine g_sub h [0, 1] rfl ?_
      exact kX13_land_b23 h zf

theorem cmX13_land {l : Launch} {w : WX} {M : Mem} {x1 : Int32} {res : (Int32 × Mem)} (zf : fX13_land M x1 = some res) : CM l w yX13_land cX13_land 3 (some .int) { frames := 7, cells := 0, slots := 0, locals := 160 } 0 0 [rv w 103, .int x1] M (Pwi res) := by
  refine CM_of (by decide) (Nat.le_of_ble_eq_true rfl) (fun G hw hl h => ?_)
  subst hw
  exact kX13_land_e0 h zf

-- X13_least
theorem kX13_least_b49 {G : GX} (h : OKm G cX13_least RX13 4 (some .int) { frames := 10, cells := 0, slots := 0, locals := 232 }) {a11 : Mem → Int32 → Int32 → Int32 → Option (Int32 × Mem)} (zh11 : ∀ (M : Mem) (x1 : Int32) (x2 : Int32) (x3 : Int32) (res : (Int32 × Mem)), a11 M x1 x2 x3 = some res → GG G (Qm G (Pwi res) 0 0) 0 0 11 [(0, rv G.1 103), (1, .int x1), (2, .int x2), (3, .int x3)] [] M) {M : Mem} {x1 : Int32} {x2 : Int32} {x3 : Int32} {res : (Int32 × Mem)} (zf : fX13_least_b49 a11 M x1 x2 x3 = some res) : GG G (Qm G (Pwi res) 0 0) 0 0 49 [(0, rv G.1 103), (1, .int x1), (2, .int x2), (3, .int x3)] [] M := by
  unfold fX13_least_b49 at zf
  refine g_iinc h 3 3 rfl (v := x3 + 1) (congrArg (fun z => x3 + z) (by decide : Int32.ofInt (1) = (1 : Int32))) [(3, .int (x3 + 1)), (0, rv G.1 103), (1, .int x1), (2, .int x2)] (by decide) rfl dX13_least_49 ?_
  refine g_nmV zf ?_
  clear zf; intro vq4 zf
  refine g_goto h 11 (by decide) dX13_least_52 ?_
  refine g_sub h [1, 2, 3, 0] rfl ?_
  exact zh11 _ _ _ _ _ zf

theorem kX13_least_b39 {G : GX} (h : OKm G cX13_least RX13 4 (some .int) { frames := 10, cells := 0, slots := 0, locals := 232 }) {a11 : Mem → Int32 → Int32 → Int32 → Option (Int32 × Mem)} (zh11 : ∀ (M : Mem) (x1 : Int32) (x2 : Int32) (x3 : Int32) (res : (Int32 × Mem)), a11 M x1 x2 x3 = some res → GG G (Qm G (Pwi res) 0 0) 0 0 11 [(0, rv G.1 103), (1, .int x1), (2, .int x2), (3, .int x3)] [] M) {M : Mem} {x3 : Int32} {res : (Int32 × Mem)} (zf : fX13_least_b39 a11 M x3 = some res) : GG G (Qm G (Pwi res) 0 0) 0 0 39 [(0, rv G.1 103), (3, .int x3)] [] M := by
  unfold fX13_least_b39 at zf
  refine g_iload_n h 1 rfl dX13_least_39 ?_
  refine g_istore_n h rfl [(1, .int x3), (0, rv G.1 103), (3, .int x3)] (by decide) rfl dX13_least_40 ?_
  refine g_aload_n h 1 rfl dX13_least_41 ?_
  refine gfX13_108 h (by decide : kd 103 = 11) dX13_least_42 ?_
  refine g_bipush h 39 (v := 39) (by decide) dX13_least_45 ?_
  refine g_iald h 186 (by decide : kd 133 = 20) (by decide) zf dX13_least_47 ?_
  clear zf; intro vq3 zf
  refine g_istore_n h rfl [(2, .int vq3), (1, .int x3), (0, rv G.1 103), (3, .int x3)] (by decide) rfl dX13_least_48 ?_
  refine g_sub h [2, 1, 0, 3] rfl ?_
  exact kX13_least_b49 h zh11 zf

theorem kX13_least_l11 {G : GX} (h : OKm G cX13_least RX13 4 (some .int) { frames := 10, cells := 0, slots := 0, locals := 232 }) : ∀ (n : Nat) (M : Mem) (x1 : Int32) (x2 : Int32) (x3 : Int32) (res : (Int32 × Mem)), fX13_least_l11 n M x1 x2 x3 = some res → GG G (Qm G (Pwi res) 0 0) 0 0 11 [(0, rv G.1 103), (1, .int x1), (2, .int x2), (3, .int x3)] [] M := by
  intro n
  induction n with
  | zero => intro M x1 x2 x3 res zf; rw [fX13_least_l11] at zf; cases zf
  | succ n ih =>
    intro M x1 x2 x3 res zf
    rw [fX13_least_l11] at zf
    refine g_iload_n h 3 rfl dX13_least_11 ?_
    refine g_iconst h 5 (v := 5) (by decide) dX13_least_12 ?_
    refine g_ic_gt h 55 (by decide) zf dX13_least_13 ?_ ?_ <;> clear zf <;> intro zf
    · refine g_iload_n h 1 rfl dX13_least_55 ?_
      obtain rfl := Option.some.inj zf
      exact g_iret h rfl ⟨rfl, rfl⟩ (Nat.le_refl _) (Nat.le_refl _) dX13_least_56
    · refine g_aload_n h 0 rfl dX13_least_16 ?_
      refine g_iload_n h 3 rfl dX13_least_17 ?_
      have zf1 := bd_some zf
      clear zf; obtain ⟨Mq2, zq, zf⟩ := zf1
      refine g_callVwv (As := [.int x3]) (rest := []) h ceX13_goesByTerm mlX13_435 imX13_goesByTerm seX13_goesByTerm (by rfl) (kd_lt (by rw [(by decide : kd 103 = 11)]; decide)) (ent_11 (by decide : kd 103 = 11)) rfl rfl ⟨by decide, by decide⟩ ⟨by decide, by decide⟩ rfl dX13_least_18 rfl (Nat.le_of_ble_eq_true rfl) (cmX13_goesByTerm zq) ?_
      refine g_iload_n h 1 rfl dX13_least_21 ?_
      refine g_if_eq h 39 (by decide) zf dX13_least_22 ?_ ?_ <;> clear zf <;> intro zf
      · refine g_sub h [0, 3] rfl ?_
        exact kX13_least_b39 h ih zf
      · refine g_aload_n h 0 rfl dX13_least_25 ?_
        refine gfX13_108 h (by decide : kd 103 = 11) dX13_least_26 ?_
        refine g_bipush h 39 (v := 39) (by decide) dX13_least_29 ?_
        refine g_iald h 186 (by decide : kd 133 = 20) (by decide) zf dX13_least_31 ?_
        clear zf; intro vq5 zf
        refine g_iload_n h 2 rfl dX13_least_32 ?_
        refine g_ic_lt h 39 (by decide) zf dX13_least_33 ?_ ?_ <;> clear zf <;> intro zf
        · refine g_sub h [0, 3] rfl ?_
          exact kX13_least_b39 h ih zf
        · refine g_goto h 49 (by decide) dX13_least_36 ?_
          refine g_sub h [0, 1, 2, 3] rfl ?_
          exact kX13_least_b49 h ih zf

theorem kX13_least_e0 {G : GX} (h : OKm G cX13_least RX13 4 (some .int) { frames := 10, cells := 0, slots := 0, locals := 232 }) {M : Mem} {res : (Int32 × Mem)} (zf : fX13_least M = some res) : GG G (Qm G (Pwi res) 0 0) 0 0 0 [(0, rv G.1 103)] [] M := by
  unfold fX13_least at zf
  refine g_aload_n h 0 rfl dX13_least_0 ?_
  refine g_iconst h 0 (v := 0) (by decide) dX13_least_1 ?_
  refine pfX13_141 h (by decide : kd 103 = 11) dX13_least_2 ?_
  refine g_nmM zf ?_
  clear zf; intro Mq1 zf
  refine g_iconst h 0 (v := 0) (by decide) dX13_least_5 ?_
  refine g_istore_n h rfl [(1, .int 0), (0, rv G.1 103)] (by decide) rfl dX13_least_6 ?_
  refine g_iconst h 0 (v := 0) (by decide) dX13_least_7 ?_
  refine g_istore_n h rfl [(2, .int 0), (1, .int 0), (0, rv G.1 103)] (by decide) rfl dX13_least_8 ?_
  refine g_iconst h 1 (v := 1) (by decide) dX13_least_9 ?_
  refine g_istore_n h rfl [(3, .int 1), (2, .int 0), (1, .int 0), (0, rv G.1 103)] (by decide) rfl dX13_least_10 ?_
  refine g_sub h [3, 2, 1, 0] rfl ?_
  exact kX13_least_l11 h _ _ _ _ _ _ zf

theorem cmX13_least {l : Launch} {w : WX} {M : Mem} {res : (Int32 × Mem)} (zf : fX13_least M = some res) : CM l w yX13_least cX13_least 4 (some .int) { frames := 10, cells := 0, slots := 0, locals := 232 } 0 0 [rv w 103] M (Pwi res) := by
  refine CM_of (by decide) (Nat.le_of_ble_eq_true rfl) (fun G hw hl h => ?_)
  subst hw
  exact kX13_least_e0 h zf

-- X13_loan
theorem kX13_loan_e0 {G : GX} (h : OKm G cX13_loan RX13 2 (some .int) { frames := 1, cells := 0, slots := 0, locals := 22 }) {M : Mem} {x1 : Int32} {res : (Int32 × Mem)} (zf : fX13_loan M x1 = some res) : GG G (Qm G (Pwi res) 0 0) 0 0 0 [(0, rv G.1 103), (1, .int x1)] [] M := by
  unfold fX13_loan at zf
  refine g_aload_n h 0 rfl dX13_loan_0 ?_
  refine g_iconst h 0 (v := 0) (by decide) dX13_loan_1 ?_
  refine pfX13_141 h (by decide : kd 103 = 11) dX13_loan_2 ?_
  refine g_nmM zf ?_
  clear zf; intro Mq1 zf
  refine g_iload_n h 1 rfl dX13_loan_5 ?_
  refine g_iconst h 1 (v := 1) (by decide) dX13_loan_6 ?_
  refine g_bipush h 99 (v := 99) (by decide) dX13_loan_7 ?_
  have zf1 := bd_some zf
  clear zf; obtain ⟨vq2, zq, zf⟩ := zf1
  refine g_callSri (As := [.int x1, .int 1, .int 99]) (rest := []) h ceX13_within mlX13_407 smX13_within rfl rfl ⟨by decide, by decide⟩ ⟨by decide, by decide⟩ rfl dX13_loan_9 rfl (Nat.le_of_ble_eq_true rfl) (cmX13_within zq) ?_
  refine g_if_ne h 21 (by decide) zf dX13_loan_12 ?_ ?_ <;> clear zf <;> intro zf
  · refine g_aload_n h 0 rfl dX13_loan_21 ?_
    have zf1 := bd_some zf
    clear zf; obtain ⟨Mq3, zq, zf⟩ := zf1
    refine g_callVwv (As := []) (rest := []) h ceX13_keeps mlX13_426 imX13_keeps seX13_keeps (by rfl) (kd_lt (by rw [(by decide : kd 103 = 11)]; decide)) (ent_11 (by decide : kd 103 = 11)) rfl rfl ⟨by decide, by decide⟩ ⟨by decide, by decide⟩ rfl dX13_loan_22 rfl (Nat.le_of_ble_eq_true rfl) (cmX13_keeps zq) ?_
    refine g_aload_n h 0 rfl dX13_loan_25 ?_
    refine gfX13_108 h (by decide : kd 103 = 11) dX13_loan_26 ?_
    refine g_iconst h 0 (v := 0) (by decide) dX13_loan_29 ?_
    refine g_aload_n h 0 rfl dX13_loan_30 ?_
    refine gfX13_108 h (by decide : kd 103 = 11) dX13_loan_31 ?_
    refine g_iconst h 0 (v := 0) (by decide) dX13_loan_34 ?_
    refine g_iald h 186 (by decide : kd 133 = 20) (by decide) zf dX13_loan_35 ?_
    clear zf; intro vq4 zf
    refine g_iload_n h 1 rfl dX13_loan_36 ?_
    refine g_iadd h dX13_loan_37 ?_
    refine g_iconst h 0 (v := 0) (by decide) dX13_loan_38 ?_
    refine g_sipush h 999 (v := 999) (by decide) dX13_loan_39 ?_
    have zf1 := bd_some zf
    clear zf; obtain ⟨vq5, zq, zf⟩ := zf1
    refine g_callSri (As := [.int (vq4 + x1), .int 0, .int 999]) (rest := [.int 0, rv G.1 133]) h ceX13_kept mlX13_381 smX13_kept rfl rfl ⟨by decide, by decide⟩ ⟨by decide, by decide⟩ rfl dX13_loan_42 rfl (Nat.le_of_ble_eq_true rfl) (cmX13_kept zq) ?_
    refine g_iast h 186 (by decide : kd 133 = 20) (by decide) zf dX13_loan_45 ?_
    clear zf; intro Mq6 zf
    refine g_aload_n h 0 rfl dX13_loan_46 ?_
    refine gfX13_108 h (by decide : kd 103 = 11) dX13_loan_47 ?_
    refine g_iconst h 2 (v := 2) (by decide) dX13_loan_50 ?_
    refine g_aload_n h 0 rfl dX13_loan_51 ?_
    refine gfX13_108 h (by decide : kd 103 = 11) dX13_loan_52 ?_
    refine g_iconst h 2 (v := 2) (by decide) dX13_loan_55 ?_
    refine g_iald h 186 (by decide : kd 133 = 20) (by decide) zf dX13_loan_56 ?_
    clear zf; intro vq7 zf
    refine g_iload_n h 1 rfl dX13_loan_57 ?_
    refine g_iadd h dX13_loan_58 ?_
    refine g_iconst h 0 (v := 0) (by decide) dX13_loan_59 ?_
    refine g_sipush h 999 (v := 999) (by decide) dX13_loan_60 ?_
    have zf1 := bd_some zf
    clear zf; obtain ⟨vq8, zq, zf⟩ := zf1
    refine g_callSri (As := [.int (vq7 + x1), .int 0, .int 999]) (rest := [.int 2, rv G.1 133]) h ceX13_kept mlX13_381 smX13_kept rfl rfl ⟨by decide, by decide⟩ ⟨by decide, by decide⟩ rfl dX13_loan_63 rfl (Nat.le_of_ble_eq_true rfl) (cmX13_kept zq) ?_
    refine g_iast h 186 (by decide : kd 133 = 20) (by decide) zf dX13_loan_66 ?_
    clear zf; intro Mq9 zf
    refine g_aload_n h 0 rfl dX13_loan_67 ?_
    refine gfX13_108 h (by decide : kd 103 = 11) dX13_loan_68 ?_
    refine g_iconst h 0 (v := 0) (by decide) dX13_loan_71 ?_
    refine g_iald h 186 (by decide : kd 133 = 20) (by decide) zf dX13_loan_72 ?_
    clear zf; intro vq10 zf
    obtain rfl := Option.some.inj zf
    exact g_iret h rfl ⟨rfl, rfl⟩ (Nat.le_refl _) (Nat.le_refl _) dX13_loan_73
  · refine g_aload_n h 0 rfl dX13_loan_15 ?_
    refine g_iconst h 1 (v := 1) (by decide) dX13_loan_16 ?_
    have zf1 := b2_some zf
    clear zf; obtain ⟨vq11, Mq12, zq, zf⟩ := zf1
    refine g_callVwi (As := [.int 1]) (rest := []) h ceX13_refuses mlX13_423 imX13_refuses seX13_refuses (by rfl) (kd_lt (by rw [(by decide : kd 103 = 11)]; decide)) (ent_11 (by decide : kd 103 = 11)) rfl rfl ⟨by decide, by decide⟩ ⟨by decide, by decide⟩ rfl dX13_loan_17 rfl (Nat.le_of_ble_eq_true rfl) (cmX13_refuses zq) ?_
    obtain rfl := Option.some.inj zf
    exact g_iret h rfl ⟨rfl, rfl⟩ (Nat.le_refl _) (Nat.le_refl _) dX13_loan_20

theorem cmX13_loan {l : Launch} {w : WX} {M : Mem} {x1 : Int32} {res : (Int32 × Mem)} (zf : fX13_loan M x1 = some res) : CM l w yX13_loan cX13_loan 2 (some .int) { frames := 1, cells := 0, slots := 0, locals := 22 } 0 0 [rv w 103, .int x1] M (Pwi res) := by
  refine CM_of (by decide) (Nat.le_of_ble_eq_true rfl) (fun G hw hl h => ?_)
  subst hw
  exact kX13_loan_e0 h zf

-- X13_moved
theorem kX13_moved_b79 {G : GX} (h : OKm G cX13_moved RX13 5 (some .int) { frames := 4, cells := 0, slots := 0, locals := 97 }) {a35 : Mem → Int32 → Int32 → Int32 → Int32 → Option (Int32 × Mem)} (zh35 : ∀ (M : Mem) (x1 : Int32) (x2 : Int32) (x3 : Int32) (x4 : Int32) (res : (Int32 × Mem)), a35 M x1 x2 x3 x4 = some res → GG G (Qm G (Pwi res) 0 0) 0 0 35 [(0, rv G.1 103), (1, .int x1), (2, .int x2), (3, .int x3), (4, .int x4)] [] M) {M : Mem} {x1 : Int32} {x2 : Int32} {x4 : Int32} {s0 : Int32} {s1 : Int32} {res : (Int32 × Mem)} (zf : fX13_moved_b79 a35 M x1 x2 x4 s0 s1 = some res) : GG G (Qm G (Pwi res) 0 0) 0 0 79 [(0, rv G.1 103), (1, .int x1), (2, .int x2), (4, .int x4)] [.int s0, .int s1] M := by
  unfold fX13_moved_b79 at zf
  refine g_ior h dX13_moved_79 ?_
  refine g_nmI zf ?_
  clear zf; intro vq10 zf
  refine g_istore_n h rfl [(3, .int vq10), (0, rv G.1 103), (1, .int x1), (2, .int x2), (4, .int x4)] (by decide) rfl dX13_moved_80 ?_
  refine g_iinc h 4 4 rfl (v := x4 + 1) (congrArg (fun z => x4 + z) (by decide : Int32.ofInt (1) = (1 : Int32))) [(4, .int (x4 + 1)), (3, .int vq10), (0, rv G.1 103), (1, .int x1), (2, .int x2)] (by decide) rfl dX13_moved_81 ?_
  refine g_nmV zf ?_
  clear zf; intro vq11 zf
  refine g_goto h 35 (by decide) dX13_moved_84 ?_
  refine g_sub h [2, 3, 4, 1, 0] rfl ?_
  exact zh35 _ _ _ _ _ _ zf

theorem kX13_moved_b78 {G : GX} (h : OKm G cX13_moved RX13 5 (some .int) { frames := 4, cells := 0, slots := 0, locals := 97 }) {a35 : Mem → Int32 → Int32 → Int32 → Int32 → Option (Int32 × Mem)} (zh35 : ∀ (M : Mem) (x1 : Int32) (x2 : Int32) (x3 : Int32) (x4 : Int32) (res : (Int32 × Mem)), a35 M x1 x2 x3 x4 = some res → GG G (Qm G (Pwi res) 0 0) 0 0 35 [(0, rv G.1 103), (1, .int x1), (2, .int x2), (3, .int x3), (4, .int x4)] [] M) {M : Mem} {x1 : Int32} {x2 : Int32} {x4 : Int32} {s0 : Int32} {res : (Int32 × Mem)} (zf : fX13_moved_b78 a35 M x1 x2 x4 s0 = some res) : GG G (Qm G (Pwi res) 0 0) 0 0 78 [(0, rv G.1 103), (1, .int x1), (2, .int x2), (4, .int x4)] [.int s0] M := by
  unfold fX13_moved_b78 at zf
  refine g_iconst h 0 (v := 0) (by decide) dX13_moved_78 ?_
  refine g_sub h [0, 1, 2, 3] rfl ?_
  exact kX13_moved_b79 h zh35 zf

theorem kX13_moved_l35 {G : GX} (h : OKm G cX13_moved RX13 5 (some .int) { frames := 4, cells := 0, slots := 0, locals := 97 }) : ∀ (n : Nat) (M : Mem) (x1 : Int32) (x2 : Int32) (x3 : Int32) (x4 : Int32) (res : (Int32 × Mem)), fX13_moved_l35 n M x1 x2 x3 x4 = some res → GG G (Qm G (Pwi res) 0 0) 0 0 35 [(0, rv G.1 103), (1, .int x1), (2, .int x2), (3, .int x3), (4, .int x4)] [] M := by
  intro n
  induction n with
  | zero => intro M x1 x2 x3 x4 res zf; rw [fX13_moved_l35] at zf; cases zf
  | succ n ih =>
    intro M x1 x2 x3 x4 res zf
    rw [fX13_moved_l35] at zf
    refine g_iload h 4 rfl dX13_moved_35 ?_
    refine g_aload_n h 0 rfl dX13_moved_37 ?_
    refine gfX13_339 h (by decide : kd 103 = 11) dX13_moved_38 ?_
    refine g_nmI zf ?_
    clear zf; intro vq7 zf
    refine g_ic_ge h 87 (by decide) zf dX13_moved_41 ?_ ?_ <;> clear zf <;> intro zf
    · refine g_iload_n h 3 rfl dX13_moved_87 ?_
      obtain rfl := Option.some.inj zf
      exact g_iret h rfl ⟨rfl, rfl⟩ (Nat.le_refl _) (Nat.le_refl _) dX13_moved_88
    · refine g_iload_n h 3 rfl dX13_moved_44 ?_
      refine g_aload_n h 0 rfl dX13_moved_45 ?_
      refine g_iconst h 0 (v := 0) (by decide) dX13_moved_46 ?_
      refine g_iload h 4 rfl dX13_moved_47 ?_
      refine g_iconst h 0 (v := 0) (by decide) dX13_moved_49 ?_
      refine g_iconst h 0 (v := 0) (by decide) dX13_moved_50 ?_
      have zf1 := b2_some zf
      clear zf; obtain ⟨vq8, Mq9, zq, zf⟩ := zf1
      refine g_callVwi (As := [.int 0, .int x4, .int 0, .int 0]) (rest := [.int x3]) h ceX13_follows mlX13_372 imX13_follows seX13_follows (by rfl) (kd_lt (by rw [(by decide : kd 103 = 11)]; decide)) (ent_11 (by decide : kd 103 = 11)) rfl rfl ⟨by decide, by decide⟩ ⟨by decide, by decide⟩ rfl dX13_moved_51 rfl (Nat.le_of_ble_eq_true rfl) (cmX13_follows zq) ?_
      refine g_iload_n h 1 rfl dX13_moved_54 ?_
      refine g_ic_eq h 78 (by decide) zf dX13_moved_55 ?_ ?_ <;> clear zf <;> intro zf
      · refine g_sub h [0, 1, 2, 4] rfl ?_
        exact kX13_moved_b78 h ih zf
      · refine g_aload_n h 0 rfl dX13_moved_58 ?_
        refine g_iconst h 0 (v := 0) (by decide) dX13_moved_59 ?_
        refine g_iload h 4 rfl dX13_moved_60 ?_
        refine g_iload_n h 1 rfl dX13_moved_62 ?_
        refine g_iload_n h 2 rfl dX13_moved_63 ?_
        have zf1 := b2_some zf
        clear zf; obtain ⟨vq12, Mq13, zq, zf⟩ := zf1
        refine g_callVwi (As := [.int 0, .int x4, .int x1, .int x2]) (rest := [.int x3]) h ceX13_follows mlX13_372 imX13_follows seX13_follows (by rfl) (kd_lt (by rw [(by decide : kd 103 = 11)]; decide)) (ent_11 (by decide : kd 103 = 11)) rfl rfl ⟨by decide, by decide⟩ ⟨by decide, by decide⟩ rfl dX13_moved_64 rfl (Nat.le_of_ble_eq_true rfl) (cmX13_follows zq) ?_
        refine g_iload_n h 1 rfl dX13_moved_67 ?_
        refine g_ic_ne h 78 (by decide) zf dX13_moved_68 ?_ ?_ <;> clear zf <;> intro zf
        · refine g_sub h [0, 1, 2, 4] rfl ?_
          exact kX13_moved_b78 h ih zf
        · refine g_iconst h 1 (v := 1) (by decide) dX13_moved_71 ?_
          refine g_iload h 4 rfl dX13_moved_72 ?_
          refine g_ishl h dX13_moved_74 ?_
          refine g_goto h 79 (by decide) dX13_moved_75 ?_
          refine g_sub h [0, 1, 2, 4] rfl ?_
          exact kX13_moved_b79 h ih zf

theorem kX13_moved_e0 {G : GX} (h : OKm G cX13_moved RX13 5 (some .int) { frames := 4, cells := 0, slots := 0, locals := 97 }) {M : Mem} {x1 : Int32} {x2 : Int32} {res : (Int32 × Mem)} (zf : fX13_moved M x1 x2 = some res) : GG G (Qm G (Pwi res) 0 0) 0 0 0 [(0, rv G.1 103), (1, .int x1), (2, .int x2)] [] M := by
  unfold fX13_moved at zf
  refine g_aload_n h 0 rfl dX13_moved_0 ?_
  refine g_iconst h 0 (v := 0) (by decide) dX13_moved_1 ?_
  refine pfX13_141 h (by decide : kd 103 = 11) dX13_moved_2 ?_
  refine g_nmM zf ?_
  clear zf; intro Mq1 zf
  refine g_aload_n h 0 rfl dX13_moved_5 ?_
  refine g_iload_n h 1 rfl dX13_moved_6 ?_
  have zf1 := b2_some zf
  clear zf; obtain ⟨vq2, Mq3, zq, zf⟩ := zf1
  refine g_callVwi (As := [.int x1]) (rest := []) h ceX13_isBrother mlX13_417 imX13_isBrother seX13_isBrother (by rfl) (kd_lt (by rw [(by decide : kd 103 = 11)]; decide)) (ent_11 (by decide : kd 103 = 11)) rfl rfl ⟨by decide, by decide⟩ ⟨by decide, by decide⟩ rfl dX13_moved_7 rfl (Nat.le_of_ble_eq_true rfl) (cmX13_isBrother zq) ?_
  refine g_if_eq h 28 (by decide) zf dX13_moved_10 ?_ ?_ <;> clear zf <;> intro zf
  · refine g_iconst h 0 (v := 0) (by decide) dX13_moved_28 ?_
    obtain rfl := Option.some.inj zf
    exact g_iret h rfl ⟨rfl, rfl⟩ (Nat.le_refl _) (Nat.le_refl _) dX13_moved_29
  · refine g_aload_n h 0 rfl dX13_moved_13 ?_
    refine g_iload_n h 2 rfl dX13_moved_14 ?_
    refine g_iconst h 1 (v := 1) (by decide) dX13_moved_15 ?_
    refine g_bipush h 99 (v := 99) (by decide) dX13_moved_16 ?_
    have zf1 := bd_some zf
    clear zf; obtain ⟨vq4, zq, zf⟩ := zf1
    refine g_callSri (As := [.int x2, .int 1, .int 99]) (rest := [rv G.1 103]) h ceX13_within mlX13_407 smX13_within rfl rfl ⟨by decide, by decide⟩ ⟨by decide, by decide⟩ rfl dX13_moved_18 rfl (Nat.le_of_ble_eq_true rfl) (cmX13_within zq) ?_
    refine g_iconst h 2 (v := 2) (by decide) dX13_moved_21 ?_
    have zf1 := b2_some zf
    clear zf; obtain ⟨vq5, Mq6, zq, zf⟩ := zf1
    refine g_callVwi (As := [.int vq4, .int 2]) (rest := []) h ceX13_right mlX13_326 imX13_right seX13_right (by rfl) (kd_lt (by rw [(by decide : kd 103 = 11)]; decide)) (ent_11 (by decide : kd 103 = 11)) rfl rfl ⟨by decide, by decide⟩ ⟨by decide, by decide⟩ rfl dX13_moved_22 rfl (Nat.le_of_ble_eq_true rfl) (cmX13_right zq) ?_
    refine g_if_ne h 30 (by decide) zf dX13_moved_25 ?_ ?_ <;> clear zf <;> intro zf
    · refine g_iconst h 0 (v := 0) (by decide) dX13_moved_30 ?_
      refine g_istore_n h rfl [(3, .int 0), (0, rv G.1 103), (1, .int x1), (2, .int x2)] (by decide) rfl dX13_moved_31 ?_
      refine g_iconst h 0 (v := 0) (by decide) dX13_moved_32 ?_
      refine g_istore h [(4, .int 0), (3, .int 0), (0, rv G.1 103), (1, .int x1), (2, .int x2)] (by decide) rfl dX13_moved_33 ?_
      refine g_sub h [2, 3, 4, 1, 0] rfl ?_
      exact kX13_moved_l35 h _ _ _ _ _ _ _ zf
    · refine g_iconst h 0 (v := 0) (by decide) dX13_moved_28 ?_
      obtain rfl := Option.some.inj zf
      exact g_iret h rfl ⟨rfl, rfl⟩ (Nat.le_refl _) (Nat.le_refl _) dX13_moved_29

theorem cmX13_moved {l : Launch} {w : WX} {M : Mem} {x1 : Int32} {x2 : Int32} {res : (Int32 × Mem)} (zf : fX13_moved M x1 x2 = some res) : CM l w yX13_moved cX13_moved 5 (some .int) { frames := 4, cells := 0, slots := 0, locals := 97 } 0 0 [rv w 103, .int x1, .int x2] M (Pwi res) := by
  refine CM_of (by decide) (Nat.le_of_ble_eq_true rfl) (fun G hw hl h => ?_)
  subst hw
  exact kX13_moved_e0 h zf

-- X13_next
theorem kX13_next_b228 {G : GX} (h : OKm G cX13_next RX13 10 (some .int) { frames := 9, cells := 0, slots := 0, locals := 211 }) {a109 : Mem → Int32 → Int32 → Int32 → Int32 → Int32 → Option (Int32 × Mem)} (zh109 : ∀ (M : Mem) (x1 : Int32) (x2 : Int32) (x3 : Int32) (x4 : Int32) (x5 : Int32) (res : (Int32 × Mem)), a109 M x1 x2 x3 x4 x5 = some res → GG G (Qm G (Pwi res) 0 0) 0 0 109 [(0, rv G.1 103), (1, .int x1), (2, .int x2), (3, .int x3), (4, .int x4), (5, .int x5)] [] M) {M : Mem} {x1 : Int32} {x2 : Int32} {x3 : Int32} {x4 : Int32} {x5 : Int32} {res : (Int32 × Mem)} (zf : fX13_next_b228 a109 M x1 x2 x3 x4 x5 = some res) : GG G (Qm G (Pwi res) 0 0) 0 0 228 [(0, rv G.1 103), (1, .int x1), (2, .int x2), (3, .int x3), (4, .int x4), (5, .int x5)] [] M := by
  unfold fX13_next_b228 at zf
  refine g_iinc h 5 5 rfl (v := x5 + 1) (congrArg (fun z => x5 + z) (by decide : Int32.ofInt (1) = (1 : Int32))) [(5, .int (x5 + 1)), (0, rv G.1 103), (1, .int x1), (2, .int x2), (3, .int x3), (4, .int x4)] (by decide) rfl dX13_next_228 ?_
  refine g_nmV zf ?_
  clear zf; intro vq5 zf
  refine g_goto h 109 (by decide) dX13_next_231 ?_
  refine g_sub h [1, 2, 3, 4, 5, 0] rfl ?_
  exact zh109 _ _ _ _ _ _ _ zf

theorem kX13_next_b200 {G : GX} (h : OKm G cX13_next RX13 10 (some .int) { frames := 9, cells := 0, slots := 0, locals := 211 }) {a109 : Mem → Int32 → Int32 → Int32 → Int32 → Int32 → Option (Int32 × Mem)} (zh109 : ∀ (M : Mem) (x1 : Int32) (x2 : Int32) (x3 : Int32) (x4 : Int32) (x5 : Int32) (res : (Int32 × Mem)), a109 M x1 x2 x3 x4 x5 = some res → GG G (Qm G (Pwi res) 0 0) 0 0 109 [(0, rv G.1 103), (1, .int x1), (2, .int x2), (3, .int x3), (4, .int x4), (5, .int x5)] [] M) {a122 : Mem → Int32 → Int32 → Int32 → Int32 → Int32 → Int32 → Int32 → Option (Int32 × Mem)} (zh122 : ∀ (M : Mem) (x1 : Int32) (x2 : Int32) (x3 : Int32) (x4 : Int32) (x5 : Int32) (x6 : Int32) (x7 : Int32) (res : (Int32 × Mem)), a122 M x1 x2 x3 x4 x5 x6 x7 = some res → GG G (Qm G (Pwi res) 0 0) 0 0 122 [(0, rv G.1 103), (1, .int x1), (2, .int x2), (3, .int x3), (4, .int x4), (5, .int x5), (6, .int x6), (7, .int x7)] [] M) {M : Mem} {x1 : Int32} {x2 : Int32} {x3 : Int32} {x4 : Int32} {x5 : Int32} {x7 : Int32} {s0 : Int32} {s1 : Int32} {res : (Int32 × Mem)} (zf : fX13_next_b200 a109 a122 M x1 x2 x3 x4 x5 x7 s0 s1 = some res) : GG G (Qm G (Pwi res) 0 0) 0 0 200 [(0, rv G.1 103), (1, .int x1), (2, .int x2), (3, .int x3), (4, .int x4), (5, .int x5), (7, .int x7)] [.int s0, .int s1] M := by
  unfold fX13_next_b200 at zf
  refine g_iadd h dX13_next_200 ?_
  refine g_nmI zf ?_
  clear zf; intro vq6 zf
  refine g_istore h [(6, .int vq6), (0, rv G.1 103), (1, .int x1), (2, .int x2), (3, .int x3), (4, .int x4), (5, .int x5), (7, .int x7)] (by decide) rfl dX13_next_201 ?_
  refine g_iinc h 7 7 rfl (v := x7 + 1) (congrArg (fun z => x7 + z) (by decide : Int32.ofInt (1) = (1 : Int32))) [(7, .int (x7 + 1)), (6, .int vq6), (0, rv G.1 103), (1, .int x1), (2, .int x2), (3, .int x3), (4, .int x4), (5, .int x5)] (by decide) rfl dX13_next_203 ?_
  refine g_nmV zf ?_
  clear zf; intro vq7 zf
  refine g_goto h 122 (by decide) dX13_next_206 ?_
  refine g_sub h [2, 3, 4, 5, 6, 7, 1, 0] rfl ?_
  exact zh122 _ _ _ _ _ _ _ _ _ zf

theorem kX13_next_b188 {G : GX} (h : OKm G cX13_next RX13 10 (some .int) { frames := 9, cells := 0, slots := 0, locals := 211 }) {a109 : Mem → Int32 → Int32 → Int32 → Int32 → Int32 → Option (Int32 × Mem)} (zh109 : ∀ (M : Mem) (x1 : Int32) (x2 : Int32) (x3 : Int32) (x4 : Int32) (x5 : Int32) (res : (Int32 × Mem)), a109 M x1 x2 x3 x4 x5 = some res → GG G (Qm G (Pwi res) 0 0) 0 0 109 [(0, rv G.1 103), (1, .int x1), (2, .int x2), (3, .int x3), (4, .int x4), (5, .int x5)] [] M) {a122 : Mem → Int32 → Int32 → Int32 → Int32 → Int32 → Int32 → Int32 → Option (Int32 × Mem)} (zh122 : ∀ (M : Mem) (x1 : Int32) (x2 : Int32) (x3 : Int32) (x4 : Int32) (x5 : Int32) (x6 : Int32) (x7 : Int32) (res : (Int32 × Mem)), a122 M x1 x2 x3 x4 x5 x6 x7 = some res → GG G (Qm G (Pwi res) 0 0) 0 0 122 [(0, rv G.1 103), (1, .int x1), (2, .int x2), (3, .int x3), (4, .int x4), (5, .int x5), (6, .int x6), (7, .int x7)] [] M) {M : Mem} {x1 : Int32} {x2 : Int32} {x3 : Int32} {x4 : Int32} {x5 : Int32} {x6 : Int32} {x7 : Int32} {x8 : Int32} {res : (Int32 × Mem)} (zf : fX13_next_b188 a109 a122 M x1 x2 x3 x4 x5 x6 x7 x8 = some res) : GG G (Qm G (Pwi res) 0 0) 0 0 188 [(0, rv G.1 103), (1, .int x1), (2, .int x2), (3, .int x3), (4, .int x4), (5, .int x5), (6, .int x6), (7, .int x7), (8, .int x8)] [] M := by
  unfold fX13_next_b188 at zf
  refine g_iload h 6 rfl dX13_next_188 ?_
  refine g_iload h 8 rfl dX13_next_190 ?_
  refine g_if_eq h 199 (by decide) zf dX13_next_192 ?_ ?_ <;> clear zf <;> intro zf
  · refine g_iconst h 0 (v := 0) (by decide) dX13_next_199 ?_
    refine g_sub h [0, 1, 2, 3, 4, 5, 7] rfl ?_
    exact kX13_next_b200 h zh109 zh122 zf
  · refine g_iconst h 1 (v := 1) (by decide) dX13_next_195 ?_
    refine g_goto h 200 (by decide) dX13_next_196 ?_
    refine g_sub h [0, 1, 2, 3, 4, 5, 7] rfl ?_
    exact kX13_next_b200 h zh109 zh122 zf

theorem kX13_next_b180 {G : GX} (h : OKm G cX13_next RX13 10 (some .int) { frames := 9, cells := 0, slots := 0, locals := 211 }) {a109 : Mem → Int32 → Int32 → Int32 → Int32 → Int32 → Option (Int32 × Mem)} (zh109 : ∀ (M : Mem) (x1 : Int32) (x2 : Int32) (x3 : Int32) (x4 : Int32) (x5 : Int32) (res : (Int32 × Mem)), a109 M x1 x2 x3 x4 x5 = some res → GG G (Qm G (Pwi res) 0 0) 0 0 109 [(0, rv G.1 103), (1, .int x1), (2, .int x2), (3, .int x3), (4, .int x4), (5, .int x5)] [] M) {a122 : Mem → Int32 → Int32 → Int32 → Int32 → Int32 → Int32 → Int32 → Option (Int32 × Mem)} (zh122 : ∀ (M : Mem) (x1 : Int32) (x2 : Int32) (x3 : Int32) (x4 : Int32) (x5 : Int32) (x6 : Int32) (x7 : Int32) (res : (Int32 × Mem)), a122 M x1 x2 x3 x4 x5 x6 x7 = some res → GG G (Qm G (Pwi res) 0 0) 0 0 122 [(0, rv G.1 103), (1, .int x1), (2, .int x2), (3, .int x3), (4, .int x4), (5, .int x5), (6, .int x6), (7, .int x7)] [] M) {a134 : Mem → Int32 → Int32 → Int32 → Int32 → Int32 → Int32 → Int32 → Int32 → Int32 → Option (Int32 × Mem)} (zh134 : ∀ (M : Mem) (x1 : Int32) (x2 : Int32) (x3 : Int32) (x4 : Int32) (x5 : Int32) (x6 : Int32) (x7 : Int32) (x8 : Int32) (x9 : Int32) (res : (Int32 × Mem)), a134 M x1 x2 x3 x4 x5 x6 x7 x8 x9 = some res → GG G (Qm G (Pwi res) 0 0) 0 0 134 [(0, rv G.1 103), (1, .int x1), (2, .int x2), (3, .int x3), (4, .int x4), (5, .int x5), (6, .int x6), (7, .int x7), (8, .int x8), (9, .int x9)] [] M) {M : Mem} {x1 : Int32} {x2 : Int32} {x3 : Int32} {x4 : Int32} {x5 : Int32} {x6 : Int32} {x7 : Int32} {x9 : Int32} {s0 : Int32} {res : (Int32 × Mem)} (zf : fX13_next_b180 a109 a122 a134 M x1 x2 x3 x4 x5 x6 x7 x9 s0 = some res) : GG G (Qm G (Pwi res) 0 0) 0 0 180 [(0, rv G.1 103), (1, .int x1), (2, .int x2), (3, .int x3), (4, .int x4), (5, .int x5), (6, .int x6), (7, .int x7), (9, .int x9)] [.int s0] M := by
  unfold fX13_next_b180 at zf
  refine g_istore h [(8, .int s0), (0, rv G.1 103), (1, .int x1), (2, .int x2), (3, .int x3), (4, .int x4), (5, .int x5), (6, .int x6), (7, .int x7), (9, .int x9)] (by decide) rfl dX13_next_180 ?_
  refine g_iinc h 9 9 rfl (v := x9 + 1) (congrArg (fun z => x9 + z) (by decide : Int32.ofInt (1) = (1 : Int32))) [(9, .int (x9 + 1)), (8, .int s0), (0, rv G.1 103), (1, .int x1), (2, .int x2), (3, .int x3), (4, .int x4), (5, .int x5), (6, .int x6), (7, .int x7)] (by decide) rfl dX13_next_182 ?_
  refine g_nmV zf ?_
  clear zf; intro vq10 zf
  refine g_goto h 134 (by decide) dX13_next_185 ?_
  refine g_sub h [2, 3, 4, 5, 6, 7, 8, 9, 1, 0] rfl ?_
  exact zh134 _ _ _ _ _ _ _ _ _ _ _ zf

theorem kX13_next_l134 {G : GX} (h : OKm G cX13_next RX13 10 (some .int) { frames := 9, cells := 0, slots := 0, locals := 211 }) {a109 : Mem → Int32 → Int32 → Int32 → Int32 → Int32 → Option (Int32 × Mem)} (zh109 : ∀ (M : Mem) (x1 : Int32) (x2 : Int32) (x3 : Int32) (x4 : Int32) (x5 : Int32) (res : (Int32 × Mem)), a109 M x1 x2 x3 x4 x5 = some res → GG G (Qm G (Pwi res) 0 0) 0 0 109 [(0, rv G.1 103), (1, .int x1), (2, .int x2), (3, .int x3), (4, .int x4), (5, .int x5)] [] M) {a122 : Mem → Int32 → Int32 → Int32 → Int32 → Int32 → Int32 → Int32 → Option (Int32 × Mem)} (zh122 : ∀ (M : Mem) (x1 : Int32) (x2 : Int32) (x3 : Int32) (x4 : Int32) (x5 : Int32) (x6 : Int32) (x7 : Int32) (res : (Int32 × Mem)), a122 M x1 x2 x3 x4 x5 x6 x7 = some res → GG G (Qm G (Pwi res) 0 0) 0 0 122 [(0, rv G.1 103), (1, .int x1), (2, .int x2), (3, .int x3), (4, .int x4), (5, .int x5), (6, .int x6), (7, .int x7)] [] M) : ∀ (n : Nat) (M : Mem) (x1 : Int32) (x2 : Int32) (x3 : Int32) (x4 : Int32) (x5 : Int32) (x6 : Int32) (x7 : Int32) (x8 : Int32) (x9 : Int32) (res : (Int32 × Mem)), fX13_next_l134 a109 a122 n M x1 x2 x3 x4 x5 x6 x7 x8 x9 = some res → GG G (Qm G (Pwi res) 0 0) 0 0 134 [(0, rv G.1 103), (1, .int x1), (2, .int x2), (3, .int x3), (4, .int x4), (5, .int x5), (6, .int x6), (7, .int x7), (8, .int x8), (9, .int x9)] [] M := by
  intro n
  induction n with
  | zero => intro M x1 x2 x3 x4 x5 x6 x7 x8 x9 res zf; rw [fX13_next_l134] at zf; cases zf
  | succ n ih =>
    intro M x1 x2 x3 x4 x5 x6 x7 x8 x9 res zf
    rw [fX13_next_l134] at zf
    refine g_iload h 9 rfl dX13_next_134 ?_
    refine g_iload h 7 rfl dX13_next_136 ?_
    refine g_ic_ge h 188 (by decide) zf dX13_next_138 ?_ ?_ <;> clear zf <;> intro zf
    · refine g_sub h [0, 1, 2, 3, 4, 5, 6, 7, 8] rfl ?_
      exact kX13_next_b188 h zh109 zh122 zf
    · refine g_iload h 8 rfl dX13_next_141 ?_
      refine g_if_eq h 188 (by decide) zf dX13_next_143 ?_ ?_ <;> clear zf <;> intro zf
      · refine g_sub h [0, 1, 2, 3, 4, 5, 6, 7, 8] rfl ?_
        exact kX13_next_b188 h zh109 zh122 zf
      · refine g_aload_n h 0 rfl dX13_next_146 ?_
        refine gfX13_129 h (by decide : kd 103 = 11) dX13_next_147 ?_
        refine g_bipush h 30 (v := 30) (by decide) dX13_next_150 ?_
        refine g_iload h 7 rfl dX13_next_152 ?_
        refine g_imul h dX13_next_154 ?_
        refine g_iload h 5 rfl dX13_next_155 ?_
        refine g_iadd h dX13_next_157 ?_
        refine g_iald h 2520 (by decide : kd 140 = 20) (by decide) zf dX13_next_158 ?_
        clear zf; intro vq8 zf
        refine g_aload_n h 0 rfl dX13_next_159 ?_
        refine gfX13_129 h (by decide : kd 103 = 11) dX13_next_160 ?_
        refine g_bipush h 30 (v := 30) (by decide) dX13_next_163 ?_
        refine g_iload h 9 rfl dX13_next_165 ?_
        refine g_imul h dX13_next_167 ?_
        refine g_iload h 5 rfl dX13_next_168 ?_
        refine g_iadd h dX13_next_170 ?_
        refine g_iald h 2520 (by decide : kd 140 = 20) (by decide) zf dX13_next_171 ?_
        clear zf; intro vq9 zf
        refine g_ic_eq h 179 (by decide) zf dX13_next_172 ?_ ?_ <;> clear zf <;> intro zf
        · refine g_iconst h 0 (v := 0) (by decide) dX13_next_179 ?_
          refine g_sub h [0, 1, 2, 3, 4, 5, 6, 7, 9] rfl ?_
          exact kX13_next_b180 h zh109 zh122 ih zf
        · refine g_iconst h 1 (v := 1) (by decide) dX13_next_175 ?_
          refine g_goto h 180 (by decide) dX13_next_176 ?_
          refine g_sub h [0, 1, 2, 3, 4, 5, 6, 7, 9] rfl ?_
          exact kX13_next_b180 h zh109 zh122 ih zf

theorem kX13_next_l122 {G : GX} (h : OKm G cX13_next RX13 10 (some .int) { frames := 9, cells := 0, slots := 0, locals := 211 }) {a109 : Mem → Int32 → Int32 → Int32 → Int32 → Int32 → Option (Int32 × Mem)} (zh109 : ∀ (M : Mem) (x1 : Int32) (x2 : Int32) (x3 : Int32) (x4 : Int32) (x5 : Int32) (res : (Int32 × Mem)), a109 M x1 x2 x3 x4 x5 = some res → GG G (Qm G (Pwi res) 0 0) 0 0 109 [(0, rv G.1 103), (1, .int x1), (2, .int x2), (3, .int x3), (4, .int x4), (5, .int x5)] [] M) : ∀ (n : Nat) (M : Mem) (x1 : Int32) (x2 : Int32) (x3 : Int32) (x4 : Int32) (x5 : Int32) (x6 : Int32) (x7 : Int32) (res : (Int32 × Mem)), fX13_next_l122 a109 n M x1 x2 x3 x4 x5 x6 x7 = some res → GG G (Qm G (Pwi res) 0 0) 0 0 122 [(0, rv G.1 103), (1, .int x1), (2, .int x2), (3, .int x3), (4, .int x4), (5, .int x5), (6, .int x6), (7, .int x7)] [] M := by
  intro n
  induction n with
  | zero => intro M x1 x2 x3 x4 x5 x6 x7 res zf; rw [fX13_next_l122] at zf; cases zf
  | succ n ih =>
    intro M x1 x2 x3 x4 x5 x6 x7 res zf
    rw [fX13_next_l122] at zf
    refine g_iload h 7 rfl dX13_next_122 ?_
    refine g_iload_n h 2 rfl dX13_next_124 ?_
    refine g_ic_ge h 209 (by decide) zf dX13_next_125 ?_ ?_ <;> clear zf <;> intro zf
    · refine g_iload h 6 rfl dX13_next_209 ?_
      refine g_iload h 4 rfl dX13_next_211 ?_
      refine g_ic_gt h 219 (by decide) zf dX13_next_213 ?_ ?_ <;> clear zf <;> intro zf
      · refine g_iload h 5 rfl dX13_next_219 ?_
        refine g_iconst h 1 (v := 1) (by decide) dX13_next_221 ?_
        refine g_iadd h dX13_next_222 ?_
        refine g_nmI zf ?_
        clear zf; intro vq4 zf
        refine g_istore_n h rfl [(3, .int vq4), (0, rv G.1 103), (1, .int x1), (2, .int x2), (4, .int x4), (5, .int x5), (6, .int x6), (7, .int x7)] (by decide) rfl dX13_next_223 ?_
        refine g_iload h 6 rfl dX13_next_224 ?_
        refine g_istore h [(4, .int x6), (3, .int vq4), (0, rv G.1 103), (1, .int x1), (2, .int x2), (5, .int x5), (6, .int x6), (7, .int x7)] (by decide) rfl dX13_next_226 ?_
        refine g_sub h [2, 3, 4, 1, 0, 5] rfl ?_
        exact kX13_next_b228 h zh109 zf
      · refine g_goto h 228 (by decide) dX13_next_216 ?_
        refine g_sub h [0, 1, 2, 3, 4, 5] rfl ?_
        exact kX13_next_b228 h zh109 zf
    · refine g_iconst h 1 (v := 1) (by decide) dX13_next_128 ?_
      refine g_istore h [(8, .int 1), (0, rv G.1 103), (1, .int x1), (2, .int x2), (3, .int x3), (4, .int x4), (5, .int x5), (6, .int x6), (7, .int x7)] (by decide) rfl dX13_next_129 ?_
      refine g_iconst h 0 (v := 0) (by decide) dX13_next_131 ?_
      refine g_istore h [(9, .int 0), (8, .int 1), (0, rv G.1 103), (1, .int x1), (2, .int x2), (3, .int x3), (4, .int x4), (5, .int x5), (6, .int x6), (7, .int x7)] (by decide) rfl dX13_next_132 ?_
      refine g_sub h [2, 3, 4, 5, 6, 7, 8, 9, 1, 0] rfl ?_
      exact kX13_next_l134 h zh109 ih _ _ _ _ _ _ _ _ _ _ _ _ zf

theorem kX13_next_l109 {G : GX} (h : OKm G cX13_next RX13 10 (some .int) { frames := 9, cells := 0, slots := 0, locals := 211 }) : ∀ (n : Nat) (M : Mem) (x1 : Int32) (x2 : Int32) (x3 : Int32) (x4 : Int32) (x5 : Int32) (res : (Int32 × Mem)), fX13_next_l109 n M x1 x2 x3 x4 x5 = some res → GG G (Qm G (Pwi res) 0 0) 0 0 109 [(0, rv G.1 103), (1, .int x1), (2, .int x2), (3, .int x3), (4, .int x4), (5, .int x5)] [] M := by
  intro n
  induction n with
  | zero => intro M x1 x2 x3 x4 x5 res zf; rw [fX13_next_l109] at zf; cases zf
  | succ n ih =>
    intro M x1 x2 x3 x4 x5 res zf
    rw [fX13_next_l109] at zf
    refine g_iload h 5 rfl dX13_next_109 ?_
    refine g_bipush h 30 (v := 30) (by decide) dX13_next_111 ?_
    refine g_ic_ge h 234 (by decide) zf dX13_next_113 ?_ ?_ <;> clear zf <;> intro zf
    · refine g_iload_n h 1 rfl dX13_next_234 ?_
      refine g_if_ne h 242 (by decide) zf dX13_next_235 ?_ ?_ <;> clear zf <;> intro zf
      · refine g_iload h 4 rfl dX13_next_242 ?_
        obtain rfl := Option.some.inj zf
        exact g_iret h rfl ⟨rfl, rfl⟩ (Nat.le_refl _) (Nat.le_refl _) dX13_next_244
      · refine g_iload_n h 3 rfl dX13_next_238 ?_
        refine g_goto h 244 (by decide) dX13_next_239 ?_
        obtain rfl := Option.some.inj zf
        exact g_iret h rfl ⟨rfl, rfl⟩ (Nat.le_refl _) (Nat.le_refl _) dX13_next_244
    · refine g_iconst h 0 (v := 0) (by decide) dX13_next_116 ?_
      refine g_istore h [(6, .int 0), (0, rv G.1 103), (1, .int x1), (2, .int x2), (3, .int x3), (4, .int x4), (5, .int x5)] (by decide) rfl dX13_next_117 ?_
      refine g_iconst h 0 (v := 0) (by decide) dX13_next_119 ?_
      refine g_istore h [(7, .int 0), (6, .int 0), (0, rv G.1 103), (1, .int x1), (2, .int x2), (3, .int x3), (4, .int x4), (5, .int x5)] (by decide) rfl dX13_next_120 ?_
      refine g_sub h [2, 3, 4, 5, 6, 7, 1, 0] rfl ?_
      exact kX13_next_l122 h ih _ _ _ _ _ _ _ _ _ _ zf

theorem kX13_next_b89 {G : GX} (h : OKm G cX13_next RX13 10 (some .int) { frames := 9, cells := 0, slots := 0, locals := 211 }) {a20 : Mem → Int32 → Int32 → Int32 → Option (Int32 × Mem)} (zh20 : ∀ (M : Mem) (x1 : Int32) (x2 : Int32) (x3 : Int32) (res : (Int32 × Mem)), a20 M x1 x2 x3 = some res → GG G (Qm G (Pwi res) 0 0) 0 0 20 [(0, rv G.1 103), (1, .int x1), (2, .int x2), (3, .int x3)] [] M) {a29 : Mem → Int32 → Int32 → Int32 → Int32 → Option (Int32 × Mem)} (zh29 : ∀ (M : Mem) (x1 : Int32) (x2 : Int32) (x3 : Int32) (x4 : Int32) (res : (Int32 × Mem)), a29 M x1 x2 x3 x4 = some res → GG G (Qm G (Pwi res) 0 0) 0 0 29 [(0, rv G.1 103), (1, .int x1), (2, .int x2), (3, .int x3), (4, .int x4)] [] M) {M : Mem} {x1 : Int32} {x2 : Int32} {x3 : Int32} {x4 : Int32} {res : (Int32 × Mem)} (zf : fX13_next_b89 a20 a29 M x1 x2 x3 x4 = some res) : GG G (Qm G (Pwi res) 0 0) 0 0 89 [(0, rv G.1 103), (1, .int x1), (2, .int x2), (3, .int x3), (4, .int x4)] [] M := by
  unfold fX13_next_b89 at zf
  refine g_iinc h 4 4 rfl (v := x4 + 1) (congrArg (fun z => x4 + z) (by decide : Int32.ofInt (1) = (1 : Int32))) [(4, .int (x4 + 1)), (0, rv G.1 103), (1, .int x1), (2, .int x2), (3, .int x3)] (by decide) rfl dX13_next_89 ?_
  refine g_nmV zf ?_
  clear zf; intro vq16 zf
  refine g_goto h 29 (by decide) dX13_next_92 ?_
  refine g_sub h [1, 2, 3, 4, 0] rfl ?_
  exact zh29 _ _ _ _ _ _ zf

theorem kX13_next_l54 {G : GX} (h : OKm G cX13_next RX13 10 (some .int) { frames := 9, cells := 0, slots := 0, locals := 211 }) {a20 : Mem → Int32 → Int32 → Int32 → Option (Int32 × Mem)} (zh20 : ∀ (M : Mem) (x1 : Int32) (x2 : Int32) (x3 : Int32) (res : (Int32 × Mem)), a20 M x1 x2 x3 = some res → GG G (Qm G (Pwi res) 0 0) 0 0 20 [(0, rv G.1 103), (1, .int x1), (2, .int x2), (3, .int x3)] [] M) {a29 : Mem → Int32 → Int32 → Int32 → Int32 → Option (Int32 × Mem)} (zh29 : ∀ (M : Mem) (x1 : Int32) (x2 : Int32) (x3 : Int32) (x4 : Int32) (res : (Int32 × Mem)), a29 M x1 x2 x3 x4 = some res → GG G (Qm G (Pwi res) 0 0) 0 0 29 [(0, rv G.1 103), (1, .int x1), (2, .int x2), (3, .int x3), (4, .int x4)] [] M) : ∀ (n : Nat) (M : Mem) (x1 : Int32) (x2 : Int32) (x3 : Int32) (x4 : Int32) (x5 : Int32) (res : (Int32 × Mem)), fX13_next_l54 a20 a29 n M x1 x2 x3 x4 x5 = some res → GG G (Qm G (Pwi res) 0 0) 0 0 54 [(0, rv G.1 103), (1, .int x1), (2, .int x2), (3, .int x3), (4, .int x4), (5, .int x5)] [] M := by
  intro n
  induction n with
  | zero => intro M x1 x2 x3 x4 x5 res zf; rw [fX13_next_l54] at zf; cases zf
  | succ n ih =>
    intro M x1 x2 x3 x4 x5 res zf
    rw [fX13_next_l54] at zf
    refine g_iload h 5 rfl dX13_next_54 ?_
    refine g_bipush h 30 (v := 30) (by decide) dX13_next_56 ?_
    refine g_ic_ge h 86 (by decide) zf dX13_next_58 ?_ ?_ <;> clear zf <;> intro zf
    · refine g_iinc h 2 2 rfl (v := x2 + 1) (congrArg (fun z => x2 + z) (by decide : Int32.ofInt (1) = (1 : Int32))) [(2, .int (x2 + 1)), (0, rv G.1 103), (1, .int x1), (3, .int x3), (4, .int x4), (5, .int x5)] (by decide) rfl dX13_next_86 ?_
      refine g_nmV zf ?_
      clear zf; intro vq15 zf
      refine g_sub h [1, 2, 0, 3, 4] rfl ?_
      exact kX13_next_b89 h zh20 zh29 zf
    · refine g_aload_n h 0 rfl dX13_next_61 ?_
      refine gfX13_129 h (by decide : kd 103 = 11) dX13_next_62 ?_
      refine g_bipush h 30 (v := 30) (by decide) dX13_next_65 ?_
      refine g_iload_n h 2 rfl dX13_next_67 ?_
      refine g_imul h dX13_next_68 ?_
      refine g_iload h 5 rfl dX13_next_69 ?_
      refine g_iadd h dX13_next_71 ?_
      refine g_aload_n h 0 rfl dX13_next_72 ?_
      refine gfX13_126 h (by decide : kd 103 = 11) dX13_next_73 ?_
      refine g_iload h 5 rfl dX13_next_76 ?_
      refine g_iald h 30 (by decide : kd 139 = 20) (by decide) zf dX13_next_78 ?_
      clear zf; intro vq17 zf
      refine g_iast h 2520 (by decide : kd 140 = 20) (by decide) zf dX13_next_79 ?_
      clear zf; intro Mq18 zf
      refine g_iinc h 5 5 rfl (v := x5 + 1) (congrArg (fun z => x5 + z) (by decide : Int32.ofInt (1) = (1 : Int32))) [(5, .int (x5 + 1)), (0, rv G.1 103), (1, .int x1), (2, .int x2), (3, .int x3), (4, .int x4)] (by decide) rfl dX13_next_80 ?_
      refine g_nmV zf ?_
      clear zf; intro vq19 zf
      refine g_goto h 54 (by decide) dX13_next_83 ?_
      refine g_sub h [1, 2, 3, 4, 5, 0] rfl ?_
      exact ih _ _ _ _ _ _ _ zf

theorem kX13_next_l29 {G : GX} (h : OKm G cX13_next RX13 10 (some .int) { frames := 9, cells := 0, slots := 0, locals := 211 }) {a20 : Mem → Int32 → Int32 → Int32 → Option (Int32 × Mem)} (zh20 : ∀ (M : Mem) (x1 : Int32) (x2 : Int32) (x3 : Int32) (res : (Int32 × Mem)), a20 M x1 x2 x3 = some res → GG G (Qm G (Pwi res) 0 0) 0 0 20 [(0, rv G.1 103), (1, .int x1), (2, .int x2), (3, .int x3)] [] M) : ∀ (n : Nat) (M : Mem) (x1 : Int32) (x2 : Int32) (x3 : Int32) (x4 : Int32) (res : (Int32 × Mem)), fX13_next_l29 a20 n M x1 x2 x3 x4 = some res → GG G (Qm G (Pwi res) 0 0) 0 0 29 [(0, rv G.1 103), (1, .int x1), (2, .int x2), (3, .int x3), (4, .int x4)] [] M := by
  intro n
  induction n with
  | zero => intro M x1 x2 x3 x4 res zf; rw [fX13_next_l29] at zf; cases zf
  | succ n ih =>
    intro M x1 x2 x3 x4 res zf
    rw [fX13_next_l29] at zf
    refine g_iload h 4 rfl dX13_next_29 ?_
    refine g_aload_n h 0 rfl dX13_next_31 ?_
    refine gfX13_333 h (by decide : kd 103 = 11) dX13_next_32 ?_
    refine g_nmI zf ?_
    clear zf; intro vq11 zf
    refine g_ic_ge h 95 (by decide) zf dX13_next_35 ?_ ?_ <;> clear zf <;> intro zf
    · refine g_iinc h 3 3 rfl (v := x3 + 1) (congrArg (fun z => x3 + z) (by decide : Int32.ofInt (1) = (1 : Int32))) [(3, .int (x3 + 1)), (0, rv G.1 103), (1, .int x1), (2, .int x2), (4, .int x4)] (by decide) rfl dX13_next_95 ?_
      refine g_nmV zf ?_
      clear zf; intro vq12 zf
      refine g_goto h 20 (by decide) dX13_next_98 ?_
      refine g_sub h [1, 2, 3, 0] rfl ?_
      exact zh20 _ _ _ _ _ zf
    · refine g_aload_n h 0 rfl dX13_next_38 ?_
      refine g_iload_n h 3 rfl dX13_next_39 ?_
      refine g_iload h 4 rfl dX13_next_40 ?_
      have zf1 := b2_some zf
      clear zf; obtain ⟨vq13, Mq14, zq, zf⟩ := zf1
      refine g_callVwi (As := [.int x3, .int x4]) (rest := []) h ceX13_isSeen mlX13_474 imX13_isSeen seX13_isSeen (by rfl) (kd_lt (by rw [(by decide : kd 103 = 11)]; decide)) (ent_11 (by decide : kd 103 = 11)) rfl rfl ⟨by decide, by decide⟩ ⟨by decide, by decide⟩ rfl dX13_next_42 rfl (Nat.le_of_ble_eq_true rfl) (cmX13_isSeen zq) ?_
      refine g_if_ne h 51 (by decide) zf dX13_next_45 ?_ ?_ <;> clear zf <;> intro zf
      · refine g_iconst h 0 (v := 0) (by decide) dX13_next_51 ?_
        refine g_istore h [(5, .int 0), (0, rv G.1 103), (1, .int x1), (2, .int x2), (3, .int x3), (4, .int x4)] (by decide) rfl dX13_next_52 ?_
        refine g_sub h [1, 2, 3, 4, 5, 0] rfl ?_
        exact kX13_next_l54 h zh20 ih _ _ _ _ _ _ _ _ zf
      · refine g_goto h 89 (by decide) dX13_next_48 ?_
        refine g_sub h [0, 1, 2, 3, 4] rfl ?_
        exact kX13_next_b89 h zh20 ih zf

theorem kX13_next_l20 {G : GX} (h : OKm G cX13_next RX13 10 (some .int) { frames := 9, cells := 0, slots := 0, locals := 211 }) : ∀ (n : Nat) (M : Mem) (x1 : Int32) (x2 : Int32) (x3 : Int32) (res : (Int32 × Mem)), fX13_next_l20 n M x1 x2 x3 = some res → GG G (Qm G (Pwi res) 0 0) 0 0 20 [(0, rv G.1 103), (1, .int x1), (2, .int x2), (3, .int x3)] [] M := by
  intro n
  induction n with
  | zero => intro M x1 x2 x3 res zf; rw [fX13_next_l20] at zf; cases zf
  | succ n ih =>
    intro M x1 x2 x3 res zf
    rw [fX13_next_l20] at zf
    refine g_iload_n h 3 rfl dX13_next_20 ?_
    refine g_bipush h 12 (v := 12) (by decide) dX13_next_21 ?_
    refine g_ic_gt h 101 (by decide) zf dX13_next_23 ?_ ?_ <;> clear zf <;> intro zf
    · refine g_iconst h (-1) (v := (-1)) (by decide) dX13_next_101 ?_
      refine g_istore_n h rfl [(3, .int (-1)), (0, rv G.1 103), (1, .int x1), (2, .int x2)] (by decide) rfl dX13_next_102 ?_
      refine g_iconst h 0 (v := 0) (by decide) dX13_next_103 ?_
      refine g_istore h [(4, .int 0), (3, .int (-1)), (0, rv G.1 103), (1, .int x1), (2, .int x2)] (by decide) rfl dX13_next_104 ?_
      refine g_iconst h 0 (v := 0) (by decide) dX13_next_106 ?_
      refine g_istore h [(5, .int 0), (4, .int 0), (3, .int (-1)), (0, rv G.1 103), (1, .int x1), (2, .int x2)] (by decide) rfl dX13_next_107 ?_
      refine g_sub h [3, 4, 5, 2, 1, 0] rfl ?_
      exact kX13_next_l109 h _ _ _ _ _ _ _ _ zf
    · refine g_iconst h 0 (v := 0) (by decide) dX13_next_26 ?_
      refine g_istore h [(4, .int 0), (0, rv G.1 103), (1, .int x1), (2, .int x2), (3, .int x3)] (by decide) rfl dX13_next_27 ?_
      refine g_sub h [1, 2, 3, 4, 0] rfl ?_
      exact kX13_next_l29 h ih _ _ _ _ _ _ _ zf

theorem kX13_next_e0 {G : GX} (h : OKm G cX13_next RX13 10 (some .int) { frames := 9, cells := 0, slots := 0, locals := 211 }) {M : Mem} {x1 : Int32} {res : (Int32 × Mem)} (zf : fX13_next M x1 = some res) : GG G (Qm G (Pwi res) 0 0) 0 0 0 [(0, rv G.1 103), (1, .int x1)] [] M := by
  unfold fX13_next at zf
  refine g_aload_n h 0 rfl dX13_next_0 ?_
  refine g_iconst h 0 (v := 0) (by decide) dX13_next_1 ?_
  refine pfX13_141 h (by decide : kd 103 = 11) dX13_next_2 ?_
  refine g_nmM zf ?_
  clear zf; intro Mq1 zf
  refine g_aload_n h 0 rfl dX13_next_5 ?_
  refine g_iload_n h 1 rfl dX13_next_6 ?_
  refine g_iconst h 1 (v := 1) (by decide) dX13_next_7 ?_
  have zf1 := b2_some zf
  clear zf; obtain ⟨vq2, Mq3, zq, zf⟩ := zf1
  refine g_callVwi (As := [.int x1, .int 1]) (rest := []) h ceX13_isWhat mlX13_414 imX13_isWhat seX13_isWhat (by rfl) (kd_lt (by rw [(by decide : kd 103 = 11)]; decide)) (ent_11 (by decide : kd 103 = 11)) rfl rfl ⟨by decide, by decide⟩ ⟨by decide, by decide⟩ rfl dX13_next_8 rfl (Nat.le_of_ble_eq_true rfl) (cmX13_isWhat zq) ?_
  refine g_if_ne h 16 (by decide) zf dX13_next_11 ?_ ?_ <;> clear zf <;> intro zf
  · refine g_iconst h 0 (v := 0) (by decide) dX13_next_16 ?_
    refine g_istore_n h rfl [(2, .int 0), (0, rv G.1 103), (1, .int x1)] (by decide) rfl dX13_next_17 ?_
    refine g_iconst h 1 (v := 1) (by decide) dX13_next_18 ?_
    refine g_istore_n h rfl [(3, .int 1), (2, .int 0), (0, rv G.1 103), (1, .int x1)] (by decide) rfl dX13_next_19 ?_
    refine g_sub h [2, 3, 1, 0] rfl ?_
    exact kX13_next_l20 h _ _ _ _ _ _ zf
  · refine g_iconst h 0 (v := 0) (by decide) dX13_next_14 ?_
    obtain rfl := Option.some.inj zf
    exact g_iret h rfl ⟨rfl, rfl⟩ (Nat.le_refl _) (Nat.le_refl _) dX13_next_15

theorem cmX13_next {l : Launch} {w : WX} {M : Mem} {x1 : Int32} {res : (Int32 × Mem)} (zf : fX13_next M x1 = some res) : CM l w yX13_next cX13_next 10 (some .int) { frames := 9, cells := 0, slots := 0, locals := 211 } 0 0 [rv w 103, .int x1] M (Pwi res) := by
  refine CM_of (by decide) (Nat.le_of_ble_eq_true rfl) (fun G hw hl h => ?_)
  subst hw
  exact kX13_next_e0 h zf

-- X13_odds
theorem kX13_odds_b155 {G : GX} (h : OKm G cX13_odds RX13 9 (some .int) { frames := 5, cells := 0, slots := 0, locals := 121 }) {a62 : Mem → Int32 → Int32 → Int32 → Int32 → Int32 → Option (Int32 × Mem)} (zh62 : ∀ (M : Mem) (x2 : Int32) (x3 : Int32) (x4 : Int32) (x5 : Int32) (x6 : Int32) (res : (Int32 × Mem)), a62 M x2 x3 x4 x5 x6 = some res → GG G (Qm G (Pwi res) 0 0) 0 0 62 [(0, rv G.1 103), (2, .int x2), (3, .int x3), (4, .int x4), (5, .int x5), (6, .int x6)] [] M) {M : Mem} {x2 : Int32} {x3 : Int32} {x4 : Int32} {x5 : Int32} {x6 : Int32} {res : (Int32 × Mem)} (zf : fX13_odds_b155 a62 M x2 x3 x4 x5 x6 = some res) : GG G (Qm G (Pwi res) 0 0) 0 0 155 [(0, rv G.1 103), (2, .int x2), (3, .int x3), (4, .int x4), (5, .int x5), (6, .int x6)] [] M := by
  unfold fX13_odds_b155 at zf
  refine g_iinc h 6 5 rfl (v := x6 + 1) (congrArg (fun z => x6 + z) (by decide : Int32.ofInt (1) = (1 : Int32))) [(6, .int (x6 + 1)), (0, rv G.1 103), (2, .int x2), (3, .int x3), (4, .int x4), (5, .int x5)] (by decide) rfl dX13_odds_155 ?_
  refine g_nmV zf ?_
  clear zf; intro vq9 zf
  refine g_goto h 62 (by decide) dX13_odds_158 ?_
  refine g_sub h [1, 2, 3, 4, 5, 0] rfl ?_
  exact zh62 _ _ _ _ _ _ _ zf

theorem kX13_odds_b142 {G : GX} (h : OKm G cX13_odds RX13 9 (some .int) { frames := 5, cells := 0, slots := 0, locals := 121 }) {a62 : Mem → Int32 → Int32 → Int32 → Int32 → Int32 → Option (Int32 × Mem)} (zh62 : ∀ (M : Mem) (x2 : Int32) (x3 : Int32) (x4 : Int32) (x5 : Int32) (x6 : Int32) (res : (Int32 × Mem)), a62 M x2 x3 x4 x5 x6 = some res → GG G (Qm G (Pwi res) 0 0) 0 0 62 [(0, rv G.1 103), (2, .int x2), (3, .int x3), (4, .int x4), (5, .int x5), (6, .int x6)] [] M) {a98 : Mem → Int32 → Int32 → Int32 → Int32 → Int32 → Int32 → Int32 → Option (Int32 × Mem)} (zh98 : ∀ (M : Mem) (x2 : Int32) (x3 : Int32) (x4 : Int32) (x5 : Int32) (x6 : Int32) (x7 : Int32) (x8 : Int32) (res : (Int32 × Mem)), a98 M x2 x3 x4 x5 x6 x7 x8 = some res → GG G (Qm G (Pwi res) 0 0) 0 0 98 [(0, rv G.1 103), (2, .int x2), (3, .int x3), (4, .int x4), (5, .int x5), (6, .int x6), (7, .int x7), (8, .int x8)] [] M) {M : Mem} {x2 : Int32} {x3 : Int32} {x4 : Int32} {x5 : Int32} {x6 : Int32} {x7 : Int32} {x8 : Int32} {res : (Int32 × Mem)} (zf : fX13_odds_b142 a62 a98 M x2 x3 x4 x5 x6 x7 x8 = some res) : GG G (Qm G (Pwi res) 0 0) 0 0 142 [(0, rv G.1 103), (2, .int x2), (3, .int x3), (4, .int x4), (5, .int x5), (6, .int x6), (7, .int x7), (8, .int x8)] [] M := by
  unfold fX13_odds_b142 at zf
  refine g_iinc h 8 7 rfl (v := x8 + 1) (congrArg (fun z => x8 + z) (by decide : Int32.ofInt (1) = (1 : Int32))) [(8, .int (x8 + 1)), (0, rv G.1 103), (2, .int x2), (3, .int x3), (4, .int x4), (5, .int x5), (6, .int x6), (7, .int x7)] (by decide) rfl dX13_odds_142 ?_
  refine g_nmV zf ?_
  clear zf; intro vq13 zf
  refine g_goto h 98 (by decide) dX13_odds_145 ?_
  refine g_sub h [1, 2, 3, 4, 5, 6, 7, 0] rfl ?_
  exact zh98 _ _ _ _ _ _ _ _ _ zf

theorem kX13_odds_b139 {G : GX} (h : OKm G cX13_odds RX13 9 (some .int) { frames := 5, cells := 0, slots := 0, locals := 121 }) {a62 : Mem → Int32 → Int32 → Int32 → Int32 → Int32 → Option (Int32 × Mem)} (zh62 : ∀ (M : Mem) (x2 : Int32) (x3 : Int32) (x4 : Int32) (x5 : Int32) (x6 : Int32) (res : (Int32 × Mem)), a62 M x2 x3 x4 x5 x6 = some res → GG G (Qm G (Pwi res) 0 0) 0 0 62 [(0, rv G.1 103), (2, .int x2), (3, .int x3), (4, .int x4), (5, .int x5), (6, .int x6)] [] M) {a98 : Mem → Int32 → Int32 → Int32 → Int32 → Int32 → Int32 → Int32 → Option (Int32 × Mem)} (zh98 : ∀ (M : Mem) (x2 : Int32) (x3 : Int32) (x4 : Int32) (x5 : Int32) (x6 : Int32) (x7 : Int32) (x8 : Int32) (res : (Int32 × Mem)), a98 M x2 x3 x4 x5 x6 x7 x8 = some res → GG G (Qm G (Pwi res) 0 0) 0 0 98 [(0, rv G.1 103), (2, .int x2), (3, .int x3), (4, .int x4), (5, .int x5), (6, .int x6), (7, .int x7), (8, .int x8)] [] M) {M : Mem} {x2 : Int32} {x3 : Int32} {x4 : Int32} {x5 : Int32} {x6 : Int32} {x8 : Int32} {s0 : Int32} {s1 : Int32} {res : (Int32 × Mem)} (zf : fX13_odds_b139 a62 a98 M x2 x3 x4 x5 x6 x8 s0 s1 = some res) : GG G (Qm G (Pwi res) 0 0) 0 0 139 [(0, rv G.1 103), (2, .int x2), (3, .int x3), (4, .int x4), (5, .int x5), (6, .int x6), (8, .int x8)] [.int s0, .int s1] M := by
  unfold fX13_odds_b139 at zf
  refine g_imul h dX13_odds_139 ?_
  refine g_nmI zf ?_
  clear zf; intro vq14 zf
  refine g_istore h [(7, .int vq14), (0, rv G.1 103), (2, .int x2), (3, .int x3), (4, .int x4), (5, .int x5), (6, .int x6), (8, .int x8)] (by decide) rfl dX13_odds_140 ?_
  refine g_sub h [1, 2, 3, 4, 5, 6, 0, 7] rfl ?_
  exact kX13_odds_b142 h zh62 zh98 zf

theorem kX13_odds_l98 {G : GX} (h : OKm G cX13_odds RX13 9 (some .int) { frames := 5, cells := 0, slots := 0, locals := 121 }) {a62 : Mem → Int32 → Int32 → Int32 → Int32 → Int32 → Option (Int32 × Mem)} (zh62 : ∀ (M : Mem) (x2 : Int32) (x3 : Int32) (x4 : Int32) (x5 : Int32) (x6 : Int32) (res : (Int32 × Mem)), a62 M x2 x3 x4 x5 x6 = some res → GG G (Qm G (Pwi res) 0 0) 0 0 62 [(0, rv G.1 103), (2, .int x2), (3, .int x3), (4, .int x4), (5, .int x5), (6, .int x6)] [] M) : ∀ (n : Nat) (M : Mem) (x2 : Int32) (x3 : Int32) (x4 : Int32) (x5 : Int32) (x6 : Int32) (x7 : Int32) (x8 : Int32) (res : (Int32 × Mem)), fX13_odds_l98 a62 n M x2 x3 x4 x5 x6 x7 x8 = some res → GG G (Qm G (Pwi res) 0 0) 0 0 98 [(0, rv G.1 103), (2, .int x2), (3, .int x3), (4, .int x4), (5, .int x5), (6, .int x6), (7, .int x7), (8, .int x8)] [] M := by
  intro n
  induction n with
  | zero => intro M x2 x3 x4 x5 x6 x7 x8 res zf; rw [fX13_odds_l98] at zf; cases zf
  | succ n ih =>
    intro M x2 x3 x4 x5 x6 x7 x8 res zf
    rw [fX13_odds_l98] at zf
    refine g_iload h 7 rfl dX13_odds_98 ?_
    refine g_aload_n h 0 rfl dX13_odds_100 ?_
    refine gfX13_339 h (by decide : kd 103 = 11) dX13_odds_101 ?_
    refine g_nmI zf ?_
    clear zf; intro vq11 zf
    refine g_ic_ge h 148 (by decide) zf dX13_odds_104 ?_ ?_ <;> clear zf <;> intro zf
    · refine g_iload h 4 rfl dX13_odds_148 ?_
      refine g_iload h 6 rfl dX13_odds_150 ?_
      refine g_iadd h dX13_odds_152 ?_
      refine g_nmI zf ?_
      clear zf; intro vq12 zf
      refine g_istore h [(5, .int vq12), (0, rv G.1 103), (2, .int x2), (3, .int x3), (4, .int x4), (6, .int x6), (7, .int x7), (8, .int x8)] (by decide) rfl dX13_odds_153 ?_
      refine g_sub h [1, 2, 3, 4, 0, 5] rfl ?_
      exact kX13_odds_b155 h zh62 zf
    · refine g_iload h 3 rfl dX13_odds_107 ?_
      refine g_iload h 7 rfl dX13_odds_109 ?_
      refine g_ishr h dX13_odds_111 ?_
      refine g_iconst h 1 (v := 1) (by decide) dX13_odds_112 ?_
      refine g_iand h dX13_odds_113 ?_
      refine g_iconst h 1 (v := 1) (by decide) dX13_odds_114 ?_
      refine g_ic_ne h 142 (by decide) zf dX13_odds_115 ?_ ?_ <;> clear zf <;> intro zf
      · refine g_sub h [0, 1, 2, 3, 4, 5, 6, 7] rfl ?_
        exact kX13_odds_b142 h zh62 ih zf
      · refine g_iload h 6 rfl dX13_odds_118 ?_
        refine g_iload h 5 rfl dX13_odds_120 ?_
        refine g_iload h 7 rfl dX13_odds_122 ?_
        refine g_ishr h dX13_odds_124 ?_
        refine g_iconst h 1 (v := 1) (by decide) dX13_odds_125 ?_
        refine g_iand h dX13_odds_126 ?_
        refine g_iconst h 1 (v := 1) (by decide) dX13_odds_127 ?_
        refine g_ic_ne h 135 (by decide) zf dX13_odds_128 ?_ ?_ <;> clear zf <;> intro zf
        · refine g_bipush h 10 (v := 10) (by decide) dX13_odds_135 ?_
          refine g_iload_n h 1 rfl dX13_odds_137 ?_
          refine g_isub h dX13_odds_138 ?_
          refine g_sub h [0, 1, 2, 3, 4, 5, 7] rfl ?_
          exact kX13_odds_b139 h zh62 ih zf
        · refine g_iload_n h 1 rfl dX13_odds_131 ?_
          refine g_goto h 139 (by decide) dX13_odds_132 ?_
          refine g_sub h [0, 1, 2, 3, 4, 5, 7] rfl ?_
          exact kX13_odds_b139 h zh62 ih zf

theorem kX13_odds_l62 {G : GX} (h : OKm G cX13_odds RX13 9 (some .int) { frames := 5, cells := 0, slots := 0, locals := 121 }) : ∀ (n : Nat) (M : Mem) (x2 : Int32) (x3 : Int32) (x4 : Int32) (x5 : Int32) (x6 : Int32) (res : (Int32 × Mem)), fX13_odds_l62 n M x2 x3 x4 x5 x6 = some res → GG G (Qm G (Pwi res) 0 0) 0 0 62 [(0, rv G.1 103), (2, .int x2), (3, .int x3), (4, .int x4), (5, .int x5), (6, .int x6)] [] M := by
  intro n
  induction n with
  | zero => intro M x2 x3 x4 x5 x6 res zf; rw [fX13_odds_l62] at zf; cases zf
  | succ n ih =>
    intro M x2 x3 x4 x5 x6 res zf
    rw [fX13_odds_l62] at zf
    refine g_iload h 5 rfl dX13_odds_62 ?_
    refine g_iload h 3 rfl dX13_odds_64 ?_
    refine g_ic_gt h 161 (by decide) zf dX13_odds_66 ?_ ?_ <;> clear zf <;> intro zf
    · refine g_iload h 4 rfl dX13_odds_161 ?_
      obtain rfl := Option.some.inj zf
      exact g_iret h rfl ⟨rfl, rfl⟩ (Nat.le_refl _) (Nat.le_refl _) dX13_odds_163
    · refine g_iload h 5 rfl dX13_odds_69 ?_
      refine g_iload h 3 rfl dX13_odds_71 ?_
      refine g_iconst h (-1) (v := (-1)) (by decide) dX13_odds_73 ?_
      refine g_ixor h dX13_odds_74 ?_
      refine g_iand h dX13_odds_75 ?_
      refine g_if_ne h 155 (by decide) zf dX13_odds_76 ?_ ?_ <;> clear zf <;> intro zf
      · refine g_sub h [0, 1, 2, 3, 4, 5] rfl ?_
        exact kX13_odds_b155 h ih zf
      · refine g_aload_n h 0 rfl dX13_odds_79 ?_
        refine g_iload h 5 rfl dX13_odds_80 ?_
        have zf1 := bd_some zf
        clear zf; obtain ⟨vq10, zq, zf⟩ := zf1
        refine g_callVri (As := [.int x6]) (rest := []) h ceX13_menOf mlX13_378 imX13_menOf seX13_menOf (by rfl) (kd_lt (by rw [(by decide : kd 103 = 11)]; decide)) (ent_11 (by decide : kd 103 = 11)) rfl rfl ⟨by decide, by decide⟩ ⟨by decide, by decide⟩ rfl dX13_odds_82 rfl (Nat.le_of_ble_eq_true rfl) (cmX13_menOf zq) ?_
        refine g_iload_n h 2 rfl dX13_odds_85 ?_
        refine g_ic_ge h 92 (by decide) zf dX13_odds_86 ?_ ?_ <;> clear zf <;> intro zf
        · refine g_iconst h 1 (v := 1) (by decide) dX13_odds_92 ?_
          refine g_istore h [(7, .int 1), (0, rv G.1 103), (2, .int x2), (3, .int x3), (4, .int x4), (5, .int x5), (6, .int x6)] (by decide) rfl dX13_odds_93 ?_
          refine g_iconst h 0 (v := 0) (by decide) dX13_odds_95 ?_
          refine g_istore h [(8, .int 0), (7, .int 1), (0, rv G.1 103), (2, .int x2), (3, .int x3), (4, .int x4), (5, .int x5), (6, .int x6)] (by decide) rfl dX13_odds_96 ?_
          refine g_sub h [2, 3, 4, 5, 6, 7, 1, 0] rfl ?_
          exact kX13_odds_l98 h ih _ _ _ _ _ _ _ _ _ _ zf
        · refine g_goto h 155 (by decide) dX13_odds_89 ?_
          refine g_sub h [0, 1, 2, 3, 4, 5] rfl ?_
          exact kX13_odds_b155 h ih zf

theorem kX13_odds_b39 {G : GX} (h : OKm G cX13_odds RX13 9 (some .int) { frames := 5, cells := 0, slots := 0, locals := 121 }) {M : Mem} {x1 : Int32} {x2 : Int32} {x3 : Int32} {s0 : Int32} {res : (Int32 × Mem)} (zf : fX13_odds_b39 M x1 x2 x3 s0 = some res) : GG G (Qm G (Pwi res) 0 0) 0 0 39 [(0, rv G.1 103), (1, .int x1), (2, .int x2), (3, .int x3)] [.int s0, rv G.1 103] M := by
  unfold fX13_odds_b39 at zf
  refine g_iconst h 2 (v := 2) (by decide) dX13_odds_39 ?_
  have zf1 := b2_some zf
  clear zf; obtain ⟨vq5, Mq6, zq, zf⟩ := zf1
  refine g_callVwi (As := [.int s0, .int 2]) (rest := []) h ceX13_right mlX13_326 imX13_right seX13_right (by rfl) (kd_lt (by rw [(by decide : kd 103 = 11)]; decide)) (ent_11 (by decide : kd 103 = 11)) rfl rfl ⟨by decide, by decide⟩ ⟨by decide, by decide⟩ rfl dX13_odds_40 rfl (Nat.le_of_ble_eq_true rfl) (cmX13_right zq) ?_
  refine g_if_ne h 48 (by decide) zf dX13_odds_43 ?_ ?_ <;> clear zf <;> intro zf
  · refine g_aload_n h 0 rfl dX13_odds_48 ?_
    refine g_iconst h 0 (v := 0) (by decide) dX13_odds_49 ?_
    refine g_iload_n h 1 rfl dX13_odds_50 ?_
    have zf1 := b2_some zf
    clear zf; obtain ⟨vq7, Mq8, zq, zf⟩ := zf1
    refine g_callVwi (As := [.int 0, .int x1]) (rest := []) h ceX13_followers mlX13_375 imX13_followers seX13_followers (by rfl) (kd_lt (by rw [(by decide : kd 103 = 11)]; decide)) (ent_11 (by decide : kd 103 = 11)) rfl rfl ⟨by decide, by decide⟩ ⟨by decide, by decide⟩ rfl dX13_odds_51 rfl (Nat.le_of_ble_eq_true rfl) (cmX13_followers zq) ?_
    refine g_istore h [(4, .int vq7), (0, rv G.1 103), (1, .int x1), (2, .int x2), (3, .int x3)] (by decide) rfl dX13_odds_54 ?_
    refine g_iconst h 0 (v := 0) (by decide) dX13_odds_56 ?_
    refine g_istore h [(5, .int 0), (4, .int vq7), (0, rv G.1 103), (1, .int x1), (2, .int x2), (3, .int x3)] (by decide) rfl dX13_odds_57 ?_
    refine g_iconst h 0 (v := 0) (by decide) dX13_odds_59 ?_
    refine g_istore h [(6, .int 0), (5, .int 0), (4, .int vq7), (0, rv G.1 103), (1, .int x1), (2, .int x2), (3, .int x3)] (by decide) rfl dX13_odds_60 ?_
    refine g_sub h [3, 5, 6, 2, 1, 0] rfl ?_
    exact kX13_odds_l62 h _ _ _ _ _ _ _ _ zf
  · refine g_iconst h 0 (v := 0) (by decide) dX13_odds_46 ?_
    obtain rfl := Option.some.inj zf
    exact g_iret h rfl ⟨rfl, rfl⟩ (Nat.le_refl _) (Nat.le_refl _) dX13_odds_47

theorem kX13_odds_b38 {G : GX} (h : OKm G cX13_odds RX13 9 (some .int) { frames := 5, cells := 0, slots := 0, locals := 121 }) {M : Mem} {x1 : Int32} {x2 : Int32} {x3 : Int32} {res : (Int32 × Mem)} (zf : fX13_odds_b38 M x1 x2 x3 = some res) : GG G (Qm G (Pwi res) 0 0) 0 0 38 [(0, rv G.1 103), (1, .int x1), (2, .int x2), (3, .int x3)] [rv G.1 103] M := by
  unfold fX13_odds_b38 at zf
  refine g_iconst h 0 (v := 0) (by decide) dX13_odds_38 ?_
  refine g_sub h [0, 1, 2, 3] rfl ?_
  exact kX13_odds_b39 h zf

theorem kX13_odds_e0 {G : GX} (h : OKm G cX13_odds RX13 9 (some .int) { frames := 5, cells := 0, slots := 0, locals := 121 }) {M : Mem} {x1 : Int32} {x2 : Int32} {x3 : Int32} {res : (Int32 × Mem)} (zf : fX13_odds M x1 x2 x3 = some res) : GG G (Qm G (Pwi res) 0 0) 0 0 0 [(0, rv G.1 103), (1, .int x1), (2, .int x2), (3, .int x3)] [] M := by
  unfold fX13_odds at zf
  refine g_aload_n h 0 rfl dX13_odds_0 ?_
  refine g_iconst h 0 (v := 0) (by decide) dX13_odds_1 ?_
  refine pfX13_141 h (by decide : kd 103 = 11) dX13_odds_2 ?_
  refine g_nmM zf ?_
  clear zf; intro Mq1 zf
  refine g_aload_n h 0 rfl dX13_odds_5 ?_
  refine g_iload_n h 1 rfl dX13_odds_6 ?_
  have zf1 := b2_some zf
  clear zf; obtain ⟨vq2, Mq3, zq, zf⟩ := zf1
  refine g_callVwi (As := [.int x1]) (rest := []) h ceX13_isBrother mlX13_417 imX13_isBrother seX13_isBrother (by rfl) (kd_lt (by rw [(by decide : kd 103 = 11)]; decide)) (ent_11 (by decide : kd 103 = 11)) rfl rfl ⟨by decide, by decide⟩ ⟨by decide, by decide⟩ rfl dX13_odds_7 rfl (Nat.le_of_ble_eq_true rfl) (cmX13_isBrother zq) ?_
  refine g_if_eq h 46 (by decide) zf dX13_odds_10 ?_ ?_ <;> clear zf <;> intro zf
  · refine g_iconst h 0 (v := 0) (by decide) dX13_odds_46 ?_
    obtain rfl := Option.some.inj zf
    exact g_iret h rfl ⟨rfl, rfl⟩ (Nat.le_refl _) (Nat.le_refl _) dX13_odds_47
  · refine g_aload_n h 0 rfl dX13_odds_13 ?_
    refine g_iload_n h 2 rfl dX13_odds_14 ?_
    refine g_iconst h 1 (v := 1) (by decide) dX13_odds_15 ?_
    refine g_bipush h 9 (v := 9) (by decide) dX13_odds_16 ?_
    have zf1 := bd_some zf
    clear zf; obtain ⟨vq4, zq, zf⟩ := zf1
    refine g_callSri (As := [.int x2, .int 1, .int 9]) (rest := [rv G.1 103]) h ceX13_within mlX13_407 smX13_within rfl rfl ⟨by decide, by decide⟩ ⟨by decide, by decide⟩ rfl dX13_odds_18 rfl (Nat.le_of_ble_eq_true rfl) (cmX13_within zq) ?_
    refine g_if_eq h 38 (by decide) zf dX13_odds_21 ?_ ?_ <;> clear zf <;> intro zf
    · refine g_sub h [0, 1, 2, 3] rfl ?_
      exact kX13_odds_b38 h zf
    · refine g_iload_n h 3 rfl dX13_odds_24 ?_
      refine g_iconst h 0 (v := 0) (by decide) dX13_odds_25 ?_
      refine g_bipush h 54 (v := 54) (by decide) dX13_odds_26 ?_
      have zf1 := bd_some zf
      clear zf; obtain ⟨vq15, zq, zf⟩ := zf1
      refine g_callSri (As := [.int x3, .int 0, .int 54]) (rest := [rv G.1 103]) h ceX13_within mlX13_407 smX13_within rfl rfl ⟨by decide, by decide⟩ ⟨by decide, by decide⟩ rfl dX13_odds_28 rfl (Nat.le_of_ble_eq_true rfl) (cmX13_within zq) ?_
      refine g_if_eq h 38 (by decide) zf dX13_odds_31 ?_ ?_ <;> clear zf <;> intro zf
      · refine g_sub h [0, 1, 2, 3] rfl ?_
        exact kX13_odds_b38 h zf
      · refine g_iconst h 1 (v := 1) (by decide) dX13_odds_34 ?_
        refine g_goto h 39 (by decide) dX13_odds_35 ?_
        refine g_sub h [0, 1, 2, 3] rfl ?_
        exact kX13_odds_b39 h zf

theorem cmX13_odds {l : Launch} {w : WX} {M : Mem} {x1 : Int32} {x2 : Int32} {x3 : Int32} {res : (Int32 × Mem)} (zf : fX13_odds M x1 x2 x3 = some res) : CM l w yX13_odds cX13_odds 9 (some .int) { frames := 5, cells := 0, slots := 0, locals := 121 } 0 0 [rv w 103, .int x1, .int x2, .int x3] M (Pwi res) := by
  refine CM_of (by decide) (Nat.le_of_ble_eq_true rfl) (fun G hw hl h => ?_)
  subst hw
  exact kX13_odds_e0 h zf

-- X13_parties
theorem kX13_parties_b57 {G : GX} (h : OKm G cX13_parties RX13 5 (some .int) { frames := 2, cells := 0, slots := 0, locals := 44 }) {a23 : Mem → Int32 → Int32 → Int32 → Int32 → Option (Int32 × Mem)} (zh23 : ∀ (M : Mem) (x1 : Int32) (x2 : Int32) (x3 : Int32) (x4 : Int32) (res : (Int32 × Mem)), a23 M x1 x2 x3 x4 = some res → GG G (Qm G (Pwi res) 0 0) 0 0 23 [(0, rv G.1 103), (1, .int x1), (2, .int x2), (3, .int x3), (4, .int x4)] [] M) {M : Mem} {x1 : Int32} {x2 : Int32} {x3 : Int32} {x4 : Int32} {res : (Int32 × Mem)} (zf : fX13_parties_b57 a23 M x1 x2 x3 x4 = some res) : GG G (Qm G (Pwi res) 0 0) 0 0 57 [(0, rv G.1 103), (1, .int x1), (2, .int x2), (3, .int x3), (4, .int x4)] [] M := by
  unfold fX13_parties_b57 at zf
  refine g_iinc h 4 4 rfl (v := x4 + 1) (congrArg (fun z => x4 + z) (by decide : Int32.ofInt (1) = (1 : Int32))) [(4, .int (x4 + 1)), (0, rv G.1 103), (1, .int x1), (2, .int x2), (3, .int x3)] (by decide) rfl dX13_parties_57 ?_
  refine g_nmV zf ?_
  clear zf; intro vq7 zf
  refine g_goto h 23 (by decide) dX13_parties_60 ?_
  refine g_sub h [1, 2, 3, 4, 0] rfl ?_
  exact zh23 _ _ _ _ _ _ zf

theorem kX13_parties_l23 {G : GX} (h : OKm G cX13_parties RX13 5 (some .int) { frames := 2, cells := 0, slots := 0, locals := 44 }) : ∀ (n : Nat) (M : Mem) (x1 : Int32) (x2 : Int32) (x3 : Int32) (x4 : Int32) (res : (Int32 × Mem)), fX13_parties_l23 n M x1 x2 x3 x4 = some res → GG G (Qm G (Pwi res) 0 0) 0 0 23 [(0, rv G.1 103), (1, .int x1), (2, .int x2), (3, .int x3), (4, .int x4)] [] M := by
  intro n
  induction n with
  | zero => intro M x1 x2 x3 x4 res zf; rw [fX13_parties_l23] at zf; cases zf
  | succ n ih =>
    intro M x1 x2 x3 x4 res zf
    rw [fX13_parties_l23] at zf
    refine g_iload h 4 rfl dX13_parties_23 ?_
    refine g_iconst h 1 (v := 1) (by decide) dX13_parties_25 ?_
    refine g_aload_n h 0 rfl dX13_parties_26 ?_
    refine gfX13_339 h (by decide : kd 103 = 11) dX13_parties_27 ?_
    refine g_nmI zf ?_
    clear zf; intro vq4 zf
    refine g_ishl h dX13_parties_30 ?_
    refine g_ic_ge h 63 (by decide) zf dX13_parties_31 ?_ ?_ <;> clear zf <;> intro zf
    · refine g_iload_n h 1 rfl dX13_parties_63 ?_
      refine g_if_ne h 71 (by decide) zf dX13_parties_64 ?_ ?_ <;> clear zf <;> intro zf
      · refine g_iload_n h 3 rfl dX13_parties_71 ?_
        obtain rfl := Option.some.inj zf
        exact g_iret h rfl ⟨rfl, rfl⟩ (Nat.le_refl _) (Nat.le_refl _) dX13_parties_72
      · refine g_iload_n h 2 rfl dX13_parties_67 ?_
        refine g_goto h 72 (by decide) dX13_parties_68 ?_
        obtain rfl := Option.some.inj zf
        exact g_iret h rfl ⟨rfl, rfl⟩ (Nat.le_refl _) (Nat.le_refl _) dX13_parties_72
    · refine g_aload_n h 0 rfl dX13_parties_34 ?_
      refine g_iload h 4 rfl dX13_parties_35 ?_
      have zf1 := bd_some zf
      clear zf; obtain ⟨vq5, zq, zf⟩ := zf1
      refine g_callVri (As := [.int x4]) (rest := []) h ceX13_isResting mlX13_471 imX13_isResting seX13_isResting (by rfl) (kd_lt (by rw [(by decide : kd 103 = 11)]; decide)) (ent_11 (by decide : kd 103 = 11)) rfl rfl ⟨by decide, by decide⟩ ⟨by decide, by decide⟩ rfl dX13_parties_37 rfl (Nat.le_of_ble_eq_true rfl) (cmX13_isResting zq) ?_
      refine g_if_ne h 46 (by decide) zf dX13_parties_40 ?_ ?_ <;> clear zf <;> intro zf
      · refine g_iinc h 2 2 rfl (v := x2 + 1) (congrArg (fun z => x2 + z) (by decide : Int32.ofInt (1) = (1 : Int32))) [(2, .int (x2 + 1)), (0, rv G.1 103), (1, .int x1), (3, .int x3), (4, .int x4)] (by decide) rfl dX13_parties_46 ?_
        refine g_nmV zf ?_
        clear zf; intro vq6 zf
        refine g_iload_n h 3 rfl dX13_parties_49 ?_
        refine g_iconst h (-1) (v := (-1)) (by decide) dX13_parties_50 ?_
        refine g_ic_ne h 57 (by decide) zf dX13_parties_51 ?_ ?_ <;> clear zf <;> intro zf
        · refine g_sub h [1, 2, 0, 3, 4] rfl ?_
          exact kX13_parties_b57 h ih zf
        · refine g_iload h 4 rfl dX13_parties_54 ?_
          refine g_istore_n h rfl [(3, .int x4), (2, .int vq6), (0, rv G.1 103), (1, .int x1), (4, .int x4)] (by decide) rfl dX13_parties_56 ?_
          refine g_sub h [2, 3, 1, 0, 4] rfl ?_
          exact kX13_parties_b57 h ih zf
      · refine g_goto h 57 (by decide) dX13_parties_43 ?_
        refine g_sub h [0, 1, 2, 3, 4] rfl ?_
        exact kX13_parties_b57 h ih zf

theorem kX13_parties_e0 {G : GX} (h : OKm G cX13_parties RX13 5 (some .int) { frames := 2, cells := 0, slots := 0, locals := 44 }) {M : Mem} {x1 : Int32} {res : (Int32 × Mem)} (zf : fX13_parties M x1 = some res) : GG G (Qm G (Pwi res) 0 0) 0 0 0 [(0, rv G.1 103), (1, .int x1)] [] M := by
  unfold fX13_parties at zf
  refine g_aload_n h 0 rfl dX13_parties_0 ?_
  refine g_iconst h 0 (v := 0) (by decide) dX13_parties_1 ?_
  refine pfX13_141 h (by decide : kd 103 = 11) dX13_parties_2 ?_
  refine g_nmM zf ?_
  clear zf; intro Mq1 zf
  refine g_aload_n h 0 rfl dX13_parties_5 ?_
  refine g_iload_n h 1 rfl dX13_parties_6 ?_
  refine g_iconst h 1 (v := 1) (by decide) dX13_parties_7 ?_
  have zf1 := b2_some zf
  clear zf; obtain ⟨vq2, Mq3, zq, zf⟩ := zf1
  refine g_callVwi (As := [.int x1, .int 1]) (rest := []) h ceX13_isWhat mlX13_414 imX13_isWhat seX13_isWhat (by rfl) (kd_lt (by rw [(by decide : kd 103 = 11)]; decide)) (ent_11 (by decide : kd 103 = 11)) rfl rfl ⟨by decide, by decide⟩ ⟨by decide, by decide⟩ rfl dX13_parties_8 rfl (Nat.le_of_ble_eq_true rfl) (cmX13_isWhat zq) ?_
  refine g_if_ne h 16 (by decide) zf dX13_parties_11 ?_ ?_ <;> clear zf <;> intro zf
  · refine g_iconst h 0 (v := 0) (by decide) dX13_parties_16 ?_
    refine g_istore_n h rfl [(2, .int 0), (0, rv G.1 103), (1, .int x1)] (by decide) rfl dX13_parties_17 ?_
    refine g_iconst h (-1) (v := (-1)) (by decide) dX13_parties_18 ?_
    refine g_istore_n h rfl [(3, .int (-1)), (2, .int 0), (0, rv G.1 103), (1, .int x1)] (by decide) rfl dX13_parties_19 ?_
    refine g_iconst h 0 (v := 0) (by decide) dX13_parties_20 ?_
    refine g_istore h [(4, .int 0), (3, .int (-1)), (2, .int 0), (0, rv G.1 103), (1, .int x1)] (by decide) rfl dX13_parties_21 ?_
    refine g_sub h [3, 4, 2, 1, 0] rfl ?_
    exact kX13_parties_l23 h _ _ _ _ _ _ _ zf
  · refine g_iconst h 0 (v := 0) (by decide) dX13_parties_14 ?_
    obtain rfl := Option.some.inj zf
    exact g_iret h rfl ⟨rfl, rfl⟩ (Nat.le_refl _) (Nat.le_refl _) dX13_parties_15

theorem cmX13_parties {l : Launch} {w : WX} {M : Mem} {x1 : Int32} {res : (Int32 × Mem)} (zf : fX13_parties M x1 = some res) : CM l w yX13_parties cX13_parties 5 (some .int) { frames := 2, cells := 0, slots := 0, locals := 44 } 0 0 [rv w 103, .int x1] M (Pwi res) := by
  refine CM_of (by decide) (Nat.le_of_ble_eq_true rfl) (fun G hw hl h => ?_)
  subst hw
  exact kX13_parties_e0 h zf

-- X13_triesDeed
theorem kX13_triesDeed_b56 {G : GX} (h : OKm G cX13_triesDeed RX13 3 (some .boolean) { frames := 7, cells := 0, slots := 0, locals := 166 }) {M : Mem} {x1 : Int32} {x2 : Int32} {res : (Int32 × Mem)} (zf : fX13_triesDeed_b56 M x1 x2 = some res) : GG G (Qm G (Pwi res) 0 0) 0 0 56 [(0, rv G.1 103), (1, .int x1), (2, .int x2)] [] M := by
  unfold fX13_triesDeed_b56 at zf
  refine g_aload_n h 0 rfl dX13_triesDeed_56 ?_
  refine g_iload_n h 1 rfl dX13_triesDeed_57 ?_
  refine g_bipush h 31 (v := 31) (by decide) dX13_triesDeed_58 ?_
  refine g_iadd h dX13_triesDeed_60 ?_
  refine g_iload_n h 2 rfl dX13_triesDeed_61 ?_
  have zf1 := b2_some zf
  clear zf; obtain ⟨vq5, Mq6, zq, zf⟩ := zf1
  refine g_callVwi (As := [.int (x1 + 31), .int x2]) (rest := []) h ceX13_does mlX13_396 imX13_does seX13_does (by rfl) (kd_lt (by rw [(by decide : kd 103 = 11)]; decide)) (ent_11 (by decide : kd 103 = 11)) rfl rfl ⟨by decide, by decide⟩ ⟨by decide, by decide⟩ rfl dX13_triesDeed_62 rfl (Nat.le_of_ble_eq_true rfl) (cmX13_does zq) ?_
  refine g_pop h rfl dX13_triesDeed_65 ?_
  refine g_aload_n h 0 rfl dX13_triesDeed_66 ?_
  refine g_iload_n h 1 rfl dX13_triesDeed_67 ?_
  refine g_bipush h 31 (v := 31) (by decide) dX13_triesDeed_68 ?_
  refine g_iadd h dX13_triesDeed_70 ?_
  refine g_iconst h 1 (v := 1) (by decide) dX13_triesDeed_71 ?_
  have zf1 := bd_some zf
  clear zf; obtain ⟨Mq7, zq, zf⟩ := zf1
  refine g_callVwv (As := [.int (x1 + 31), .int 1]) (rest := []) h ceX13_ends mlX13_400 imX13_ends seX13_ends (by rfl) (kd_lt (by rw [(by decide : kd 103 = 11)]; decide)) (ent_11 (by decide : kd 103 = 11)) rfl rfl ⟨by decide, by decide⟩ ⟨by decide, by decide⟩ rfl dX13_triesDeed_72 rfl (Nat.le_of_ble_eq_true rfl) (cmX13_ends zq) ?_
  refine g_iconst h 1 (v := 1) (by decide) dX13_triesDeed_75 ?_
  obtain rfl := Option.some.inj zf
  exact g_zret h (by decide) rfl ⟨rfl, rfl⟩ (Nat.le_refl _) (Nat.le_refl _) dX13_triesDeed_76

theorem kX13_triesDeed_e0 {G : GX} (h : OKm G cX13_triesDeed RX13 3 (some .boolean) { frames := 7, cells := 0, slots := 0, locals := 166 }) {M : Mem} {x1 : Int32} {x2 : Int32} {res : (Int32 × Mem)} (zf : fX13_triesDeed M x1 x2 = some res) : GG G (Qm G (Pwi res) 0 0) 0 0 0 [(0, rv G.1 103), (1, .int x1), (2, .int x2)] [] M := by
  unfold fX13_triesDeed at zf
  refine g_aload_n h 0 rfl dX13_triesDeed_0 ?_
  refine g_iload_n h 1 rfl dX13_triesDeed_1 ?_
  refine g_iload_n h 1 rfl dX13_triesDeed_2 ?_
  refine g_bipush h 31 (v := 31) (by decide) dX13_triesDeed_3 ?_
  refine g_iadd h dX13_triesDeed_5 ?_
  have zf1 := bd_some zf
  clear zf; obtain ⟨Mq1, zq, zf⟩ := zf1
  refine g_callVwv (As := [.int x1, .int (x1 + 31)]) (rest := []) h ceX13_lays0 mlX13_432 imX13_lays0 seX13_lays0 (by rfl) (kd_lt (by rw [(by decide : kd 103 = 11)]; decide)) (ent_11 (by decide : kd 103 = 11)) rfl rfl ⟨by decide, by decide⟩ ⟨by decide, by decide⟩ rfl dX13_triesDeed_6 rfl (Nat.le_of_ble_eq_true rfl) (cmX13_lays0 zq) ?_
  refine g_aload_n h 0 rfl dX13_triesDeed_9 ?_
  refine g_iload_n h 1 rfl dX13_triesDeed_10 ?_
  refine g_bipush h 31 (v := 31) (by decide) dX13_triesDeed_11 ?_
  refine g_iadd h dX13_triesDeed_13 ?_
  refine g_aload_n h 0 rfl dX13_triesDeed_14 ?_
  refine g_aload_n h 0 rfl dX13_triesDeed_15 ?_
  refine gfX13_108 h (by decide : kd 103 = 11) dX13_triesDeed_16 ?_
  refine g_iload_n h 1 rfl dX13_triesDeed_19 ?_
  refine g_iconst h 3 (v := 3) (by decide) dX13_triesDeed_20 ?_
  refine g_iadd h dX13_triesDeed_21 ?_
  refine g_iald h 186 (by decide : kd 133 = 20) (by decide) zf dX13_triesDeed_22 ?_
  clear zf; intro vq2 zf
  have zf1 := bd_some zf
  clear zf; obtain ⟨vq3, zq, zf⟩ := zf1
  refine g_callVri (As := [.int vq2]) (rest := [.int (x1 + 31), rv G.1 103]) h ceX13_harvestOf mlX13_387 imX13_harvestOf seX13_harvestOf (by rfl) (kd_lt (by rw [(by decide : kd 103 = 11)]; decide)) (ent_11 (by decide : kd 103 = 11)) rfl rfl ⟨by decide, by decide⟩ ⟨by decide, by decide⟩ rfl dX13_triesDeed_23 rfl (Nat.le_of_ble_eq_true rfl) (cmX13_harvestOf zq) ?_
  have zf1 := bd_some zf
  clear zf; obtain ⟨Mq4, zq, zf⟩ := zf1
  refine g_callVwv (As := [.int (x1 + 31), .int vq3]) (rest := []) h ceX13_gathers mlX13_390 imX13_gathers seX13_gathers (by rfl) (kd_lt (by rw [(by decide : kd 103 = 11)]; decide)) (ent_11 (by decide : kd 103 = 11)) rfl rfl ⟨by decide, by decide⟩ ⟨by decide, by decide⟩ rfl dX13_triesDeed_26 rfl (Nat.le_of_ble_eq_true rfl) (cmX13_gathers zq) ?_
  refine g_iload_n h 2 rfl dX13_triesDeed_29 ?_
  refine g_iconst h (-1) (v := (-1)) (by decide) dX13_triesDeed_30 ?_
  refine g_ic_eq h 56 (by decide) zf dX13_triesDeed_31 ?_ ?_ <;> clear zf <;> intro zf
  · refine g_sub h [0, 1, 2] rfl ?_
    exact kX13_triesDeed_b56 h zf
  · refine g_aload_n h 0 rfl dX13_triesDeed_34 ?_
    refine gfX13_16 h (by decide : kd 103 = 11) dX13_triesDeed_35 ?_
    refine g_iload_n h 2 rfl dX13_triesDeed_38 ?_
    refine g_iald h 7 (by decide : kd 104 = 20) (by decide) zf dX13_triesDeed_39 ?_
    clear zf; intro vq8 zf
    refine g_aload_n h 0 rfl dX13_triesDeed_40 ?_
    refine gfX13_108 h (by decide : kd 103 = 11) dX13_triesDeed_41 ?_
    refine g_iload_n h 1 rfl dX13_triesDeed_44 ?_
    refine g_bipush h 31 (v := 31) (by decide) dX13_triesDeed_45 ?_
    refine g_iadd h dX13_triesDeed_47 ?_
    refine g_iconst h 0 (v := 0) (by decide) dX13_triesDeed_48 ?_
    refine g_iadd h dX13_triesDeed_49 ?_
    refine g_iald h 186 (by decide : kd 133 = 20) (by decide) zf dX13_triesDeed_50 ?_
    clear zf; intro vq9 zf
    refine g_ic_le h 56 (by decide) zf dX13_triesDeed_51 ?_ ?_ <;> clear zf <;> intro zf
    · refine g_sub h [0, 1, 2] rfl ?_
      exact kX13_triesDeed_b56 h zf
    · refine g_iconst h 0 (v := 0) (by decide) dX13_triesDeed_54 ?_
      obtain rfl := Option.some.inj zf
      exact g_zret h (by decide) rfl ⟨rfl, rfl⟩ (Nat.le_refl _) (Nat.le_refl _) dX13_triesDeed_55

theorem cmX13_triesDeed {l : Launch} {w : WX} {M : Mem} {x1 : Int32} {x2 : Int32} {res : (Int32 × Mem)} (zf : fX13_triesDeed M x1 x2 = some res) : CM l w yX13_triesDeed cX13_triesDeed 3 (some .boolean) { frames := 7, cells := 0, slots := 0, locals := 166 } 0 0 [rv w 103, .int x1, .int x2] M (Pwi res) := by
  refine CM_of (by decide) (Nat.le_of_ble_eq_true rfl) (fun G hw hl h => ?_)
  subst hw
  exact kX13_triesDeed_e0 h zf

-- X13_planOne
theorem kX13_planOne_b103 {G : GX} (h : OKm G cX13_planOne RX13 8 (some .int) { frames := 8, cells := 0, slots := 0, locals := 188 }) {a9 : Mem → Int32 → Int32 → Int32 → Int32 → Int32 → Option (Int32 × Mem)} (zh9 : ∀ (M : Mem) (x1 : Int32) (x2 : Int32) (x3 : Int32) (x4 : Int32) (x5 : Int32) (res : (Int32 × Mem)), a9 M x1 x2 x3 x4 x5 = some res → GG G (Qm G (Pwi res) 0 0) 0 0 9 [(0, rv G.1 103), (1, .int x1), (2, .int x2), (3, .int x3), (4, .int x4), (5, .int x5)] [] M) {M : Mem} {x1 : Int32} {x2 : Int32} {x3 : Int32} {x4 : Int32} {x5 : Int32} {res : (Int32 × Mem)} (zf : fX13_planOne_b103 a9 M x1 x2 x3 x4 x5 = some res) : GG G (Qm G (Pwi res) 0 0) 0 0 103 [(0, rv G.1 103), (1, .int x1), (2, .int x2), (3, .int x3), (4, .int x4), (5, .int x5)] [] M := by
  unfold fX13_planOne_b103 at zf
  refine g_iinc h 5 5 rfl (v := x5 + 1) (congrArg (fun z => x5 + z) (by decide : Int32.ofInt (1) = (1 : Int32))) [(5, .int (x5 + 1)), (0, rv G.1 103), (1, .int x1), (2, .int x2), (3, .int x3), (4, .int x4)] (by decide) rfl dX13_planOne_103 ?_
  refine g_nmV zf ?_
  clear zf; intro vq7 zf
  refine g_goto h 9 (by decide) dX13_planOne_106 ?_
  refine g_sub h [1, 2, 3, 4, 5, 0] rfl ?_
  exact zh9 _ _ _ _ _ _ _ zf

theorem kX13_planOne_b96 {G : GX} (h : OKm G cX13_planOne RX13 8 (some .int) { frames := 8, cells := 0, slots := 0, locals := 188 }) {a9 : Mem → Int32 → Int32 → Int32 → Int32 → Int32 → Option (Int32 × Mem)} (zh9 : ∀ (M : Mem) (x1 : Int32) (x2 : Int32) (x3 : Int32) (x4 : Int32) (x5 : Int32) (res : (Int32 × Mem)), a9 M x1 x2 x3 x4 x5 = some res → GG G (Qm G (Pwi res) 0 0) 0 0 9 [(0, rv G.1 103), (1, .int x1), (2, .int x2), (3, .int x3), (4, .int x4), (5, .int x5)] [] M) {M : Mem} {x1 : Int32} {x2 : Int32} {x5 : Int32} {x6 : Int32} {x7 : Int32} {res : (Int32 × Mem)} (zf : fX13_planOne_b96 a9 M x1 x2 x5 x6 x7 = some res) : GG G (Qm G (Pwi res) 0 0) 0 0 96 [(0, rv G.1 103), (1, .int x1), (2, .int x2), (5, .int x5), (6, .int x6), (7, .int x7)] [] M := by
  unfold fX13_planOne_b96 at zf
  refine g_iload h 5 rfl dX13_planOne_96 ?_
  refine g_istore_n h rfl [(3, .int x7), (0, rv G.1 103), (1, .int x1), (2, .int x2), (5, .int x5), (6, .int x6), (7, .int x7)] (by decide) rfl dX13_planOne_98 ?_
  refine g_iload h 5 rfl dX13_planOne_99 ?_
  refine g_istore h [(4, .int x6), (3, .int x7), (0, rv G.1 103), (1, .int x1), (2, .int x2), (5, .int x5), (6, .int x6), (7, .int x7)] (by decide) rfl dX13_planOne_101 ?_
  refine g_sub h [2, 3, 4, 1, 0, 5] rfl ?_
  exact kX13_planOne_b103 h zh9 zf

theorem kX13_planOne_b33 {G : GX} (h : OKm G cX13_planOne RX13 8 (some .int) { frames := 8, cells := 0, slots := 0, locals := 188 }) {a9 : Mem → Int32 → Int32 → Int32 → Int32 → Int32 → Option (Int32 × Mem)} (zh9 : ∀ (M : Mem) (x1 : Int32) (x2 : Int32) (x3 : Int32) (x4 : Int32) (x5 : Int32) (res : (Int32 × Mem)), a9 M x1 x2 x3 x4 x5 = some res → GG G (Qm G (Pwi res) 0 0) 0 0 9 [(0, rv G.1 103), (1, .int x1), (2, .int x2), (3, .int x3), (4, .int x4), (5, .int x5)] [] M) {M : Mem} {x1 : Int32} {x2 : Int32} {x3 : Int32} {x4 : Int32} {x5 : Int32} {s0 : Int32} {res : (Int32 × Mem)} (zf : fX13_planOne_b33 a9 M x1 x2 x3 x4 x5 s0 = some res) : GG G (Qm G (Pwi res) 0 0) 0 0 33 [(0, rv G.1 103), (1, .int x1), (2, .int x2), (3, .int x3), (4, .int x4), (5, .int x5)] [.int s0] M := by
  unfold fX13_planOne_b33 at zf
  refine g_istore h [(6, .int s0), (0, rv G.1 103), (1, .int x1), (2, .int x2), (3, .int x3), (4, .int x4), (5, .int x5)] (by decide) rfl dX13_planOne_33 ?_
  refine g_aload_n h 1 rfl dX13_planOne_35 ?_
  refine g_iload_n h 2 rfl dX13_planOne_36 ?_
  refine g_iload h 0 rfl dX13_planOne_37 ?_
  have zf1 := b2_some zf
  clear zf; obtain ⟨vq4, Mq5, zq, zf⟩ := zf1
  refine g_callVwi (As := [.int x1, .int s0]) (rest := []) h ceX13_triesDeed mlX13_438 imX13_triesDeed seX13_triesDeed (by rfl) (kd_lt (by rw [(by decide : kd 103 = 11)]; decide)) (ent_11 (by decide : kd 103 = 11)) rfl rfl ⟨by decide, by decide⟩ ⟨by decide, by decide⟩ rfl dX13_planOne_39 rfl (Nat.le_of_ble_eq_true rfl) (cmX13_triesDeed zq) ?_
  refine g_if_ne h 48 (by decide) zf dX13_planOne_42 ?_ ?_ <;> clear zf <;> intro zf
  · refine g_aload_n h 1 rfl dX13_planOne_48 ?_
    refine g_iload_n h 2 rfl dX13_planOne_49 ?_
    refine g_bipush h 31 (v := 31) (by decide) dX13_planOne_50 ?_
    refine g_iadd h dX13_planOne_52 ?_
    refine g_iload_n h 3 rfl dX13_planOne_53 ?_
    have zf1 := bd_some zf
    clear zf; obtain ⟨vq6, zq, zf⟩ := zf1
    refine g_callVri (As := [.int (x1 + 31), .int x2]) (rest := []) h ceX13_ahead0 mlX13_441 imX13_ahead0 seX13_ahead0 (by rfl) (kd_lt (by rw [(by decide : kd 103 = 11)]; decide)) (ent_11 (by decide : kd 103 = 11)) rfl rfl ⟨by decide, by decide⟩ ⟨by decide, by decide⟩ rfl dX13_planOne_54 rfl (Nat.le_of_ble_eq_true rfl) (cmX13_ahead0 zq) ?_
    refine g_istore h [(7, .int vq6), (6, .int s0), (0, rv G.1 103), (1, .int x1), (2, .int x2), (3, .int x3), (4, .int x4), (5, .int x5)] (by decide) rfl dX13_planOne_57 ?_
    refine g_iload h 6 rfl dX13_planOne_59 ?_
    refine g_bipush h (-2) (v := (-2)) (by decide) dX13_planOne_61 ?_
    refine g_ic_eq h 96 (by decide) zf dX13_planOne_63 ?_ ?_ <;> clear zf <;> intro zf
    · refine g_sub h [2, 3, 4, 7, 1, 0] rfl ?_
      exact kX13_planOne_b96 h zh9 zf
    · refine g_aload_n h 2 rfl dX13_planOne_66 ?_
      refine gfX13_108 h (by decide : kd 103 = 11) dX13_planOne_67 ?_
      refine g_iload_n h 3 rfl dX13_planOne_70 ?_
      refine g_iconst h 4 (v := 4) (by decide) dX13_planOne_71 ?_
      refine g_iadd h dX13_planOne_72 ?_
      refine g_iald h 186 (by decide : kd 133 = 20) (by decide) zf dX13_planOne_73 ?_
      clear zf; intro vq8 zf
      refine g_iload_n h 4 rfl dX13_planOne_74 ?_
      refine g_ic_ne h 87 (by decide) zf dX13_planOne_75 ?_ ?_ <;> clear zf <;> intro zf
      · refine g_iload h 0 rfl dX13_planOne_87 ?_
        refine g_iload_n h 5 rfl dX13_planOne_89 ?_
        refine g_ic_lt h 96 (by decide) zf dX13_planOne_90 ?_ ?_ <;> clear zf <;> intro zf
        · refine g_sub h [2, 3, 4, 7, 1, 0] rfl ?_
          exact kX13_planOne_b96 h zh9 zf
        · refine g_goto h 103 (by decide) dX13_planOne_93 ?_
          refine g_sub h [2, 3, 4, 5, 6, 7] rfl ?_
          exact kX13_planOne_b103 h zh9 zf
      · refine g_iload h 0 rfl dX13_planOne_78 ?_
        refine g_iload_n h 5 rfl dX13_planOne_80 ?_
        refine g_ic_gt h 96 (by decide) zf dX13_planOne_81 ?_ ?_ <;> clear zf <;> intro zf
        · refine g_sub h [2, 3, 4, 7, 1, 0] rfl ?_
          exact kX13_planOne_b96 h zh9 zf
        · refine g_goto h 103 (by decide) dX13_planOne_84 ?_
          refine g_sub h [2, 3, 4, 5, 6, 7] rfl ?_
          exact kX13_planOne_b103 h zh9 zf
  · refine g_goto h 103 (by decide) dX13_planOne_45 ?_
    refine g_sub h [1, 2, 3, 4, 5, 6] rfl ?_
    exact kX13_planOne_b103 h zh9 zf

theorem kX13_planOne_l9 {G : GX} (h : OKm G cX13_planOne RX13 8 (some .int) { frames := 8, cells := 0, slots := 0, locals := 188 }) : ∀ (n : Nat) (M : Mem) (x1 : Int32) (x2 : Int32) (x3 : Int32) (x4 : Int32) (x5 : Int32) (res : (Int32 × Mem)), fX13_planOne_l9 n M x1 x2 x3 x4 x5 = some res → GG G (Qm G (Pwi res) 0 0) 0 0 9 [(0, rv G.1 103), (1, .int x1), (2, .int x2), (3, .int x3), (4, .int x4), (5, .int x5)] [] M := by
  intro n
  induction n with
  | zero => intro M x1 x2 x3 x4 x5 res zf; rw [fX13_planOne_l9] at zf; cases zf
  | succ n ih =>
    intro M x1 x2 x3 x4 x5 res zf
    rw [fX13_planOne_l9] at zf
    refine g_iload h 5 rfl dX13_planOne_9 ?_
    refine g_aload_n h 0 rfl dX13_planOne_11 ?_
    refine gfX13_333 h (by decide : kd 103 = 11) dX13_planOne_12 ?_
    refine g_nmI zf ?_
    clear zf; intro vq1 zf
    refine g_ic_gt h 109 (by decide) zf dX13_planOne_15 ?_ ?_ <;> clear zf <;> intro zf
    · refine g_aload_n h 0 rfl dX13_planOne_109 ?_
      refine g_iload h 4 rfl dX13_planOne_110 ?_
      refine pfX13_444 h (by decide : kd 103 = 11) dX13_planOne_112 ?_
      refine g_nmM zf ?_
      clear zf; intro Mq2 zf
      refine g_iload_n h 3 rfl dX13_planOne_115 ?_
      obtain rfl := Option.some.inj zf
      exact g_iret h rfl ⟨rfl, rfl⟩ (Nat.le_refl _) (Nat.le_refl _) dX13_planOne_116
    · refine g_iload h 5 rfl dX13_planOne_18 ?_
      refine g_aload_n h 0 rfl dX13_planOne_20 ?_
      refine gfX13_333 h (by decide : kd 103 = 11) dX13_planOne_21 ?_
      refine g_nmI zf ?_
      clear zf; intro vq3 zf
      refine g_ic_ne h 31 (by decide) zf dX13_planOne_24 ?_ ?_ <;> clear zf <;> intro zf
      · refine g_iload h 5 rfl dX13_planOne_31 ?_
        refine g_sub h [0, 1, 2, 3, 4, 5] rfl ?_
        exact kX13_planOne_b33 h ih zf
      · refine g_iconst h (-1) (v := (-1)) (by decide) dX13_planOne_27 ?_
        refine g_goto h 33 (by decide) dX13_planOne_28 ?_
        refine g_sub h [0, 1, 2, 3, 4, 5] rfl ?_
        exact kX13_planOne_b33 h ih zf

theorem kX13_planOne_e0 {G : GX} (h : OKm G cX13_planOne RX13 8 (some .int) { frames := 8, cells := 0, slots := 0, locals := 188 }) {M : Mem} {x1 : Int32} {x2 : Int32} {res : (Int32 × Mem)} (zf : fX13_planOne M x1 x2 = some res) : GG G (Qm G (Pwi res) 0 0) 0 0 0 [(0, rv G.1 103), (1, .int x1), (2, .int x2)] [] M := by
  unfold fX13_planOne at zf
  refine g_iconst h 0 (v := 0) (by decide) dX13_planOne_0 ?_
  refine g_istore_n h rfl [(3, .int 0), (0, rv G.1 103), (1, .int x1), (2, .int x2)] (by decide) rfl dX13_planOne_1 ?_
  refine g_bipush h (-2) (v := (-2)) (by decide) dX13_planOne_2 ?_
  refine g_istore h [(4, .int (-2)), (3, .int 0), (0, rv G.1 103), (1, .int x1), (2, .int x2)] (by decide) rfl dX13_planOne_4 ?_
  refine g_iconst h 0 (v := 0) (by decide) dX13_planOne_6 ?_
  refine g_istore h [(5, .int 0), (4, .int (-2)), (3, .int 0), (0, rv G.1 103), (1, .int x1), (2, .int x2)] (by decide) rfl dX13_planOne_7 ?_
  refine g_sub h [3, 4, 5, 2, 1, 0] rfl ?_
  exact kX13_planOne_l9 h _ _ _ _ _ _ _ _ zf

theorem cmX13_planOne {l : Launch} {w : WX} {M : Mem} {x1 : Int32} {x2 : Int32} {res : (Int32 × Mem)} (zf : fX13_planOne M x1 x2 = some res) : CM l w yX13_planOne cX13_planOne 8 (some .int) { frames := 8, cells := 0, slots := 0, locals := 188 } 0 0 [rv w 103, .int x1, .int x2] M (Pwi res) := by
  refine CM_of (by decide) (Nat.le_of_ble_eq_true rfl) (fun G hw hl h => ?_)
  subst hw
  exact kX13_planOne_e0 h zf

-- X13_planTwo
theorem kX13_planTwo_b103 {G : GX} (h : OKm G cX13_planTwo RX13 8 (some .int) { frames := 9, cells := 0, slots := 0, locals := 215 }) {a9 : Mem → Int32 → Int32 → Int32 → Int32 → Int32 → Option (Int32 × Mem)} (zh9 : ∀ (M : Mem) (x1 : Int32) (x2 : Int32) (x3 : Int32) (x4 : Int32) (x5 : Int32) (res : (Int32 × Mem)), a9 M x1 x2 x3 x4 x5 = some res → GG G (Qm G (Pwi res) 0 0) 0 0 9 [(0, rv G.1 103), (1, .int x1), (2, .int x2), (3, .int x3), (4, .int x4), (5, .int x5)] [] M) {M : Mem} {x1 : Int32} {x2 : Int32} {x3 : Int32} {x4 : Int32} {x5 : Int32} {res : (Int32 × Mem)} (zf : fX13_planTwo_b103 a9 M x1 x2 x3 x4 x5 = some res) : GG G (Qm G (Pwi res) 0 0) 0 0 103 [(0, rv G.1 103), (1, .int x1), (2, .int x2), (3, .int x3), (4, .int x4), (5, .int x5)] [] M := by
  unfold fX13_planTwo_b103 at zf
  refine g_iinc h 5 5 rfl (v := x5 + 1) (congrArg (fun z => x5 + z) (by decide : Int32.ofInt (1) = (1 : Int32))) [(5, .int (x5 + 1)), (0, rv G.1 103), (1, .int x1), (2, .int x2), (3, .int x3), (4, .int x4)] (by decide) rfl dX13_planTwo_103 ?_
  refine g_nmV zf ?_
  clear zf; intro vq8 zf
  refine g_goto h 9 (by decide) dX13_planTwo_106 ?_
  refine g_sub h [1, 2, 3, 4, 5, 0] rfl ?_
  exact zh9 _ _ _ _ _ _ _ zf

theorem kX13_planTwo_b96 {G : GX} (h : OKm G cX13_planTwo RX13 8 (some .int) { frames := 9, cells := 0, slots := 0, locals := 215 }) {a9 : Mem → Int32 → Int32 → Int32 → Int32 → Int32 → Option (Int32 × Mem)} (zh9 : ∀ (M : Mem) (x1 : Int32) (x2 : Int32) (x3 : Int32) (x4 : Int32) (x5 : Int32) (res : (Int32 × Mem)), a9 M x1 x2 x3 x4 x5 = some res → GG G (Qm G (Pwi res) 0 0) 0 0 9 [(0, rv G.1 103), (1, .int x1), (2, .int x2), (3, .int x3), (4, .int x4), (5, .int x5)] [] M) {M : Mem} {x1 : Int32} {x2 : Int32} {x5 : Int32} {x6 : Int32} {x7 : Int32} {res : (Int32 × Mem)} (zf : fX13_planTwo_b96 a9 M x1 x2 x5 x6 x7 = some res) : GG G (Qm G (Pwi res) 0 0) 0 0 96 [(0, rv G.1 103), (1, .int x1), (2, .int x2), (5, .int x5), (6, .int x6), (7, .int x7)] [] M := by
  unfold fX13_planTwo_b96 at zf
  refine g_iload h 5 rfl dX13_planTwo_96 ?_
  refine g_istore_n h rfl [(3, .int x7), (0, rv G.1 103), (1, .int x1), (2, .int x2), (5, .int x5), (6, .int x6), (7, .int x7)] (by decide) rfl dX13_planTwo_98 ?_
  refine g_iload h 5 rfl dX13_planTwo_99 ?_
  refine g_istore h [(4, .int x6), (3, .int x7), (0, rv G.1 103), (1, .int x1), (2, .int x2), (5, .int x5), (6, .int x6), (7, .int x7)] (by decide) rfl dX13_planTwo_101 ?_
  refine g_sub h [2, 3, 4, 1, 0, 5] rfl ?_
  exact kX13_planTwo_b103 h zh9 zf

theorem kX13_planTwo_b33 {G : GX} (h : OKm G cX13_planTwo RX13 8 (some .int) { frames := 9, cells := 0, slots := 0, locals := 215 }) {a9 : Mem → Int32 → Int32 → Int32 → Int32 → Int32 → Option (Int32 × Mem)} (zh9 : ∀ (M : Mem) (x1 : Int32) (x2 : Int32) (x3 : Int32) (x4 : Int32) (x5 : Int32) (res : (Int32 × Mem)), a9 M x1 x2 x3 x4 x5 = some res → GG G (Qm G (Pwi res) 0 0) 0 0 9 [(0, rv G.1 103), (1, .int x1), (2, .int x2), (3, .int x3), (4, .int x4), (5, .int x5)] [] M) {M : Mem} {x1 : Int32} {x2 : Int32} {x3 : Int32} {x4 : Int32} {x5 : Int32} {s0 : Int32} {res : (Int32 × Mem)} (zf : fX13_planTwo_b33 a9 M x1 x2 x3 x4 x5 s0 = some res) : GG G (Qm G (Pwi res) 0 0) 0 0 33 [(0, rv G.1 103), (1, .int x1), (2, .int x2), (3, .int x3), (4, .int x4), (5, .int x5)] [.int s0] M := by
  unfold fX13_planTwo_b33 at zf
  refine g_istore h [(6, .int s0), (0, rv G.1 103), (1, .int x1), (2, .int x2), (3, .int x3), (4, .int x4), (5, .int x5)] (by decide) rfl dX13_planTwo_33 ?_
  refine g_aload_n h 1 rfl dX13_planTwo_35 ?_
  refine g_iload_n h 2 rfl dX13_planTwo_36 ?_
  refine g_iload h 0 rfl dX13_planTwo_37 ?_
  have zf1 := b2_some zf
  clear zf; obtain ⟨vq4, Mq5, zq, zf⟩ := zf1
  refine g_callVwi (As := [.int x1, .int s0]) (rest := []) h ceX13_triesDeed mlX13_438 imX13_triesDeed seX13_triesDeed (by rfl) (kd_lt (by rw [(by decide : kd 103 = 11)]; decide)) (ent_11 (by decide : kd 103 = 11)) rfl rfl ⟨by decide, by decide⟩ ⟨by decide, by decide⟩ rfl dX13_planTwo_39 rfl (Nat.le_of_ble_eq_true rfl) (cmX13_triesDeed zq) ?_
  refine g_if_ne h 48 (by decide) zf dX13_planTwo_42 ?_ ?_ <;> clear zf <;> intro zf
  · refine g_aload_n h 1 rfl dX13_planTwo_48 ?_
    refine g_iload_n h 2 rfl dX13_planTwo_49 ?_
    refine g_bipush h 31 (v := 31) (by decide) dX13_planTwo_50 ?_
    refine g_iadd h dX13_planTwo_52 ?_
    refine g_iload_n h 3 rfl dX13_planTwo_53 ?_
    have zf1 := b2_some zf
    clear zf; obtain ⟨vq6, Mq7, zq, zf⟩ := zf1
    refine g_callVwi (As := [.int (x1 + 31), .int x2]) (rest := []) h ceX13_planOne mlX13_447 imX13_planOne seX13_planOne (by rfl) (kd_lt (by rw [(by decide : kd 103 = 11)]; decide)) (ent_11 (by decide : kd 103 = 11)) rfl rfl ⟨by decide, by decide⟩ ⟨by decide, by decide⟩ rfl dX13_planTwo_54 rfl (Nat.le_of_ble_eq_true rfl) (cmX13_planOne zq) ?_
    refine g_istore h [(7, .int vq6), (6, .int s0), (0, rv G.1 103), (1, .int x1), (2, .int x2), (3, .int x3), (4, .int x4), (5, .int x5)] (by decide) rfl dX13_planTwo_57 ?_
    refine g_iload h 6 rfl dX13_planTwo_59 ?_
    refine g_bipush h (-2) (v := (-2)) (by decide) dX13_planTwo_61 ?_
    refine g_ic_eq h 96 (by decide) zf dX13_planTwo_63 ?_ ?_ <;> clear zf <;> intro zf
    · refine g_sub h [2, 3, 4, 7, 1, 0] rfl ?_
      exact kX13_planTwo_b96 h zh9 zf
    · refine g_aload_n h 2 rfl dX13_planTwo_66 ?_
      refine gfX13_108 h (by decide : kd 103 = 11) dX13_planTwo_67 ?_
      refine g_iload_n h 3 rfl dX13_planTwo_70 ?_
      refine g_iconst h 4 (v := 4) (by decide) dX13_planTwo_71 ?_
      refine g_iadd h dX13_planTwo_72 ?_
      refine g_iald h 186 (by decide : kd 133 = 20) (by decide) zf dX13_planTwo_73 ?_
      clear zf; intro vq9 zf
      refine g_iload_n h 4 rfl dX13_planTwo_74 ?_
      refine g_ic_ne h 87 (by decide) zf dX13_planTwo_75 ?_ ?_ <;> clear zf <;> intro zf
      · refine g_iload h 0 rfl dX13_planTwo_87 ?_
        refine g_iload_n h 5 rfl dX13_planTwo_89 ?_
        refine g_ic_lt h 96 (by decide) zf dX13_planTwo_90 ?_ ?_ <;> clear zf <;> intro zf
        · refine g_sub h [2, 3, 4, 7, 1, 0] rfl ?_
          exact kX13_planTwo_b96 h zh9 zf
        · refine g_goto h 103 (by decide) dX13_planTwo_93 ?_
          refine g_sub h [2, 3, 4, 5, 6, 7] rfl ?_
          exact kX13_planTwo_b103 h zh9 zf
      · refine g_iload h 0 rfl dX13_planTwo_78 ?_
        refine g_iload_n h 5 rfl dX13_planTwo_80 ?_
        refine g_ic_gt h 96 (by decide) zf dX13_planTwo_81 ?_ ?_ <;> clear zf <;> intro zf
        · refine g_sub h [2, 3, 4, 7, 1, 0] rfl ?_
          exact kX13_planTwo_b96 h zh9 zf
        · refine g_goto h 103 (by decide) dX13_planTwo_84 ?_
          refine g_sub h [2, 3, 4, 5, 6, 7] rfl ?_
          exact kX13_planTwo_b103 h zh9 zf
  · refine g_goto h 103 (by decide) dX13_planTwo_45 ?_
    refine g_sub h [1, 2, 3, 4, 5, 6] rfl ?_
    exact kX13_planTwo_b103 h zh9 zf

theorem kX13_planTwo_l9 {G : GX} (h : OKm G cX13_planTwo RX13 8 (some .int) { frames := 9, cells := 0, slots := 0, locals := 215 }) : ∀ (n : Nat) (M : Mem) (x1 : Int32) (x2 : Int32) (x3 : Int32) (x4 : Int32) (x5 : Int32) (res : (Int32 × Mem)), fX13_planTwo_l9 n M x1 x2 x3 x4 x5 = some res → GG G (Qm G (Pwi res) 0 0) 0 0 9 [(0, rv G.1 103), (1, .int x1), (2, .int x2), (3, .int x3), (4, .int x4), (5, .int x5)] [] M := by
  intro n
  induction n with
  | zero => intro M x1 x2 x3 x4 x5 res zf; rw [fX13_planTwo_l9] at zf; cases zf
  | succ n ih =>
    intro M x1 x2 x3 x4 x5 res zf
    rw [fX13_planTwo_l9] at zf
    refine g_iload h 5 rfl dX13_planTwo_9 ?_
    refine g_aload_n h 0 rfl dX13_planTwo_11 ?_
    refine gfX13_333 h (by decide : kd 103 = 11) dX13_planTwo_12 ?_
    refine g_nmI zf ?_
    clear zf; intro vq1 zf
    refine g_ic_gt h 109 (by decide) zf dX13_planTwo_15 ?_ ?_ <;> clear zf <;> intro zf
    · refine g_aload_n h 0 rfl dX13_planTwo_109 ?_
      refine g_iload h 4 rfl dX13_planTwo_110 ?_
      refine pfX13_444 h (by decide : kd 103 = 11) dX13_planTwo_112 ?_
      refine g_nmM zf ?_
      clear zf; intro Mq2 zf
      refine g_iload_n h 3 rfl dX13_planTwo_115 ?_
      obtain rfl := Option.some.inj zf
      exact g_iret h rfl ⟨rfl, rfl⟩ (Nat.le_refl _) (Nat.le_refl _) dX13_planTwo_116
    · refine g_iload h 5 rfl dX13_planTwo_18 ?_
      refine g_aload_n h 0 rfl dX13_planTwo_20 ?_
      refine gfX13_333 h (by decide : kd 103 = 11) dX13_planTwo_21 ?_
      refine g_nmI zf ?_
      clear zf; intro vq3 zf
      refine g_ic_ne h 31 (by decide) zf dX13_planTwo_24 ?_ ?_ <;> clear zf <;> intro zf
      · refine g_iload h 5 rfl dX13_planTwo_31 ?_
        refine g_sub h [0, 1, 2, 3, 4, 5] rfl ?_
        exact kX13_planTwo_b33 h ih zf
      · refine g_iconst h (-1) (v := (-1)) (by decide) dX13_planTwo_27 ?_
        refine g_goto h 33 (by decide) dX13_planTwo_28 ?_
        refine g_sub h [0, 1, 2, 3, 4, 5] rfl ?_
        exact kX13_planTwo_b33 h ih zf

theorem kX13_planTwo_e0 {G : GX} (h : OKm G cX13_planTwo RX13 8 (some .int) { frames := 9, cells := 0, slots := 0, locals := 215 }) {M : Mem} {x1 : Int32} {x2 : Int32} {res : (Int32 × Mem)} (zf : fX13_planTwo M x1 x2 = some res) : GG G (Qm G (Pwi res) 0 0) 0 0 0 [(0, rv G.1 103), (1, .int x1), (2, .int x2)] [] M := by
  unfold fX13_planTwo at zf
  refine g_iconst h 0 (v := 0) (by decide) dX13_planTwo_0 ?_
  refine g_istore_n h rfl [(3, .int 0), (0, rv G.1 103), (1, .int x1), (2, .int x2)] (by decide) rfl dX13_planTwo_1 ?_
  refine g_bipush h (-2) (v := (-2)) (by decide) dX13_planTwo_2 ?_
  refine g_istore h [(4, .int (-2)), (3, .int 0), (0, rv G.1 103), (1, .int x1), (2, .int x2)] (by decide) rfl dX13_planTwo_4 ?_
  refine g_iconst h 0 (v := 0) (by decide) dX13_planTwo_6 ?_
  refine g_istore h [(5, .int 0), (4, .int (-2)), (3, .int 0), (0, rv G.1 103), (1, .int x1), (2, .int x2)] (by decide) rfl dX13_planTwo_7 ?_
  refine g_sub h [3, 4, 5, 2, 1, 0] rfl ?_
  exact kX13_planTwo_l9 h _ _ _ _ _ _ _ _ zf

theorem cmX13_planTwo {l : Launch} {w : WX} {M : Mem} {x1 : Int32} {x2 : Int32} {res : (Int32 × Mem)} (zf : fX13_planTwo M x1 x2 = some res) : CM l w yX13_planTwo cX13_planTwo 8 (some .int) { frames := 9, cells := 0, slots := 0, locals := 215 } 0 0 [rv w 103, .int x1, .int x2] M (Pwi res) := by
  refine CM_of (by decide) (Nat.le_of_ble_eq_true rfl) (fun G hw hl h => ?_)
  subst hw
  exact kX13_planTwo_e0 h zf

