-- X13_isBrother
theorem kX13_isBrother_e0 {G : GX} (h : OKm G cX13_isBrother RX13 2 (some .boolean) { frames := 1, cells := 0, slots := 0, locals := 22 }) {M : Mem} {x1 : Int32} {res : (Int32 × Mem)} (zf : fX13_isBrother M x1 = some res) : GG G (Qm G (Pwi res) 0 0) 0 0 0 [(0, rv G.1 103), (1, .int x1)] [] M := by
  unfold fX13_isBrother at zf
  refine g_aload_n h 0 rfl dX13_isBrother_0 ?_
  refine g_iload_n h 1 rfl dX13_isBrother_1 ?_
  refine g_iconst h 0 (v := 0) (by decide) dX13_isBrother_2 ?_
  refine g_iconst h 1 (v := 1) (by decide) dX13_isBrother_3 ?_
  have zf1 := bd_some zf
  clear zf; obtain ⟨vq1, zq, zf⟩ := zf1
  refine g_callSri (As := [.int x1, .int 0, .int 1]) (rest := [rv G.1 103]) h ceX13_within mlX13_407 smX13_within rfl rfl ⟨by decide, by decide⟩ ⟨by decide, by decide⟩ rfl dX13_isBrother_4 rfl (Nat.le_of_ble_eq_true rfl) (cmX13_within zq) ?_
  refine g_iconst h 1 (v := 1) (by decide) dX13_isBrother_7 ?_
  have zf1 := b2_some zf
  clear zf; obtain ⟨vq2, Mq3, zq, zf⟩ := zf1
  refine g_callVwi (As := [.int vq1, .int 1]) (rest := []) h ceX13_right mlX13_326 imX13_right seX13_right (by rfl) (kd_lt (by rw [(by decide : kd 103 = 11)]; decide)) (ent_11 (by decide : kd 103 = 11)) rfl rfl ⟨by decide, by decide⟩ ⟨by decide, by decide⟩ rfl dX13_isBrother_8 rfl (Nat.le_of_ble_eq_true rfl) (cmX13_right zq) ?_
  have zf1 := pre_ck zf
  clear zf; obtain ⟨zz9, zf⟩ := zf1
  obtain rfl := Option.some.inj zf
  exact g_zret h zz9 rfl ⟨rfl, rfl⟩ (Nat.le_refl _) (Nat.le_refl _) dX13_isBrother_11

theorem cmX13_isBrother {l : Launch} {w : WX} {M : Mem} {x1 : Int32} {res : (Int32 × Mem)} (zf : fX13_isBrother M x1 = some res) : CM l w yX13_isBrother cX13_isBrother 2 (some .boolean) { frames := 1, cells := 0, slots := 0, locals := 22 } 0 0 [rv w 103, .int x1] M (Pwi res) := by
  refine CM_of (by decide) (Nat.le_of_ble_eq_true rfl) (fun G hw hl h => ?_)
  subst hw
  exact kX13_isBrother_e0 h zf

-- X13_brother
theorem kX13_brother_e0 {G : GX} (h : OKm G cX13_brother RX13 3 (some .int) { frames := 5, cells := 0, slots := 0, locals := 121 }) {M : Mem} {x1 : Int32} {x2 : Int32} {res : (Int32 × Mem)} (zf : fX13_brother M x1 x2 = some res) : GG G (Qm G (Pwi res) 0 0) 0 0 0 [(0, rv G.1 103), (1, .int x1), (2, .int x2)] [] M := by
  unfold fX13_brother at zf
  refine g_aload_n h 0 rfl dX13_brother_0 ?_
  refine g_iconst h 0 (v := 0) (by decide) dX13_brother_1 ?_
  refine pfX13_141 h (by decide : kd 103 = 11) dX13_brother_2 ?_
  refine g_nmM zf ?_
  clear zf; intro Mq1 zf
  refine g_aload_n h 0 rfl dX13_brother_5 ?_
  refine g_iload_n h 1 rfl dX13_brother_6 ?_
  have zf1 := b2_some zf
  clear zf; obtain ⟨vq2, Mq3, zq, zf⟩ := zf1
  refine g_callVwi (As := [.int x1]) (rest := []) h ceX13_isBrother mlX13_417 imX13_isBrother seX13_isBrother (by rfl) (kd_lt (by rw [(by decide : kd 103 = 11)]; decide)) (ent_11 (by decide : kd 103 = 11)) rfl rfl ⟨by decide, by decide⟩ ⟨by decide, by decide⟩ rfl dX13_brother_7 rfl (Nat.le_of_ble_eq_true rfl) (cmX13_isBrother zq) ?_
  refine g_if_eq h 22 (by decide) zf dX13_brother_10 ?_ ?_ <;> clear zf <;> intro zf
  · refine g_iconst h 0 (v := 0) (by decide) dX13_brother_22 ?_
    obtain rfl := Option.some.inj zf
    exact g_iret h rfl ⟨rfl, rfl⟩ (Nat.le_refl _) (Nat.le_refl _) dX13_brother_23
  · refine g_aload_n h 0 rfl dX13_brother_13 ?_
    refine g_iload_n h 2 rfl dX13_brother_14 ?_
    refine g_iconst h 5 (v := 5) (by decide) dX13_brother_15 ?_
    have zf1 := b2_some zf
    clear zf; obtain ⟨vq4, Mq5, zq, zf⟩ := zf1
    refine g_callVwi (As := [.int x2, .int 5]) (rest := []) h ceX13_isWhat mlX13_414 imX13_isWhat seX13_isWhat (by rfl) (kd_lt (by rw [(by decide : kd 103 = 11)]; decide)) (ent_11 (by decide : kd 103 = 11)) rfl rfl ⟨by decide, by decide⟩ ⟨by decide, by decide⟩ rfl dX13_brother_16 rfl (Nat.le_of_ble_eq_true rfl) (cmX13_isWhat zq) ?_
    refine g_if_ne h 24 (by decide) zf dX13_brother_19 ?_ ?_ <;> clear zf <;> intro zf
    · refine g_iload_n h 2 rfl dX13_brother_24 ?_
      by_cases zx0 : x2 = 0
      · rw [if_pos zx0] at zf
        refine g_tabIn h (off := 35) 60 (by rw [zx0]; decide) (by rw [zx0]; decide) (by rw [zx0]; decide) (by decide) dX13_brother_25 ?_
        refine g_aload_n h 0 rfl dX13_brother_60 ?_
        refine gfX13_108 h (by decide : kd 103 = 11) dX13_brother_61 ?_
        refine g_bipush h 6 (v := 6) (by decide) dX13_brother_64 ?_
        refine g_iload_n h 1 rfl dX13_brother_66 ?_
        refine g_iadd h dX13_brother_67 ?_
        refine g_iald h 186 (by decide : kd 133 = 20) (by decide) zf dX13_brother_68 ?_
        clear zf; intro vq6 zf
        obtain rfl := Option.some.inj zf
        exact g_iret h rfl ⟨rfl, rfl⟩ (Nat.le_refl _) (Nat.le_refl _) dX13_brother_69
      rw [if_neg zx0] at zf
      have zy0 : x2.toInt ≠ 0 := fun q => zx0 (Int32.toInt_inj.mp (by rw [q]; rfl))
      by_cases zx1 : x2 = 1
      · rw [if_pos zx1] at zf
        refine g_tabIn h (off := 45) 70 (by rw [zx1]; decide) (by rw [zx1]; decide) (by rw [zx1]; decide) (by decide) dX13_brother_25 ?_
        refine g_aload_n h 0 rfl dX13_brother_70 ?_
        refine gfX13_108 h (by decide : kd 103 = 11) dX13_brother_71 ?_
        refine g_bipush h 10 (v := 10) (by decide) dX13_brother_74 ?_
        refine g_iload_n h 1 rfl dX13_brother_76 ?_
        refine g_iadd h dX13_brother_77 ?_
        refine g_iald h 186 (by decide : kd 133 = 20) (by decide) zf dX13_brother_78 ?_
        clear zf; intro vq7 zf
        obtain rfl := Option.some.inj zf
        exact g_iret h rfl ⟨rfl, rfl⟩ (Nat.le_refl _) (Nat.le_refl _) dX13_brother_79
      rw [if_neg zx1] at zf
      have zy1 : x2.toInt ≠ 1 := fun q => zx1 (Int32.toInt_inj.mp (by rw [q]; rfl))
      by_cases zx2 : x2 = 2
      · rw [if_pos zx2] at zf
        refine g_tabIn h (off := 55) 80 (by rw [zx2]; decide) (by rw [zx2]; decide) (by rw [zx2]; decide) (by decide) dX13_brother_25 ?_
        refine g_aload_n h 0 rfl dX13_brother_80 ?_
        refine gfX13_29 h (by decide : kd 103 = 11) dX13_brother_81 ?_
        refine g_iload_n h 1 rfl dX13_brother_84 ?_
        refine g_iald h 2 (by decide : kd 108 = 20) (by decide) zf dX13_brother_85 ?_
        clear zf; intro vq8 zf
        obtain rfl := Option.some.inj zf
        exact g_iret h rfl ⟨rfl, rfl⟩ (Nat.le_refl _) (Nat.le_refl _) dX13_brother_86
      rw [if_neg zx2] at zf
      have zy2 : x2.toInt ≠ 2 := fun q => zx2 (Int32.toInt_inj.mp (by rw [q]; rfl))
      by_cases zx3 : x2 = 3
      · rw [if_pos zx3] at zf
        refine g_tabIn h (off := 62) 87 (by rw [zx3]; decide) (by rw [zx3]; decide) (by rw [zx3]; decide) (by decide) dX13_brother_25 ?_
        refine g_aload_n h 0 rfl dX13_brother_87 ?_
        refine g_iconst h 0 (v := 0) (by decide) dX13_brother_88 ?_
        refine g_iload_n h 1 rfl dX13_brother_89 ?_
        have zf1 := b2_some zf
        clear zf; obtain ⟨vq9, Mq10, zq, zf⟩ := zf1
        refine g_callVwi (As := [.int 0, .int x1]) (rest := []) h ceX13_followers mlX13_375 imX13_followers seX13_followers (by rfl) (kd_lt (by rw [(by decide : kd 103 = 11)]; decide)) (ent_11 (by decide : kd 103 = 11)) rfl rfl ⟨by decide, by decide⟩ ⟨by decide, by decide⟩ rfl dX13_brother_90 rfl (Nat.le_of_ble_eq_true rfl) (cmX13_followers zq) ?_
        obtain rfl := Option.some.inj zf
        exact g_iret h rfl ⟨rfl, rfl⟩ (Nat.le_refl _) (Nat.le_refl _) dX13_brother_93
      rw [if_neg zx3] at zf
      have zy3 : x2.toInt ≠ 3 := fun q => zx3 (Int32.toInt_inj.mp (by rw [q]; rfl))
      by_cases zx4 : x2 = 4
      · rw [if_pos zx4] at zf
        refine g_tabIn h (off := 69) 94 (by rw [zx4]; decide) (by rw [zx4]; decide) (by rw [zx4]; decide) (by decide) dX13_brother_25 ?_
        refine g_aload_n h 0 rfl dX13_brother_94 ?_
        refine g_aload_n h 0 rfl dX13_brother_95 ?_
        refine g_iconst h 0 (v := 0) (by decide) dX13_brother_96 ?_
        refine g_iload_n h 1 rfl dX13_brother_97 ?_
        have zf1 := b2_some zf
        clear zf; obtain ⟨vq11, Mq12, zq, zf⟩ := zf1
        refine g_callVwi (As := [.int 0, .int x1]) (rest := [rv G.1 103]) h ceX13_followers mlX13_375 imX13_followers seX13_followers (by rfl) (kd_lt (by rw [(by decide : kd 103 = 11)]; decide)) (ent_11 (by decide : kd 103 = 11)) rfl rfl ⟨by decide, by decide⟩ ⟨by decide, by decide⟩ rfl dX13_brother_98 rfl (Nat.le_of_ble_eq_true rfl) (cmX13_followers zq) ?_
        have zf1 := bd_some zf
        clear zf; obtain ⟨vq13, zq, zf⟩ := zf1
        refine g_callVri (As := [.int vq11]) (rest := []) h ceX13_menOf mlX13_378 imX13_menOf seX13_menOf (by rfl) (kd_lt (by rw [(by decide : kd 103 = 11)]; decide)) (ent_11 (by decide : kd 103 = 11)) rfl rfl ⟨by decide, by decide⟩ ⟨by decide, by decide⟩ rfl dX13_brother_101 rfl (Nat.le_of_ble_eq_true rfl) (cmX13_menOf zq) ?_
        obtain rfl := Option.some.inj zf
        exact g_iret h rfl ⟨rfl, rfl⟩ (Nat.le_refl _) (Nat.le_refl _) dX13_brother_104
      rw [if_neg zx4] at zf
      have zy4 : x2.toInt ≠ 4 := fun q => zx4 (Int32.toInt_inj.mp (by rw [q]; rfl))
      refine g_tabOut h 105 (by omega) (by decide) dX13_brother_25 ?_
      refine g_aload_n h 0 rfl dX13_brother_105 ?_
      refine g_iconst h 0 (v := 0) (by decide) dX13_brother_106 ?_
      refine g_iload_n h 1 rfl dX13_brother_107 ?_
      have zf1 := bd_some zf
      clear zf; obtain ⟨vq14, zq, zf⟩ := zf1
      refine g_callVri (As := [.int 0, .int x1]) (rest := []) h ceX13_wayOf mlX13_393 imX13_wayOf seX13_wayOf (by rfl) (kd_lt (by rw [(by decide : kd 103 = 11)]; decide)) (ent_11 (by decide : kd 103 = 11)) rfl rfl ⟨by decide, by decide⟩ ⟨by decide, by decide⟩ rfl dX13_brother_108 rfl (Nat.le_of_ble_eq_true rfl) (cmX13_wayOf zq) ?_
      obtain rfl := Option.some.inj zf
      exact g_iret h rfl ⟨rfl, rfl⟩ (Nat.le_refl _) (Nat.le_refl _) dX13_brother_111
    · refine g_iconst h 0 (v := 0) (by decide) dX13_brother_22 ?_
      obtain rfl := Option.some.inj zf
      exact g_iret h rfl ⟨rfl, rfl⟩ (Nat.le_refl _) (Nat.le_refl _) dX13_brother_23

theorem cmX13_brother {l : Launch} {w : WX} {M : Mem} {x1 : Int32} {x2 : Int32} {res : (Int32 × Mem)} (zf : fX13_brother M x1 x2 = some res) : CM l w yX13_brother cX13_brother 3 (some .int) { frames := 5, cells := 0, slots := 0, locals := 121 } 0 0 [rv w 103, .int x1, .int x2] M (Pwi res) := by
  refine CM_of (by decide) (Nat.le_of_ble_eq_true rfl) (fun G hw hl h => ?_)
  subst hw
  exact kX13_brother_e0 h zf

-- X13_isDeed
theorem kX13_isDeed_b18 {G : GX} (h : OKm G cX13_isDeed RX13 2 (some .boolean) { frames := 1, cells := 0, slots := 0, locals := 22 }) {M : Mem} {s0 : Int32} {res : (Int32 × Mem)} (zf : fX13_isDeed_b18 M s0 = some res) : GG G (Qm G (Pwi res) 0 0) 0 0 18 [] [.int s0, rv G.1 103] M := by
  unfold fX13_isDeed_b18 at zf
  refine g_iconst h 1 (v := 1) (by decide) dX13_isDeed_18 ?_
  have zf1 := b2_some zf
  clear zf; obtain ⟨vq1, Mq2, zq, zf⟩ := zf1
  refine g_callVwi (As := [.int s0, .int 1]) (rest := []) h ceX13_right mlX13_326 imX13_right seX13_right (by rfl) (kd_lt (by rw [(by decide : kd 103 = 11)]; decide)) (ent_11 (by decide : kd 103 = 11)) rfl rfl ⟨by decide, by decide⟩ ⟨by decide, by decide⟩ rfl dX13_isDeed_19 rfl (Nat.le_of_ble_eq_true rfl) (cmX13_right zq) ?_
  have zf1 := pre_ck zf
  clear zf; obtain ⟨zz9, zf⟩ := zf1
  obtain rfl := Option.some.inj zf
  exact g_zret h zz9 rfl ⟨rfl, rfl⟩ (Nat.le_refl _) (Nat.le_refl _) dX13_isDeed_22

theorem kX13_isDeed_b17 {G : GX} (h : OKm G cX13_isDeed RX13 2 (some .boolean) { frames := 1, cells := 0, slots := 0, locals := 22 }) {M : Mem} {res : (Int32 × Mem)} (zf : fX13_isDeed_b17 M = some res) : GG G (Qm G (Pwi res) 0 0) 0 0 17 [] [rv G.1 103] M := by
  unfold fX13_isDeed_b17 at zf
  refine g_iconst h 0 (v := 0) (by decide) dX13_isDeed_17 ?_
  refine g_sub h [] rfl ?_
  exact kX13_isDeed_b18 h zf

theorem kX13_isDeed_e0 {G : GX} (h : OKm G cX13_isDeed RX13 2 (some .boolean) { frames := 1, cells := 0, slots := 0, locals := 22 }) {M : Mem} {x1 : Int32} {res : (Int32 × Mem)} (zf : fX13_isDeed M x1 = some res) : GG G (Qm G (Pwi res) 0 0) 0 0 0 [(0, rv G.1 103), (1, .int x1)] [] M := by
  unfold fX13_isDeed at zf
  refine g_aload_n h 0 rfl dX13_isDeed_0 ?_
  refine g_iload_n h 1 rfl dX13_isDeed_1 ?_
  refine g_if_lt h 17 (by decide) zf dX13_isDeed_2 ?_ ?_ <;> clear zf <;> intro zf
  · refine g_sub h [] rfl ?_
    exact kX13_isDeed_b17 h zf
  · refine g_iload_n h 1 rfl dX13_isDeed_5 ?_
    refine g_aload_n h 0 rfl dX13_isDeed_6 ?_
    refine gfX13_333 h (by decide : kd 103 = 11) dX13_isDeed_7 ?_
    refine g_nmI zf ?_
    clear zf; intro vq3 zf
    refine g_ic_ge h 17 (by decide) zf dX13_isDeed_10 ?_ ?_ <;> clear zf <;> intro zf
    · refine g_sub h [] rfl ?_
      exact kX13_isDeed_b17 h zf
    · refine g_iconst h 1 (v := 1) (by decide) dX13_isDeed_13 ?_
      refine g_goto h 18 (by decide) dX13_isDeed_14 ?_
      refine g_sub h [] rfl ?_
      exact kX13_isDeed_b18 h zf

theorem cmX13_isDeed {l : Launch} {w : WX} {M : Mem} {x1 : Int32} {res : (Int32 × Mem)} (zf : fX13_isDeed M x1 = some res) : CM l w yX13_isDeed cX13_isDeed 2 (some .boolean) { frames := 1, cells := 0, slots := 0, locals := 22 } 0 0 [rv w 103, .int x1] M (Pwi res) := by
  refine CM_of (by decide) (Nat.le_of_ble_eq_true rfl) (fun G hw hl h => ?_)
  subst hw
  exact kX13_isDeed_e0 h zf

-- X13_refuses
theorem kX13_refuses_e0 {G : GX} (h : OKm G cX13_refuses RX13 2 (some .int) { frames := 0, cells := 0, slots := 0, locals := 0 }) {M : Mem} {x1 : Int32} {res : (Int32 × Mem)} (zf : fX13_refuses M x1 = some res) : GG G (Qm G (Pwi res) 0 0) 0 0 0 [(0, rv G.1 103), (1, .int x1)] [] M := by
  unfold fX13_refuses at zf
  refine g_aload_n h 0 rfl dX13_refuses_0 ?_
  refine gfX13_59 h (by decide : kd 103 = 11) dX13_refuses_1 ?_
  refine g_iload_n h 1 rfl dX13_refuses_4 ?_
  refine g_dup2 h rfl rfl dX13_refuses_5 ?_
  refine g_iald h 3 (by decide : kd 117 = 20) (by decide) zf dX13_refuses_6 ?_
  clear zf; intro vq1 zf
  refine g_iconst h 1 (v := 1) (by decide) dX13_refuses_7 ?_
  refine g_iadd h dX13_refuses_8 ?_
  refine g_iast h 3 (by decide : kd 117 = 20) (by decide) zf dX13_refuses_9 ?_
  clear zf; intro Mq2 zf
  refine g_iconst h (-1) (v := (-1)) (by decide) dX13_refuses_10 ?_
  obtain rfl := Option.some.inj zf
  exact g_iret h rfl ⟨rfl, rfl⟩ (Nat.le_refl _) (Nat.le_refl _) dX13_refuses_11

theorem cmX13_refuses {l : Launch} {w : WX} {M : Mem} {x1 : Int32} {res : (Int32 × Mem)} (zf : fX13_refuses M x1 = some res) : CM l w yX13_refuses cX13_refuses 2 (some .int) { frames := 0, cells := 0, slots := 0, locals := 0 } 0 0 [rv w 103, .int x1] M (Pwi res) := by
  refine CM_of (by decide) (Nat.le_of_ble_eq_true rfl) (fun G hw hl h => ?_)
  subst hw
  exact kX13_refuses_e0 h zf

-- X13_keeps
theorem kX13_keeps_l52 {G : GX} (h : OKm G cX13_keeps RX13 2 none { frames := 0, cells := 0, slots := 0, locals := 0 }) : ∀ (n : Nat) (M : Mem) (x1 : Int32) (res : Mem), fX13_keeps_l52 n M x1 = some res → GG G (Qm G (Pwv res) 0 0) 0 0 52 [(0, rv G.1 103), (1, .int x1)] [] M := by
  intro n
  induction n with
  | zero => intro M x1 res zf; rw [fX13_keeps_l52] at zf; cases zf
  | succ n ih =>
    intro M x1 res zf
    rw [fX13_keeps_l52] at zf
    refine g_iload_n h 1 rfl dX13_keeps_52 ?_
    refine g_bipush h 31 (v := 31) (by decide) dX13_keeps_53 ?_
    refine g_ic_ge h 84 (by decide) zf dX13_keeps_55 ?_ ?_ <;> clear zf <;> intro zf
    · refine g_aload_n h 0 rfl dX13_keeps_84 ?_
      refine g_dup h rfl dX13_keeps_85 ?_
      refine gfX13_352 h (by decide : kd 103 = 11) dX13_keeps_86 ?_
      refine g_nmI zf ?_
      clear zf; intro vq2 zf
      refine g_iconst h 1 (v := 1) (by decide) dX13_keeps_89 ?_
      refine g_iadd h dX13_keeps_90 ?_
      refine pfX13_352 h (by decide : kd 103 = 11) dX13_keeps_91 ?_
      refine g_nmM zf ?_
      clear zf; intro Mq3 zf
      obtain rfl := Option.some.inj zf
      exact g_vret h rfl ⟨rfl, rfl⟩ (Nat.le_refl _) (Nat.le_refl _) dX13_keeps_94
    · refine g_aload_n h 0 rfl dX13_keeps_58 ?_
      refine gfX13_111 h (by decide : kd 103 = 11) dX13_keeps_59 ?_
      refine g_bipush h 31 (v := 31) (by decide) dX13_keeps_62 ?_
      refine g_aload_n h 0 rfl dX13_keeps_64 ?_
      refine gfX13_352 h (by decide : kd 103 = 11) dX13_keeps_65 ?_
      refine g_nmI zf ?_
      clear zf; intro vq4 zf
      refine g_imul h dX13_keeps_68 ?_
      refine g_iload_n h 1 rfl dX13_keeps_69 ?_
      refine g_iadd h dX13_keeps_70 ?_
      refine g_aload_n h 0 rfl dX13_keeps_71 ?_
      refine gfX13_108 h (by decide : kd 103 = 11) dX13_keeps_72 ?_
      refine g_iload_n h 1 rfl dX13_keeps_75 ?_
      refine g_iald h 186 (by decide : kd 133 = 20) (by decide) zf dX13_keeps_76 ?_
      clear zf; intro vq5 zf
      refine g_iast h 1240 (by decide : kd 134 = 20) (by decide) zf dX13_keeps_77 ?_
      clear zf; intro Mq6 zf
      refine g_iinc h 1 1 rfl (v := x1 + 1) (congrArg (fun z => x1 + z) (by decide : Int32.ofInt (1) = (1 : Int32))) [(1, .int (x1 + 1)), (0, rv G.1 103)] (by decide) rfl dX13_keeps_78 ?_
      refine g_nmV zf ?_
      clear zf; intro vq7 zf
      refine g_goto h 52 (by decide) dX13_keeps_81 ?_
      refine g_sub h [1, 0] rfl ?_
      exact ih _ _ _ zf

theorem kX13_keeps_b50 {G : GX} (h : OKm G cX13_keeps RX13 2 none { frames := 0, cells := 0, slots := 0, locals := 0 }) {M : Mem} {res : Mem} (zf : fX13_keeps_b50 M = some res) : GG G (Qm G (Pwv res) 0 0) 0 0 50 [(0, rv G.1 103)] [] M := by
  unfold fX13_keeps_b50 at zf
  refine g_iconst h 0 (v := 0) (by decide) dX13_keeps_50 ?_
  refine g_istore_n h rfl [(1, .int 0), (0, rv G.1 103)] (by decide) rfl dX13_keeps_51 ?_
  refine g_sub h [1, 0] rfl ?_
  exact kX13_keeps_l52 h _ _ _ _ zf

theorem kX13_keeps_l12 {G : GX} (h : OKm G cX13_keeps RX13 2 none { frames := 0, cells := 0, slots := 0, locals := 0 }) : ∀ (n : Nat) (M : Mem) (x1 : Int32) (res : Mem), fX13_keeps_l12 n M x1 = some res → GG G (Qm G (Pwv res) 0 0) 0 0 12 [(0, rv G.1 103), (1, .int x1)] [] M := by
  intro n
  induction n with
  | zero => intro M x1 res zf; rw [fX13_keeps_l12] at zf; cases zf
  | succ n ih =>
    intro M x1 res zf
    rw [fX13_keeps_l12] at zf
    refine g_iload_n h 1 rfl dX13_keeps_12 ?_
    refine g_sipush h 1240 (v := 1240) (by decide) dX13_keeps_13 ?_
    refine g_ic_ge h 40 (by decide) zf dX13_keeps_16 ?_ ?_ <;> clear zf <;> intro zf
    · refine g_aload_n h 0 rfl dX13_keeps_40 ?_
      refine g_dup h rfl dX13_keeps_41 ?_
      refine gfX13_352 h (by decide : kd 103 = 11) dX13_keeps_42 ?_
      refine g_nmI zf ?_
      clear zf; intro vq8 zf
      refine g_iconst h 1 (v := 1) (by decide) dX13_keeps_45 ?_
      refine g_isub h dX13_keeps_46 ?_
      refine pfX13_352 h (by decide : kd 103 = 11) dX13_keeps_47 ?_
      refine g_nmM zf ?_
      clear zf; intro Mq9 zf
      refine g_sub h [0] rfl ?_
      exact kX13_keeps_b50 h zf
    · refine g_aload_n h 0 rfl dX13_keeps_19 ?_
      refine gfX13_111 h (by decide : kd 103 = 11) dX13_keeps_20 ?_
      refine g_iload_n h 1 rfl dX13_keeps_23 ?_
      refine g_bipush h 31 (v := 31) (by decide) dX13_keeps_24 ?_
      refine g_isub h dX13_keeps_26 ?_
      refine g_aload_n h 0 rfl dX13_keeps_27 ?_
      refine gfX13_111 h (by decide : kd 103 = 11) dX13_keeps_28 ?_
      refine g_iload_n h 1 rfl dX13_keeps_31 ?_
      refine g_iald h 1240 (by decide : kd 134 = 20) (by decide) zf dX13_keeps_32 ?_
      clear zf; intro vq10 zf
      refine g_iast h 1240 (by decide : kd 134 = 20) (by decide) zf dX13_keeps_33 ?_
      clear zf; intro Mq11 zf
      refine g_iinc h 1 1 rfl (v := x1 + 1) (congrArg (fun z => x1 + z) (by decide : Int32.ofInt (1) = (1 : Int32))) [(1, .int (x1 + 1)), (0, rv G.1 103)] (by decide) rfl dX13_keeps_34 ?_
      refine g_nmV zf ?_
      clear zf; intro vq12 zf
      refine g_goto h 12 (by decide) dX13_keeps_37 ?_
      refine g_sub h [1, 0] rfl ?_
      exact ih _ _ _ zf

theorem kX13_keeps_e0 {G : GX} (h : OKm G cX13_keeps RX13 2 none { frames := 0, cells := 0, slots := 0, locals := 0 }) {M : Mem} {res : Mem} (zf : fX13_keeps M = some res) : GG G (Qm G (Pwv res) 0 0) 0 0 0 [(0, rv G.1 103)] [] M := by
  unfold fX13_keeps at zf
  refine g_aload_n h 0 rfl dX13_keeps_0 ?_
  refine gfX13_352 h (by decide : kd 103 = 11) dX13_keeps_1 ?_
  refine g_nmI zf ?_
  clear zf; intro vq1 zf
  refine g_bipush h 40 (v := 40) (by decide) dX13_keeps_4 ?_
  refine g_ic_ne h 50 (by decide) zf dX13_keeps_6 ?_ ?_ <;> clear zf <;> intro zf
  · refine g_sub h [0] rfl ?_
    exact kX13_keeps_b50 h zf
  · refine g_bipush h 31 (v := 31) (by decide) dX13_keeps_9 ?_
    refine g_istore_n h rfl [(1, .int 31), (0, rv G.1 103)] (by decide) rfl dX13_keeps_11 ?_
    refine g_sub h [1, 0] rfl ?_
    exact kX13_keeps_l12 h _ _ _ _ zf

theorem cmX13_keeps {l : Launch} {w : WX} {M : Mem} {res : Mem} (zf : fX13_keeps M = some res) : CM l w yX13_keeps cX13_keeps 2 none { frames := 0, cells := 0, slots := 0, locals := 0 } 0 0 [rv w 103] M (Pwv res) := by
  refine CM_of (by decide) (Nat.le_of_ble_eq_true rfl) (fun G hw hl h => ?_)
  subst hw
  exact kX13_keeps_e0 h zf

-- X13_change
theorem kX13_change_b37 {G : GX} (h : OKm G cX13_change RX13 5 (some .int) { frames := 2, cells := 0, slots := 0, locals := 43 }) {M : Mem} {res : (Int32 × Mem)} (zf : fX13_change_b37 M = some res) : GG G (Qm G (Pwi res) 0 0) 0 0 37 [(0, rv G.1 103)] [] M := by
  unfold fX13_change_b37 at zf
  refine g_aload_n h 0 rfl dX13_change_37 ?_
  refine g_iconst h 1 (v := 1) (by decide) dX13_change_38 ?_
  have zf1 := b2_some zf
  clear zf; obtain ⟨vq6, Mq7, zq, zf⟩ := zf1
  refine g_callVwi (As := [.int 1]) (rest := []) h ceX13_refuses mlX13_423 imX13_refuses seX13_refuses (by rfl) (kd_lt (by rw [(by decide : kd 103 = 11)]; decide)) (ent_11 (by decide : kd 103 = 11)) rfl rfl ⟨by decide, by decide⟩ ⟨by decide, by decide⟩ rfl dX13_change_39 rfl (Nat.le_of_ble_eq_true rfl) (cmX13_refuses zq) ?_
  obtain rfl := Option.some.inj zf
  exact g_iret h rfl ⟨rfl, rfl⟩ (Nat.le_refl _) (Nat.le_refl _) dX13_change_42

theorem kX13_change_e0 {G : GX} (h : OKm G cX13_change RX13 5 (some .int) { frames := 2, cells := 0, slots := 0, locals := 43 }) {M : Mem} {x1 : Int32} {x2 : Int32} {x3 : Int32} {res : (Int32 × Mem)} (zf : fX13_change M x1 x2 x3 = some res) : GG G (Qm G (Pwi res) 0 0) 0 0 0 [(0, rv G.1 103), (1, .int x1), (2, .int x2), (3, .int x3)] [] M := by
  unfold fX13_change at zf
  refine g_aload_n h 0 rfl dX13_change_0 ?_
  refine g_iconst h 0 (v := 0) (by decide) dX13_change_1 ?_
  refine pfX13_141 h (by decide : kd 103 = 11) dX13_change_2 ?_
  refine g_nmM zf ?_
  clear zf; intro Mq1 zf
  refine g_aload_n h 0 rfl dX13_change_5 ?_
  refine g_iload_n h 1 rfl dX13_change_6 ?_
  have zf1 := b2_some zf
  clear zf; obtain ⟨vq2, Mq3, zq, zf⟩ := zf1
  refine g_callVwi (As := [.int x1]) (rest := []) h ceX13_isBrother mlX13_417 imX13_isBrother seX13_isBrother (by rfl) (kd_lt (by rw [(by decide : kd 103 = 11)]; decide)) (ent_11 (by decide : kd 103 = 11)) rfl rfl ⟨by decide, by decide⟩ ⟨by decide, by decide⟩ rfl dX13_change_7 rfl (Nat.le_of_ble_eq_true rfl) (cmX13_isBrother zq) ?_
  refine g_if_eq h 21 (by decide) zf dX13_change_10 ?_ ?_ <;> clear zf <;> intro zf
  · refine g_iconst h 0 (v := 0) (by decide) dX13_change_21 ?_
    obtain rfl := Option.some.inj zf
    exact g_iret h rfl ⟨rfl, rfl⟩ (Nat.le_refl _) (Nat.le_refl _) dX13_change_22
  · refine g_aload_n h 0 rfl dX13_change_13 ?_
    refine g_iload_n h 3 rfl dX13_change_14 ?_
    have zf1 := b2_some zf
    clear zf; obtain ⟨vq4, Mq5, zq, zf⟩ := zf1
    refine g_callVwi (As := [.int x3]) (rest := []) h ceX13_isDeed mlX13_411 imX13_isDeed seX13_isDeed (by rfl) (kd_lt (by rw [(by decide : kd 103 = 11)]; decide)) (ent_11 (by decide : kd 103 = 11)) rfl rfl ⟨by decide, by decide⟩ ⟨by decide, by decide⟩ rfl dX13_change_15 rfl (Nat.le_of_ble_eq_true rfl) (cmX13_isDeed zq) ?_
    refine g_if_ne h 23 (by decide) zf dX13_change_18 ?_ ?_ <;> clear zf <;> intro zf
    · refine g_iload_n h 2 rfl dX13_change_23 ?_
      refine g_if_lt h 37 (by decide) zf dX13_change_24 ?_ ?_ <;> clear zf <;> intro zf
      · refine g_sub h [0] rfl ?_
        exact kX13_change_b37 h zf
      · refine g_iload_n h 2 rfl dX13_change_27 ?_
        refine g_aload_n h 0 rfl dX13_change_28 ?_
        refine gfX13_29 h (by decide : kd 103 = 11) dX13_change_29 ?_
        refine g_iload_n h 1 rfl dX13_change_32 ?_
        refine g_iald h 2 (by decide : kd 108 = 20) (by decide) zf dX13_change_33 ?_
        clear zf; intro vq8 zf
        refine g_ic_lt h 43 (by decide) zf dX13_change_34 ?_ ?_ <;> clear zf <;> intro zf
        · refine g_aload_n h 0 rfl dX13_change_43 ?_
          have zf1 := bd_some zf
          clear zf; obtain ⟨Mq9, zq, zf⟩ := zf1
          refine g_callVwv (As := []) (rest := []) h ceX13_keeps mlX13_426 imX13_keeps seX13_keeps (by rfl) (kd_lt (by rw [(by decide : kd 103 = 11)]; decide)) (ent_11 (by decide : kd 103 = 11)) rfl rfl ⟨by decide, by decide⟩ ⟨by decide, by decide⟩ rfl dX13_change_44 rfl (Nat.le_of_ble_eq_true rfl) (cmX13_keeps zq) ?_
          refine g_aload_n h 0 rfl dX13_change_47 ?_
          refine gfX13_108 h (by decide : kd 103 = 11) dX13_change_48 ?_
          refine g_bipush h 13 (v := 13) (by decide) dX13_change_51 ?_
          refine g_bipush h 6 (v := 6) (by decide) dX13_change_53 ?_
          refine g_iload_n h 1 rfl dX13_change_55 ?_
          refine g_imul h dX13_change_56 ?_
          refine g_iadd h dX13_change_57 ?_
          refine g_iload_n h 2 rfl dX13_change_58 ?_
          refine g_iadd h dX13_change_59 ?_
          refine g_iald h 186 (by decide : kd 133 = 20) (by decide) zf dX13_change_60 ?_
          clear zf; intro vq10 zf
          refine g_istore h [(4, .int vq10), (0, rv G.1 103), (1, .int x1), (2, .int x2), (3, .int x3)] (by decide) rfl dX13_change_61 ?_
          refine g_aload_n h 1 rfl dX13_change_63 ?_
          refine gfX13_108 h (by decide : kd 103 = 11) dX13_change_64 ?_
          refine g_bipush h 13 (v := 13) (by decide) dX13_change_67 ?_
          refine g_bipush h 6 (v := 6) (by decide) dX13_change_69 ?_
          refine g_iload_n h 2 rfl dX13_change_71 ?_
          refine g_imul h dX13_change_72 ?_
          refine g_iadd h dX13_change_73 ?_
          refine g_iload_n h 3 rfl dX13_change_74 ?_
          refine g_iadd h dX13_change_75 ?_
          refine g_iload_n h 4 rfl dX13_change_76 ?_
          refine g_iast h 186 (by decide : kd 133 = 20) (by decide) zf dX13_change_77 ?_
          clear zf; intro Mq11 zf
          refine g_iload h 0 rfl dX13_change_78 ?_
          obtain rfl := Option.some.inj zf
          exact g_iret h rfl ⟨rfl, rfl⟩ (Nat.le_refl _) (Nat.le_refl _) dX13_change_80
        · refine g_sub h [0] rfl ?_
          exact kX13_change_b37 h zf
    · refine g_iconst h 0 (v := 0) (by decide) dX13_change_21 ?_
      obtain rfl := Option.some.inj zf
      exact g_iret h rfl ⟨rfl, rfl⟩ (Nat.le_refl _) (Nat.le_refl _) dX13_change_22

theorem cmX13_change {l : Launch} {w : WX} {M : Mem} {x1 : Int32} {x2 : Int32} {x3 : Int32} {res : (Int32 × Mem)} (zf : fX13_change M x1 x2 x3 = some res) : CM l w yX13_change cX13_change 5 (some .int) { frames := 2, cells := 0, slots := 0, locals := 43 } 0 0 [rv w 103, .int x1, .int x2, .int x3] M (Pwi res) := by
  refine CM_of (by decide) (Nat.le_of_ble_eq_true rfl) (fun G hw hl h => ?_)
  subst hw
  exact kX13_change_e0 h zf

-- X13_draw
theorem kX13_draw_e0 {G : GX} (h : OKm G cX13_draw RX13 2 (some .int) { frames := 0, cells := 0, slots := 0, locals := 0 }) {M : Mem} {x1 : Int32} {res : (Int32 × Mem)} (zf : fX13_draw M x1 = some res) : GG G (Qm G (Pwi res) 0 0) 0 0 0 [(0, rv G.1 103), (1, .int x1)] [] M := by
  unfold fX13_draw at zf
  refine g_aload_n h 0 rfl dX13_draw_0 ?_
  refine g_aload_n h 0 rfl dX13_draw_1 ?_
  refine gfX13_480 h (by decide : kd 103 = 11) dX13_draw_2 ?_
  refine g_nmI zf ?_
  clear zf; intro vq1 zf
  refine g_ldcw h 483 (v := 1103515245) coX13_483 dX13_draw_5 ?_
  refine g_imul h dX13_draw_8 ?_
  refine g_sipush h 12345 (v := 12345) (by decide) dX13_draw_9 ?_
  refine g_iadd h dX13_draw_12 ?_
  refine pfX13_480 h (by decide : kd 103 = 11) dX13_draw_13 ?_
  refine g_nmM zf ?_
  clear zf; intro Mq2 zf
  refine g_aload_n h 0 rfl dX13_draw_16 ?_
  refine gfX13_480 h (by decide : kd 103 = 11) dX13_draw_17 ?_
  refine g_nmI zf ?_
  clear zf; intro vq3 zf
  refine g_bipush h 16 (v := 16) (by decide) dX13_draw_20 ?_
  refine g_ishr h dX13_draw_22 ?_
  refine g_sipush h 32767 (v := 32767) (by decide) dX13_draw_23 ?_
  refine g_iand h dX13_draw_26 ?_
  refine g_iload_n h 1 rfl dX13_draw_27 ?_
  have zf1 := pre_if zf
  clear zf; obtain ⟨zne, zf⟩ := zf1
  refine g_irem h zne dX13_draw_28 ?_
  obtain rfl := Option.some.inj zf
  exact g_iret h rfl ⟨rfl, rfl⟩ (Nat.le_refl _) (Nat.le_refl _) dX13_draw_29

theorem cmX13_draw {l : Launch} {w : WX} {M : Mem} {x1 : Int32} {res : (Int32 × Mem)} (zf : fX13_draw M x1 = some res) : CM l w yX13_draw cX13_draw 2 (some .int) { frames := 0, cells := 0, slots := 0, locals := 0 } 0 0 [rv w 103, .int x1] M (Pwi res) := by
  refine CM_of (by decide) (Nat.le_of_ble_eq_true rfl) (fun G hw hl h => ?_)
  subst hw
  exact kX13_draw_e0 h zf

-- X13_cities
theorem kX13_cities_b93 {G : GX} (h : OKm G cX13_cities RX13 6 (some .int) { frames := 7, cells := 0, slots := 0, locals := 166 }) {a46 : Mem → Int32 → Int32 → Int32 → Option (Int32 × Mem)} (zh46 : ∀ (M : Mem) (x2 : Int32) (x3 : Int32) (x4 : Int32) (res : (Int32 × Mem)), a46 M x2 x3 x4 = some res → GG G (Qm G (Pwi res) 0 0) 0 0 46 [(0, rv G.1 103), (2, .int x2), (3, .int x3), (4, .int x4)] [] M) {M : Mem} {x2 : Int32} {x3 : Int32} {x4 : Int32} {x5 : Int32} {res : (Int32 × Mem)} (zf : fX13_cities_b93 a46 M x2 x3 x4 x5 = some res) : GG G (Qm G (Pwi res) 0 0) 0 0 93 [(0, rv G.1 103), (2, .int x2), (3, .int x3), (4, .int x4), (5, .int x5)] [] M := by
  unfold fX13_cities_b93 at zf
  refine g_aload_n h 0 rfl dX13_cities_93 ?_
  refine g_bipush h 31 (v := 31) (by decide) dX13_cities_94 ?_
  refine g_iload h 4 rfl dX13_cities_96 ?_
  have zf1 := bd_some zf
  clear zf; obtain ⟨Mq17, zq, zf⟩ := zf1
  refine g_callVwv (As := [.int 31, .int x5]) (rest := []) h ceX13_gathers mlX13_390 imX13_gathers seX13_gathers (by rfl) (kd_lt (by rw [(by decide : kd 103 = 11)]; decide)) (ent_11 (by decide : kd 103 = 11)) rfl rfl ⟨by decide, by decide⟩ ⟨by decide, by decide⟩ rfl dX13_cities_98 rfl (Nat.le_of_ble_eq_true rfl) (cmX13_gathers zq) ?_
  refine g_aload_n h 0 rfl dX13_cities_101 ?_
  refine g_bipush h 31 (v := 31) (by decide) dX13_cities_102 ?_
  refine g_aload_n h 0 rfl dX13_cities_104 ?_
  refine g_bipush h 31 (v := 31) (by decide) dX13_cities_105 ?_
  refine g_aload_n h 0 rfl dX13_cities_107 ?_
  refine gfX13_108 h (by decide : kd 103 = 11) dX13_cities_108 ?_
  refine g_bipush h 35 (v := 35) (by decide) dX13_cities_111 ?_
  refine g_iald h 186 (by decide : kd 133 = 20) (by decide) zf dX13_cities_113 ?_
  clear zf; intro vq18 zf
  have zf1 := bd_some zf
  clear zf; obtain ⟨vq19, zq, zf⟩ := zf1
  refine g_callVri (As := [.int 31, .int vq18]) (rest := [.int 31, rv G.1 103]) h ceX13_wayOf mlX13_393 imX13_wayOf seX13_wayOf (by rfl) (kd_lt (by rw [(by decide : kd 103 = 11)]; decide)) (ent_11 (by decide : kd 103 = 11)) rfl rfl ⟨by decide, by decide⟩ ⟨by decide, by decide⟩ rfl dX13_cities_114 rfl (Nat.le_of_ble_eq_true rfl) (cmX13_wayOf zq) ?_
  have zf1 := b2_some zf
  clear zf; obtain ⟨vq20, Mq21, zq, zf⟩ := zf1
  refine g_callVwi (As := [.int 31, .int vq19]) (rest := []) h ceX13_does mlX13_396 imX13_does seX13_does (by rfl) (kd_lt (by rw [(by decide : kd 103 = 11)]; decide)) (ent_11 (by decide : kd 103 = 11)) rfl rfl ⟨by decide, by decide⟩ ⟨by decide, by decide⟩ rfl dX13_cities_117 rfl (Nat.le_of_ble_eq_true rfl) (cmX13_does zq) ?_
  refine g_pop h rfl dX13_cities_120 ?_
  refine g_aload_n h 0 rfl dX13_cities_121 ?_
  refine g_bipush h 31 (v := 31) (by decide) dX13_cities_122 ?_
  refine g_iconst h 1 (v := 1) (by decide) dX13_cities_124 ?_
  have zf1 := bd_some zf
  clear zf; obtain ⟨Mq22, zq, zf⟩ := zf1
  refine g_callVwv (As := [.int 31, .int 1]) (rest := []) h ceX13_ends mlX13_400 imX13_ends seX13_ends (by rfl) (kd_lt (by rw [(by decide : kd 103 = 11)]; decide)) (ent_11 (by decide : kd 103 = 11)) rfl rfl ⟨by decide, by decide⟩ ⟨by decide, by decide⟩ rfl dX13_cities_125 rfl (Nat.le_of_ble_eq_true rfl) (cmX13_ends zq) ?_
  refine g_iinc h 4 3 rfl (v := x4 + 1) (congrArg (fun z => x4 + z) (by decide : Int32.ofInt (1) = (1 : Int32))) [(4, .int (x4 + 1)), (0, rv G.1 103), (2, .int x2), (3, .int x3), (5, .int x5)] (by decide) rfl dX13_cities_128 ?_
  refine g_nmV zf ?_
  clear zf; intro vq23 zf
  refine g_goto h 46 (by decide) dX13_cities_131 ?_
  refine g_sub h [1, 2, 3, 0] rfl ?_
  exact zh46 _ _ _ _ _ zf

theorem kX13_cities_l46 {G : GX} (h : OKm G cX13_cities RX13 6 (some .int) { frames := 7, cells := 0, slots := 0, locals := 166 }) : ∀ (n : Nat) (M : Mem) (x2 : Int32) (x3 : Int32) (x4 : Int32) (res : (Int32 × Mem)), fX13_cities_l46 n M x2 x3 x4 = some res → GG G (Qm G (Pwi res) 0 0) 0 0 46 [(0, rv G.1 103), (2, .int x2), (3, .int x3), (4, .int x4)] [] M := by
  intro n
  induction n with
  | zero => intro M x2 x3 x4 res zf; rw [fX13_cities_l46] at zf; cases zf
  | succ n ih =>
    intro M x2 x3 x4 res zf
    rw [fX13_cities_l46] at zf
    refine g_iload h 3 rfl dX13_cities_46 ?_
    refine g_iload_n h 1 rfl dX13_cities_48 ?_
    refine g_ic_ge h 134 (by decide) zf dX13_cities_49 ?_ ?_ <;> clear zf <;> intro zf
    · refine g_iload_n h 2 rfl dX13_cities_134 ?_
      refine g_if_ne h 148 (by decide) zf dX13_cities_135 ?_ ?_ <;> clear zf <;> intro zf
      · refine g_iload_n h 2 rfl dX13_cities_148 ?_
        refine g_iconst h 1 (v := 1) (by decide) dX13_cities_149 ?_
        refine g_ic_ne h 163 (by decide) zf dX13_cities_150 ?_ ?_ <;> clear zf <;> intro zf
        · refine g_aload_n h 0 rfl dX13_cities_163 ?_
          refine gfX13_108 h (by decide : kd 103 = 11) dX13_cities_164 ?_
          refine g_bipush h 37 (v := 37) (by decide) dX13_cities_167 ?_
          refine g_iald h 186 (by decide : kd 133 = 20) (by decide) zf dX13_cities_169 ?_
          clear zf; intro vq9 zf
          refine g_aload_n h 0 rfl dX13_cities_170 ?_
          refine gfX13_108 h (by decide : kd 103 = 11) dX13_cities_171 ?_
          refine g_bipush h 38 (v := 38) (by decide) dX13_cities_174 ?_
          refine g_iald h 186 (by decide : kd 133 = 20) (by decide) zf dX13_cities_176 ?_
          clear zf; intro vq10 zf
          refine g_isub h dX13_cities_177 ?_
          obtain rfl := Option.some.inj zf
          exact g_iret h rfl ⟨rfl, rfl⟩ (Nat.le_refl _) (Nat.le_refl _) dX13_cities_178
        · refine g_aload_n h 0 rfl dX13_cities_153 ?_
          refine gfX13_108 h (by decide : kd 103 = 11) dX13_cities_154 ?_
          refine g_bipush h 33 (v := 33) (by decide) dX13_cities_157 ?_
          refine g_iald h 186 (by decide : kd 133 = 20) (by decide) zf dX13_cities_159 ?_
          clear zf; intro vq11 zf
          refine g_goto h 178 (by decide) dX13_cities_160 ?_
          obtain rfl := Option.some.inj zf
          exact g_iret h rfl ⟨rfl, rfl⟩ (Nat.le_refl _) (Nat.le_refl _) dX13_cities_178
      · refine g_aload_n h 0 rfl dX13_cities_138 ?_
        refine gfX13_108 h (by decide : kd 103 = 11) dX13_cities_139 ?_
        refine g_bipush h 31 (v := 31) (by decide) dX13_cities_142 ?_
        refine g_iald h 186 (by decide : kd 133 = 20) (by decide) zf dX13_cities_144 ?_
        clear zf; intro vq12 zf
        refine g_goto h 178 (by decide) dX13_cities_145 ?_
        obtain rfl := Option.some.inj zf
        exact g_iret h rfl ⟨rfl, rfl⟩ (Nat.le_refl _) (Nat.le_refl _) dX13_cities_178
    · refine g_aload_n h 0 rfl dX13_cities_52 ?_
      refine g_bipush h 60 (v := 60) (by decide) dX13_cities_53 ?_
      have zf1 := b2_some zf
      clear zf; obtain ⟨vq13, Mq14, zq, zf⟩ := zf1
      refine g_callVwi (As := [.int 60]) (rest := []) h ceX13_draw mlX13_484 imX13_draw seX13_draw (by rfl) (kd_lt (by rw [(by decide : kd 103 = 11)]; decide)) (ent_11 (by decide : kd 103 = 11)) rfl rfl ⟨by decide, by decide⟩ ⟨by decide, by decide⟩ rfl dX13_cities_55 rfl (Nat.le_of_ble_eq_true rfl) (cmX13_draw zq) ?_
      refine g_istore h [(5, .int vq13), (0, rv G.1 103), (2, .int x2), (3, .int x3), (4, .int x4)] (by decide) rfl dX13_cities_58 ?_
      refine g_aload_n h 1 rfl dX13_cities_60 ?_
      refine g_bipush h 9 (v := 9) (by decide) dX13_cities_61 ?_
      have zf1 := b2_some zf
      clear zf; obtain ⟨vq15, Mq16, zq, zf⟩ := zf1
      refine g_callVwi (As := [.int 9]) (rest := []) h ceX13_draw mlX13_484 imX13_draw seX13_draw (by rfl) (kd_lt (by rw [(by decide : kd 103 = 11)]; decide)) (ent_11 (by decide : kd 103 = 11)) rfl rfl ⟨by decide, by decide⟩ ⟨by decide, by decide⟩ rfl dX13_cities_63 rfl (Nat.le_of_ble_eq_true rfl) (cmX13_draw zq) ?_
      refine g_if_ne h 93 (by decide) zf dX13_cities_66 ?_ ?_ <;> clear zf <;> intro zf
      · refine g_sub h [1, 2, 3, 4, 0] rfl ?_
        exact kX13_cities_b93 h ih zf
      · refine g_aload_n h 1 rfl dX13_cities_69 ?_
        refine gfX13_108 h (by decide : kd 103 = 11) dX13_cities_70 ?_
        refine g_bipush h 35 (v := 35) (by decide) dX13_cities_73 ?_
        refine g_iconst h 1 (v := 1) (by decide) dX13_cities_75 ?_
        refine g_aload_n h 1 rfl dX13_cities_76 ?_
        refine gfX13_108 h (by decide : kd 103 = 11) dX13_cities_77 ?_
        refine g_bipush h 35 (v := 35) (by decide) dX13_cities_80 ?_
        refine g_iald h 186 (by decide : kd 133 = 20) (by decide) zf dX13_cities_82 ?_
        clear zf; intro vq24 zf
        refine g_isub h dX13_cities_83 ?_
        refine g_iast h 186 (by decide : kd 133 = 20) (by decide) zf dX13_cities_84 ?_
        clear zf; intro Mq25 zf
        refine g_aload_n h 1 rfl dX13_cities_85 ?_
        refine gfX13_108 h (by decide : kd 103 = 11) dX13_cities_86 ?_
        refine g_bipush h 36 (v := 36) (by decide) dX13_cities_89 ?_
        refine g_iconst h 0 (v := 0) (by decide) dX13_cities_91 ?_
        refine g_iast h 186 (by decide : kd 133 = 20) (by decide) zf dX13_cities_92 ?_
        clear zf; intro Mq26 zf
        refine g_sub h [1, 2, 3, 4, 0] rfl ?_
        exact kX13_cities_b93 h ih zf

theorem kX13_cities_e0 {G : GX} (h : OKm G cX13_cities RX13 6 (some .int) { frames := 7, cells := 0, slots := 0, locals := 166 }) {M : Mem} {x1 : Int32} {x2 : Int32} {x3 : Int32} {res : (Int32 × Mem)} (zf : fX13_cities M x1 x2 x3 = some res) : GG G (Qm G (Pwi res) 0 0) 0 0 0 [(0, rv G.1 103), (1, .int x1), (2, .int x2), (3, .int x3)] [] M := by
  unfold fX13_cities at zf
  refine g_aload_n h 0 rfl dX13_cities_0 ?_
  refine g_iconst h 0 (v := 0) (by decide) dX13_cities_1 ?_
  refine pfX13_141 h (by decide : kd 103 = 11) dX13_cities_2 ?_
  refine g_nmM zf ?_
  clear zf; intro Mq1 zf
  refine g_aload_n h 0 rfl dX13_cities_5 ?_
  refine g_iload_n h 3 rfl dX13_cities_6 ?_
  refine g_iconst h 2 (v := 2) (by decide) dX13_cities_7 ?_
  have zf1 := b2_some zf
  clear zf; obtain ⟨vq2, Mq3, zq, zf⟩ := zf1
  refine g_callVwi (As := [.int x3, .int 2]) (rest := []) h ceX13_isWhat mlX13_414 imX13_isWhat seX13_isWhat (by rfl) (kd_lt (by rw [(by decide : kd 103 = 11)]; decide)) (ent_11 (by decide : kd 103 = 11)) rfl rfl ⟨by decide, by decide⟩ ⟨by decide, by decide⟩ rfl dX13_cities_8 rfl (Nat.le_of_ble_eq_true rfl) (cmX13_isWhat zq) ?_
  refine g_if_eq h 29 (by decide) zf dX13_cities_11 ?_ ?_ <;> clear zf <;> intro zf
  · refine g_iconst h 0 (v := 0) (by decide) dX13_cities_29 ?_
    obtain rfl := Option.some.inj zf
    exact g_iret h rfl ⟨rfl, rfl⟩ (Nat.le_refl _) (Nat.le_refl _) dX13_cities_30
  · refine g_aload_n h 0 rfl dX13_cities_14 ?_
    refine g_iload_n h 2 rfl dX13_cities_15 ?_
    refine g_iconst h 0 (v := 0) (by decide) dX13_cities_16 ?_
    refine g_bipush h 60 (v := 60) (by decide) dX13_cities_17 ?_
    have zf1 := bd_some zf
    clear zf; obtain ⟨vq4, zq, zf⟩ := zf1
    refine g_callSri (As := [.int x2, .int 0, .int 60]) (rest := [rv G.1 103]) h ceX13_within mlX13_407 smX13_within rfl rfl ⟨by decide, by decide⟩ ⟨by decide, by decide⟩ rfl dX13_cities_19 rfl (Nat.le_of_ble_eq_true rfl) (cmX13_within zq) ?_
    refine g_iconst h 2 (v := 2) (by decide) dX13_cities_22 ?_
    have zf1 := b2_some zf
    clear zf; obtain ⟨vq5, Mq6, zq, zf⟩ := zf1
    refine g_callVwi (As := [.int vq4, .int 2]) (rest := []) h ceX13_right mlX13_326 imX13_right seX13_right (by rfl) (kd_lt (by rw [(by decide : kd 103 = 11)]; decide)) (ent_11 (by decide : kd 103 = 11)) rfl rfl ⟨by decide, by decide⟩ ⟨by decide, by decide⟩ rfl dX13_cities_23 rfl (Nat.le_of_ble_eq_true rfl) (cmX13_right zq) ?_
    refine g_if_ne h 31 (by decide) zf dX13_cities_26 ?_ ?_ <;> clear zf <;> intro zf
    · refine g_aload_n h 0 rfl dX13_cities_31 ?_
      refine g_iconst h 0 (v := 0) (by decide) dX13_cities_32 ?_
      refine g_bipush h 31 (v := 31) (by decide) dX13_cities_33 ?_
      have zf1 := bd_some zf
      clear zf; obtain ⟨Mq7, zq, zf⟩ := zf1
      refine g_callVwv (As := [.int 0, .int 31]) (rest := []) h ceX13_lays0 mlX13_432 imX13_lays0 seX13_lays0 (by rfl) (kd_lt (by rw [(by decide : kd 103 = 11)]; decide)) (ent_11 (by decide : kd 103 = 11)) rfl rfl ⟨by decide, by decide⟩ ⟨by decide, by decide⟩ rfl dX13_cities_35 rfl (Nat.le_of_ble_eq_true rfl) (cmX13_lays0 zq) ?_
      refine g_aload_n h 0 rfl dX13_cities_38 ?_
      refine g_iload_n h 1 rfl dX13_cities_39 ?_
      refine pfX13_480 h (by decide : kd 103 = 11) dX13_cities_40 ?_
      refine g_nmM zf ?_
      clear zf; intro Mq8 zf
      refine g_iconst h 0 (v := 0) (by decide) dX13_cities_43 ?_
      refine g_istore h [(4, .int 0), (0, rv G.1 103), (1, .int x1), (2, .int x2), (3, .int x3)] (by decide) rfl dX13_cities_44 ?_
      refine g_sub h [1, 3, 4, 0] rfl ?_
      exact kX13_cities_l46 h _ _ _ _ _ _ zf
    · refine g_iconst h 0 (v := 0) (by decide) dX13_cities_29 ?_
      obtain rfl := Option.some.inj zf
      exact g_iret h rfl ⟨rfl, rfl⟩ (Nat.le_refl _) (Nat.le_refl _) dX13_cities_30

theorem cmX13_cities {l : Launch} {w : WX} {M : Mem} {x1 : Int32} {x2 : Int32} {x3 : Int32} {res : (Int32 × Mem)} (zf : fX13_cities M x1 x2 x3 = some res) : CM l w yX13_cities cX13_cities 6 (some .int) { frames := 7, cells := 0, slots := 0, locals := 166 } 0 0 [rv w 103, .int x1, .int x2, .int x3] M (Pwi res) := by
  refine CM_of (by decide) (Nat.le_of_ble_eq_true rfl) (fun G hw hl h => ?_)
  subst hw
  exact kX13_cities_e0 h zf

-- X13_isOpen
theorem kX13_isOpen_e0 {G : GX} {M : Mem} (h : OKm G cX13_isOpen RX13 1 (some .boolean) { frames := 0, cells := 0, slots := 0, locals := 0 }) {x0 : Int32} {res : Int32} (zf : fX13_isOpen x0 = some res) : GG G (Qm G (Pri res M) 0 0) 0 0 0 [(0, .int x0)] [] M := by
  unfold fX13_isOpen at zf
  refine g_iload_n h 0 rfl dX13_isOpen_0 ?_
  refine g_bipush h 14 (v := 14) (by decide) dX13_isOpen_1 ?_
  refine g_ic_lt h 10 (by decide) zf dX13_isOpen_3 ?_ ?_ <;> clear zf <;> intro zf
  · refine g_iconst h 0 (v := 0) (by decide) dX13_isOpen_10 ?_
    obtain rfl := Option.some.inj zf
    exact g_zret h (by decide) rfl ⟨rfl, rfl⟩ (Nat.le_refl _) (Nat.le_refl _) dX13_isOpen_11
  · refine g_iconst h 1 (v := 1) (by decide) dX13_isOpen_6 ?_
    refine g_goto h 11 (by decide) dX13_isOpen_7 ?_
    obtain rfl := Option.some.inj zf
    exact g_zret h (by decide) rfl ⟨rfl, rfl⟩ (Nat.le_refl _) (Nat.le_refl _) dX13_isOpen_11

theorem cmX13_isOpen {l : Launch} {w : WX} {M : Mem} {x0 : Int32} {res : Int32} (zf : fX13_isOpen x0 = some res) : CM l w yX13_isOpen cX13_isOpen 1 (some .boolean) { frames := 0, cells := 0, slots := 0, locals := 0 } 0 0 [.int x0] M (Pri res M) := by
  refine CM_of (by decide) (Nat.le_of_ble_eq_true rfl) (fun G hw hl h => ?_)
  subst hw
  exact kX13_isOpen_e0 h zf

-- X13_strength
theorem kX13_strength_e0 {G : GX} {M : Mem} (h : OKm G cX13_strength RX13 1 (some .int) { frames := 0, cells := 0, slots := 0, locals := 0 }) {x0 : Int32} {res : Int32} (zf : fX13_strength x0 = some res) : GG G (Qm G (Pri res M) 0 0) 0 0 0 [(0, .int x0)] [] M := by
  unfold fX13_strength at zf
  refine g_iload_n h 0 rfl dX13_strength_0 ?_
  refine g_iconst h 5 (v := 5) (by decide) dX13_strength_1 ?_
  refine g_ic_ne h 9 (by decide) zf dX13_strength_2 ?_ ?_ <;> clear zf <;> intro zf
  · refine g_iload_n h 0 rfl dX13_strength_9 ?_
    refine g_iconst h 4 (v := 4) (by decide) dX13_strength_10 ?_
    refine g_ic_ne h 18 (by decide) zf dX13_strength_11 ?_ ?_ <;> clear zf <;> intro zf
    · refine g_iload_n h 0 rfl dX13_strength_18 ?_
      refine g_iconst h 3 (v := 3) (by decide) dX13_strength_19 ?_
      refine g_ic_ne h 27 (by decide) zf dX13_strength_20 ?_ ?_ <;> clear zf <;> intro zf
      · refine g_iload_n h 0 rfl dX13_strength_27 ?_
        refine g_bipush h 6 (v := 6) (by decide) dX13_strength_28 ?_
        refine g_ic_eq h 39 (by decide) zf dX13_strength_30 ?_ ?_ <;> clear zf <;> intro zf
        · refine g_iconst h 4 (v := 4) (by decide) dX13_strength_39 ?_
          refine g_goto h 61 (by decide) dX13_strength_40 ?_
          obtain rfl := Option.some.inj zf
          exact g_iret h rfl ⟨rfl, rfl⟩ (Nat.le_refl _) (Nat.le_refl _) dX13_strength_61
        · refine g_iload_n h 0 rfl dX13_strength_33 ?_
          refine g_bipush h 7 (v := 7) (by decide) dX13_strength_34 ?_
          refine g_ic_ne h 43 (by decide) zf dX13_strength_36 ?_ ?_ <;> clear zf <;> intro zf
          · refine g_iload_n h 0 rfl dX13_strength_43 ?_
            refine g_bipush h 8 (v := 8) (by decide) dX13_strength_44 ?_
            refine g_ic_eq h 55 (by decide) zf dX13_strength_46 ?_ ?_ <;> clear zf <;> intro zf
            · refine g_iconst h 5 (v := 5) (by decide) dX13_strength_55 ?_
              refine g_goto h 61 (by decide) dX13_strength_56 ?_
              obtain rfl := Option.some.inj zf
              exact g_iret h rfl ⟨rfl, rfl⟩ (Nat.le_refl _) (Nat.le_refl _) dX13_strength_61
            · refine g_iload_n h 0 rfl dX13_strength_49 ?_
              refine g_bipush h 9 (v := 9) (by decide) dX13_strength_50 ?_
              refine g_ic_ne h 59 (by decide) zf dX13_strength_52 ?_ ?_ <;> clear zf <;> intro zf
              · refine g_bipush h 6 (v := 6) (by decide) dX13_strength_59 ?_
                obtain rfl := Option.some.inj zf
                exact g_iret h rfl ⟨rfl, rfl⟩ (Nat.le_refl _) (Nat.le_refl _) dX13_strength_61
              · refine g_iconst h 5 (v := 5) (by decide) dX13_strength_55 ?_
                refine g_goto h 61 (by decide) dX13_strength_56 ?_
                obtain rfl := Option.some.inj zf
                exact g_iret h rfl ⟨rfl, rfl⟩ (Nat.le_refl _) (Nat.le_refl _) dX13_strength_61
          · refine g_iconst h 4 (v := 4) (by decide) dX13_strength_39 ?_
            refine g_goto h 61 (by decide) dX13_strength_40 ?_
            obtain rfl := Option.some.inj zf
            exact g_iret h rfl ⟨rfl, rfl⟩ (Nat.le_refl _) (Nat.le_refl _) dX13_strength_61
      · refine g_iconst h 3 (v := 3) (by decide) dX13_strength_23 ?_
        refine g_goto h 61 (by decide) dX13_strength_24 ?_
        obtain rfl := Option.some.inj zf
        exact g_iret h rfl ⟨rfl, rfl⟩ (Nat.le_refl _) (Nat.le_refl _) dX13_strength_61
    · refine g_iconst h 2 (v := 2) (by decide) dX13_strength_14 ?_
      refine g_goto h 61 (by decide) dX13_strength_15 ?_
      obtain rfl := Option.some.inj zf
      exact g_iret h rfl ⟨rfl, rfl⟩ (Nat.le_refl _) (Nat.le_refl _) dX13_strength_61
  · refine g_iconst h 1 (v := 1) (by decide) dX13_strength_5 ?_
    refine g_goto h 61 (by decide) dX13_strength_6 ?_
    obtain rfl := Option.some.inj zf
    exact g_iret h rfl ⟨rfl, rfl⟩ (Nat.le_refl _) (Nat.le_refl _) dX13_strength_61

theorem cmX13_strength {l : Launch} {w : WX} {M : Mem} {x0 : Int32} {res : Int32} (zf : fX13_strength x0 = some res) : CM l w yX13_strength cX13_strength 1 (some .int) { frames := 0, cells := 0, slots := 0, locals := 0 } 0 0 [.int x0] M (Pri res M) := by
  refine CM_of (by decide) (Nat.le_of_ble_eq_true rfl) (fun G hw hl h => ?_)
  subst hw
  exact kX13_strength_e0 h zf

-- X13_puts
theorem kX13_puts_e0 {G : GX} (h : OKm G cX13_puts RX13 2 none { frames := 0, cells := 0, slots := 0, locals := 0 }) {M : Mem} {x1 : Int32} {res : Mem} (zf : fX13_puts M x1 = some res) : GG G (Qm G (Pwv res) 0 0) 0 0 0 [(0, rv G.1 103), (1, .int x1)] [] M := by
  unfold fX13_puts at zf
  refine g_aload_n h 0 rfl dX13_puts_0 ?_
  refine gfX13_98 h (by decide : kd 103 = 11) dX13_puts_1 ?_
  refine g_aload_n h 0 rfl dX13_puts_4 ?_
  refine gfX13_217 h (by decide : kd 103 = 11) dX13_puts_5 ?_
  refine g_nmI zf ?_
  clear zf; intro vq1 zf
  refine g_iload_n h 1 rfl dX13_puts_8 ?_
  refine g_iast h 1400 (by decide : kd 130 = 20) (by decide) zf dX13_puts_9 ?_
  clear zf; intro Mq2 zf
  refine g_aload_n h 0 rfl dX13_puts_10 ?_
  refine g_dup h rfl dX13_puts_11 ?_
  refine gfX13_217 h (by decide : kd 103 = 11) dX13_puts_12 ?_
  refine g_nmI zf ?_
  clear zf; intro vq3 zf
  refine g_iconst h 1 (v := 1) (by decide) dX13_puts_15 ?_
  refine g_iadd h dX13_puts_16 ?_
  refine pfX13_217 h (by decide : kd 103 = 11) dX13_puts_17 ?_
  refine g_nmM zf ?_
  clear zf; intro Mq4 zf
  obtain rfl := Option.some.inj zf
  exact g_vret h rfl ⟨rfl, rfl⟩ (Nat.le_refl _) (Nat.le_refl _) dX13_puts_20

theorem cmX13_puts {l : Launch} {w : WX} {M : Mem} {x1 : Int32} {res : Mem} (zf : fX13_puts M x1 = some res) : CM l w yX13_puts cX13_puts 2 none { frames := 0, cells := 0, slots := 0, locals := 0 } 0 0 [rv w 103, .int x1] M (Pwv res) := by
  refine CM_of (by decide) (Nat.le_of_ble_eq_true rfl) (fun G hw hl h => ?_)
  subst hw
  exact kX13_puts_e0 h zf

-- X13_drops
theorem kX13_drops_l0 {G : GX} (h : OKm G cX13_drops RX13 2 none { frames := 1, cells := 0, slots := 0, locals := 21 }) : ∀ (n : Nat) (M : Mem) (x1 : Int32) (res : Mem), fX13_drops_l0 n M x1 = some res → GG G (Qm G (Pwv res) 0 0) 0 0 0 [(0, rv G.1 103), (1, .int x1)] [] M := by
  intro n
  induction n with
  | zero => intro M x1 res zf; rw [fX13_drops_l0] at zf; cases zf
  | succ n ih =>
    intro M x1 res zf
    rw [fX13_drops_l0] at zf
    refine g_aload_n h 0 rfl dX13_drops_0 ?_
    refine gfX13_220 h (by decide : kd 103 = 11) dX13_drops_1 ?_
    refine g_nmI zf ?_
    clear zf; intro vq1 zf
    refine g_if_le h 68 (by decide) zf dX13_drops_4 ?_ ?_ <;> clear zf <;> intro zf
    · obtain rfl := Option.some.inj zf
      exact g_vret h rfl ⟨rfl, rfl⟩ (Nat.le_refl _) (Nat.le_refl _) dX13_drops_68
    · refine g_aload_n h 0 rfl dX13_drops_7 ?_
      refine gfX13_101 h (by decide : kd 103 = 11) dX13_drops_8 ?_
      refine g_aload_n h 0 rfl dX13_drops_11 ?_
      refine gfX13_220 h (by decide : kd 103 = 11) dX13_drops_12 ?_
      refine g_nmI zf ?_
      clear zf; intro vq2 zf
      refine g_iconst h 1 (v := 1) (by decide) dX13_drops_15 ?_
      refine g_isub h dX13_drops_16 ?_
      refine g_iald h 950 (by decide : kd 131 = 20) (by decide) zf dX13_drops_17 ?_
      clear zf; intro vq3 zf
      have zf1 := bd_some zf
      clear zf; obtain ⟨vq4, zq, zf⟩ := zf1
      refine g_callSri (As := [.int vq3]) (rest := []) h ceX13_isOpen mlX13_223 smX13_isOpen rfl rfl ⟨by decide, by decide⟩ ⟨by decide, by decide⟩ rfl dX13_drops_18 rfl (Nat.le_of_ble_eq_true rfl) (cmX13_isOpen zq) ?_
      refine g_if_ne h 68 (by decide) zf dX13_drops_21 ?_ ?_ <;> clear zf <;> intro zf
      · obtain rfl := Option.some.inj zf
        exact g_vret h rfl ⟨rfl, rfl⟩ (Nat.le_refl _) (Nat.le_refl _) dX13_drops_68
      · refine g_aload_n h 0 rfl dX13_drops_24 ?_
        refine gfX13_101 h (by decide : kd 103 = 11) dX13_drops_25 ?_
        refine g_aload_n h 0 rfl dX13_drops_28 ?_
        refine gfX13_220 h (by decide : kd 103 = 11) dX13_drops_29 ?_
        refine g_nmI zf ?_
        clear zf; intro vq5 zf
        refine g_iconst h 1 (v := 1) (by decide) dX13_drops_32 ?_
        refine g_isub h dX13_drops_33 ?_
        refine g_iald h 950 (by decide : kd 131 = 20) (by decide) zf dX13_drops_34 ?_
        clear zf; intro vq6 zf
        have zf1 := bd_some zf
        clear zf; obtain ⟨vq7, zq, zf⟩ := zf1
        refine g_callSri (As := [.int vq6]) (rest := []) h ceX13_strength mlX13_226 smX13_strength rfl rfl ⟨by decide, by decide⟩ ⟨by decide, by decide⟩ rfl dX13_drops_35 rfl (Nat.le_of_ble_eq_true rfl) (cmX13_strength zq) ?_
        refine g_iload_n h 1 rfl dX13_drops_38 ?_
        refine g_ic_lt h 68 (by decide) zf dX13_drops_39 ?_ ?_ <;> clear zf <;> intro zf
        · obtain rfl := Option.some.inj zf
          exact g_vret h rfl ⟨rfl, rfl⟩ (Nat.le_refl _) (Nat.le_refl _) dX13_drops_68
        · refine g_aload_n h 0 rfl dX13_drops_42 ?_
          refine g_dup h rfl dX13_drops_43 ?_
          refine gfX13_220 h (by decide : kd 103 = 11) dX13_drops_44 ?_
          refine g_nmI zf ?_
          clear zf; intro vq8 zf
          refine g_iconst h 1 (v := 1) (by decide) dX13_drops_47 ?_
          refine g_isub h dX13_drops_48 ?_
          refine pfX13_220 h (by decide : kd 103 = 11) dX13_drops_49 ?_
          refine g_nmM zf ?_
          clear zf; intro Mq9 zf
          refine g_aload_n h 0 rfl dX13_drops_52 ?_
          refine g_aload_n h 0 rfl dX13_drops_53 ?_
          refine gfX13_101 h (by decide : kd 103 = 11) dX13_drops_54 ?_
          refine g_aload_n h 0 rfl dX13_drops_57 ?_
          refine gfX13_220 h (by decide : kd 103 = 11) dX13_drops_58 ?_
          refine g_nmI zf ?_
          clear zf; intro vq10 zf
          refine g_iald h 950 (by decide : kd 131 = 20) (by decide) zf dX13_drops_61 ?_
          clear zf; intro vq11 zf
          have zf1 := bd_some zf
          clear zf; obtain ⟨Mq12, zq, zf⟩ := zf1
          refine g_callVwv (As := [.int vq11]) (rest := []) h ceX13_puts mlX13_229 imX13_puts seX13_puts (by rfl) (kd_lt (by rw [(by decide : kd 103 = 11)]; decide)) (ent_11 (by decide : kd 103 = 11)) rfl rfl ⟨by decide, by decide⟩ ⟨by decide, by decide⟩ rfl dX13_drops_62 rfl (Nat.le_of_ble_eq_true rfl) (cmX13_puts zq) ?_
          refine g_goto h 0 (by decide) dX13_drops_65 ?_
          refine g_sub h [0, 1] rfl ?_
          exact ih _ _ _ zf

theorem kX13_drops_e0 {G : GX} (h : OKm G cX13_drops RX13 2 none { frames := 1, cells := 0, slots := 0, locals := 21 }) {M : Mem} {x1 : Int32} {res : Mem} (zf : fX13_drops M x1 = some res) : GG G (Qm G (Pwv res) 0 0) 0 0 0 [(0, rv G.1 103), (1, .int x1)] [] M := by
  unfold fX13_drops at zf
  refine g_sub h [0, 1] rfl ?_
  exact kX13_drops_l0 h _ _ _ _ zf

theorem cmX13_drops {l : Launch} {w : WX} {M : Mem} {x1 : Int32} {res : Mem} (zf : fX13_drops M x1 = some res) : CM l w yX13_drops cX13_drops 2 none { frames := 1, cells := 0, slots := 0, locals := 21 } 0 0 [rv w 103, .int x1] M (Pwv res) := by
  refine CM_of (by decide) (Nat.le_of_ble_eq_true rfl) (fun G hw hl h => ?_)
  subst hw
  exact kX13_drops_e0 h zf

-- X13_closes
theorem kX13_closes_e0 {G : GX} (h : OKm G cX13_closes RX13 1 none { frames := 2, cells := 0, slots := 0, locals := 42 }) {M : Mem} {res : Mem} (zf : fX13_closes M = some res) : GG G (Qm G (Pwv res) 0 0) 0 0 0 [(0, rv G.1 103)] [] M := by
  unfold fX13_closes at zf
  refine g_aload_n h 0 rfl dX13_closes_0 ?_
  refine g_iconst h 0 (v := 0) (by decide) dX13_closes_1 ?_
  have zf1 := bd_some zf
  clear zf; obtain ⟨Mq1, zq, zf⟩ := zf1
  refine g_callVwv (As := [.int 0]) (rest := []) h ceX13_drops mlX13_254 imX13_drops seX13_drops (by rfl) (kd_lt (by rw [(by decide : kd 103 = 11)]; decide)) (ent_11 (by decide : kd 103 = 11)) rfl rfl ⟨by decide, by decide⟩ ⟨by decide, by decide⟩ rfl dX13_closes_2 rfl (Nat.le_of_ble_eq_true rfl) (cmX13_drops zq) ?_
  refine g_aload_n h 0 rfl dX13_closes_5 ?_
  refine g_dup h rfl dX13_closes_6 ?_
  refine gfX13_220 h (by decide : kd 103 = 11) dX13_closes_7 ?_
  refine g_nmI zf ?_
  clear zf; intro vq2 zf
  refine g_iconst h 1 (v := 1) (by decide) dX13_closes_10 ?_
  refine g_isub h dX13_closes_11 ?_
  refine pfX13_220 h (by decide : kd 103 = 11) dX13_closes_12 ?_
  refine g_nmM zf ?_
  clear zf; intro Mq3 zf
  refine g_aload_n h 0 rfl dX13_closes_15 ?_
  refine g_dup h rfl dX13_closes_16 ?_
  refine gfX13_242 h (by decide : kd 103 = 11) dX13_closes_17 ?_
  refine g_nmI zf ?_
  clear zf; intro vq4 zf
  refine g_iconst h 1 (v := 1) (by decide) dX13_closes_20 ?_
  refine g_isub h dX13_closes_21 ?_
  refine pfX13_242 h (by decide : kd 103 = 11) dX13_closes_22 ?_
  refine g_nmM zf ?_
  clear zf; intro Mq5 zf
  refine g_aload_n h 0 rfl dX13_closes_25 ?_
  have zf1 := bd_some zf
  clear zf; obtain ⟨Mq6, zq, zf⟩ := zf1
  refine g_callVwv (As := []) (rest := []) h ceX13_goes mlX13_204 imX13_goes seX13_goes (by rfl) (kd_lt (by rw [(by decide : kd 103 = 11)]; decide)) (ent_11 (by decide : kd 103 = 11)) rfl rfl ⟨by decide, by decide⟩ ⟨by decide, by decide⟩ rfl dX13_closes_26 rfl (Nat.le_of_ble_eq_true rfl) (cmX13_goes zq) ?_
  obtain rfl := Option.some.inj zf
  exact g_vret h rfl ⟨rfl, rfl⟩ (Nat.le_refl _) (Nat.le_refl _) dX13_closes_29

theorem cmX13_closes {l : Launch} {w : WX} {M : Mem} {res : Mem} (zf : fX13_closes M = some res) : CM l w yX13_closes cX13_closes 1 none { frames := 2, cells := 0, slots := 0, locals := 42 } 0 0 [rv w 103] M (Pwv res) := by
  refine CM_of (by decide) (Nat.le_of_ble_eq_true rfl) (fun G hw hl h => ?_)
  subst hw
  exact kX13_closes_e0 h zf

-- X13_copies
theorem kX13_copies_l2 {G : GX} (h : OKm G cX13_copies RX13 4 none { frames := 0, cells := 0, slots := 0, locals := 0 }) : ∀ (n : Nat) (M : Mem) (x1 : Nat) (x2 : Nat) (x3 : Int32) (res : Mem), fX13_copies_l2 n M x1 x2 x3 = some res → GG G (Qm G (Pwv res) 0 0) 0 0 2 [(1, rv G.1 x1), (2, rv G.1 x2), (3, .int x3)] [] M := by
  intro n
  induction n with
  | zero => intro M x1 x2 x3 res zf; rw [fX13_copies_l2] at zf; cases zf
  | succ n ih =>
    intro M x1 x2 x3 res zf
    rw [fX13_copies_l2] at zf
    have zf1 := pre_ck zf
    clear zf; obtain ⟨zk_x1, zf⟩ := zf1
    have zf1 := pre_ck zf
    clear zf; obtain ⟨zk_x2, zf⟩ := zf1
    refine g_iload_n h 2 rfl dX13_copies_2 ?_
    refine g_aload_n h 0 rfl dX13_copies_3 ?_
    refine g_ilen h (ln x1) (z := Int32.ofNat (ln x1)) zk_x1 rfl rfl dX13_copies_4 ?_
    refine g_ic_ge h 20 (by decide) zf dX13_copies_5 ?_ ?_ <;> clear zf <;> intro zf
    · obtain rfl := Option.some.inj zf
      exact g_vret h rfl ⟨rfl, rfl⟩ (Nat.le_refl _) (Nat.le_refl _) dX13_copies_20
    · refine g_aload_n h 1 rfl dX13_copies_8 ?_
      refine g_iload_n h 2 rfl dX13_copies_9 ?_
      refine g_aload_n h 0 rfl dX13_copies_10 ?_
      refine g_iload_n h 2 rfl dX13_copies_11 ?_
      refine g_iald h (ln x1) zk_x1 rfl zf dX13_copies_12 ?_
      clear zf; intro vq1 zf
      refine g_iast h (ln x2) zk_x2 rfl zf dX13_copies_13 ?_
      clear zf; intro Mq2 zf
      refine g_iinc h 3 2 rfl (v := x3 + 1) (congrArg (fun z => x3 + z) (by decide : Int32.ofInt (1) = (1 : Int32))) [(3, .int (x3 + 1)), (1, rv G.1 x1), (2, rv G.1 x2)] (by decide) rfl dX13_copies_14 ?_
      refine g_nmV zf ?_
      clear zf; intro vq3 zf
      refine g_goto h 2 (by decide) dX13_copies_17 ?_
      refine g_sub h [1, 2, 0] rfl ?_
      exact ih _ _ _ _ _ zf

theorem kX13_copies_e0 {G : GX} (h : OKm G cX13_copies RX13 4 none { frames := 0, cells := 0, slots := 0, locals := 0 }) {M : Mem} {x1 : Nat} {x2 : Nat} {res : Mem} (zf : fX13_copies M x1 x2 = some res) : GG G (Qm G (Pwv res) 0 0) 0 0 0 [(0, rv G.1 103), (1, rv G.1 x1), (2, rv G.1 x2)] [] M := by
  unfold fX13_copies at zf
  have zf1 := pre_ck zf
  clear zf; obtain ⟨zk_x1, zf⟩ := zf1
  have zf1 := pre_ck zf
  clear zf; obtain ⟨zk_x2, zf⟩ := zf1
  refine g_iconst h 0 (v := 0) (by decide) dX13_copies_0 ?_
  refine g_istore_n h rfl [(3, .int 0), (0, rv G.1 103), (1, rv G.1 x1), (2, rv G.1 x2)] (by decide) rfl dX13_copies_1 ?_
  refine g_sub h [2, 3, 0] rfl ?_
  exact kX13_copies_l2 h _ _ _ _ _ _ zf

theorem cmX13_copies {l : Launch} {w : WX} {M : Mem} {x1 : Nat} {x2 : Nat} {res : Mem} (zf : fX13_copies M x1 x2 = some res) : CM l w yX13_copies cX13_copies 4 none { frames := 0, cells := 0, slots := 0, locals := 0 } 0 0 [rv w 103, rv w x1, rv w x2] M (Pwv res) := by
  refine CM_of (by decide) (Nat.le_of_ble_eq_true rfl) (fun G hw hl h => ?_)
  subst hw
  exact kX13_copies_e0 h zf

-- X13_goesYears
theorem kX13_goesYears_l2 {G : GX} (h : OKm G cX13_goesYears RX13 4 none { frames := 8, cells := 0, slots := 0, locals := 188 }) : ∀ (n : Nat) (M : Mem) (x1 : Int32) (x2 : Int32) (x3 : Int32) (res : Mem), fX13_goesYears_l2 n M x1 x2 x3 = some res → GG G (Qm G (Pwv res) 0 0) 0 0 2 [(0, rv G.1 103), (1, .int x1), (2, .int x2), (3, .int x3)] [] M := by
  intro n
  induction n with
  | zero => intro M x1 x2 x3 res zf; rw [fX13_goesYears_l2] at zf; cases zf
  | succ n ih =>
    intro M x1 x2 x3 res zf
    rw [fX13_goesYears_l2] at zf
    refine g_iload_n h 3 rfl dX13_goesYears_2 ?_
    refine g_iload_n h 2 rfl dX13_goesYears_3 ?_
    refine g_ic_ge h 20 (by decide) zf dX13_goesYears_4 ?_ ?_ <;> clear zf <;> intro zf
    · obtain rfl := Option.some.inj zf
      exact g_vret h rfl ⟨rfl, rfl⟩ (Nat.le_refl _) (Nat.le_refl _) dX13_goesYears_20
    · refine g_aload_n h 0 rfl dX13_goesYears_7 ?_
      refine g_iload_n h 1 rfl dX13_goesYears_8 ?_
      refine g_bipush h (-2) (v := (-2)) (by decide) dX13_goesYears_9 ?_
      have zf1 := bd_some zf
      clear zf; obtain ⟨Mq1, zq, zf⟩ := zf1
      refine g_callVwv (As := [.int x1, .int (-2)]) (rest := []) h ceX13_goesBy mlX13_404 imX13_goesBy seX13_goesBy (by rfl) (kd_lt (by rw [(by decide : kd 103 = 11)]; decide)) (ent_11 (by decide : kd 103 = 11)) rfl rfl ⟨by decide, by decide⟩ ⟨by decide, by decide⟩ rfl dX13_goesYears_11 rfl (Nat.le_of_ble_eq_true rfl) (cmX13_goesBy zq) ?_
      refine g_iinc h 3 3 rfl (v := x3 + 1) (congrArg (fun z => x3 + z) (by decide : Int32.ofInt (1) = (1 : Int32))) [(3, .int (x3 + 1)), (0, rv G.1 103), (1, .int x1), (2, .int x2)] (by decide) rfl dX13_goesYears_14 ?_
      refine g_nmV zf ?_
      clear zf; intro vq2 zf
      refine g_goto h 2 (by decide) dX13_goesYears_17 ?_
      refine g_sub h [1, 2, 3, 0] rfl ?_
      exact ih _ _ _ _ _ zf

theorem kX13_goesYears_e0 {G : GX} (h : OKm G cX13_goesYears RX13 4 none { frames := 8, cells := 0, slots := 0, locals := 188 }) {M : Mem} {x1 : Int32} {x2 : Int32} {res : Mem} (zf : fX13_goesYears M x1 x2 = some res) : GG G (Qm G (Pwv res) 0 0) 0 0 0 [(0, rv G.1 103), (1, .int x1), (2, .int x2)] [] M := by
  unfold fX13_goesYears at zf
  refine g_iconst h 0 (v := 0) (by decide) dX13_goesYears_0 ?_
  refine g_istore_n h rfl [(3, .int 0), (0, rv G.1 103), (1, .int x1), (2, .int x2)] (by decide) rfl dX13_goesYears_1 ?_
  refine g_sub h [1, 2, 3, 0] rfl ?_
  exact kX13_goesYears_l2 h _ _ _ _ _ _ zf

theorem cmX13_goesYears {l : Launch} {w : WX} {M : Mem} {x1 : Int32} {x2 : Int32} {res : Mem} (zf : fX13_goesYears M x1 x2 = some res) : CM l w yX13_goesYears cX13_goesYears 4 none { frames := 8, cells := 0, slots := 0, locals := 188 } 0 0 [rv w 103, .int x1, .int x2] M (Pwv res) := by
  refine CM_of (by decide) (Nat.le_of_ble_eq_true rfl) (fun G hw hl h => ?_)
  subst hw
  exact kX13_goesYears_e0 h zf

-- X13_cost
theorem kX13_cost_l61 {G : GX} (h : OKm G cX13_cost RX13 4 (some .int) { frames := 9, cells := 0, slots := 0, locals := 211 }) : ∀ (n : Nat) (M : Mem) (x1 : Int32) (x2 : Int32) (x3 : Int32) (res : (Int32 × Mem)), fX13_cost_l61 n M x1 x2 x3 = some res → GG G (Qm G (Pwi res) 0 0) 0 0 61 [(0, rv G.1 103), (1, .int x1), (2, .int x2), (3, .int x3)] [] M := by
  intro n
  induction n with
  | zero => intro M x1 x2 x3 res zf; rw [fX13_cost_l61] at zf; cases zf
  | succ n ih =>
    intro M x1 x2 x3 res zf
    rw [fX13_cost_l61] at zf
    refine g_iload_n h 3 rfl dX13_cost_61 ?_
    refine g_iload_n h 1 rfl dX13_cost_62 ?_
    refine g_ic_ge h 116 (by decide) zf dX13_cost_63 ?_ ?_ <;> clear zf <;> intro zf
    · refine g_aload_n h 0 rfl dX13_cost_116 ?_
      refine gfX13_108 h (by decide : kd 103 = 11) dX13_cost_117 ?_
      refine g_bipush h 31 (v := 31) (by decide) dX13_cost_120 ?_
      refine g_iald h 186 (by decide : kd 133 = 20) (by decide) zf dX13_cost_122 ?_
      clear zf; intro vq11 zf
      refine g_aload_n h 0 rfl dX13_cost_123 ?_
      refine gfX13_108 h (by decide : kd 103 = 11) dX13_cost_124 ?_
      refine g_bipush h 33 (v := 33) (by decide) dX13_cost_127 ?_
      refine g_iald h 186 (by decide : kd 133 = 20) (by decide) zf dX13_cost_129 ?_
      clear zf; intro vq12 zf
      refine g_isub h dX13_cost_130 ?_
      refine g_iload_n h 2 rfl dX13_cost_131 ?_
      refine g_isub h dX13_cost_132 ?_
      obtain rfl := Option.some.inj zf
      exact g_iret h rfl ⟨rfl, rfl⟩ (Nat.le_refl _) (Nat.le_refl _) dX13_cost_133
    · refine g_aload_n h 0 rfl dX13_cost_66 ?_
      refine g_bipush h 31 (v := 31) (by decide) dX13_cost_67 ?_
      refine g_aload_n h 0 rfl dX13_cost_69 ?_
      refine g_aload_n h 0 rfl dX13_cost_70 ?_
      refine gfX13_108 h (by decide : kd 103 = 11) dX13_cost_71 ?_
      refine g_bipush h 34 (v := 34) (by decide) dX13_cost_74 ?_
      refine g_iald h 186 (by decide : kd 133 = 20) (by decide) zf dX13_cost_76 ?_
      clear zf; intro vq13 zf
      have zf1 := bd_some zf
      clear zf; obtain ⟨vq14, zq, zf⟩ := zf1
      refine g_callVri (As := [.int vq13]) (rest := [.int 31, rv G.1 103]) h ceX13_harvestOf mlX13_387 imX13_harvestOf seX13_harvestOf (by rfl) (kd_lt (by rw [(by decide : kd 103 = 11)]; decide)) (ent_11 (by decide : kd 103 = 11)) rfl rfl ⟨by decide, by decide⟩ ⟨by decide, by decide⟩ rfl dX13_cost_77 rfl (Nat.le_of_ble_eq_true rfl) (cmX13_harvestOf zq) ?_
      have zf1 := bd_some zf
      clear zf; obtain ⟨Mq15, zq, zf⟩ := zf1
      refine g_callVwv (As := [.int 31, .int vq14]) (rest := []) h ceX13_gathers mlX13_390 imX13_gathers seX13_gathers (by rfl) (kd_lt (by rw [(by decide : kd 103 = 11)]; decide)) (ent_11 (by decide : kd 103 = 11)) rfl rfl ⟨by decide, by decide⟩ ⟨by decide, by decide⟩ rfl dX13_cost_80 rfl (Nat.le_of_ble_eq_true rfl) (cmX13_gathers zq) ?_
      refine g_aload_n h 0 rfl dX13_cost_83 ?_
      refine g_bipush h 31 (v := 31) (by decide) dX13_cost_84 ?_
      refine g_aload_n h 0 rfl dX13_cost_86 ?_
      refine g_bipush h 31 (v := 31) (by decide) dX13_cost_87 ?_
      refine g_aload_n h 0 rfl dX13_cost_89 ?_
      refine gfX13_108 h (by decide : kd 103 = 11) dX13_cost_90 ?_
      refine g_bipush h 35 (v := 35) (by decide) dX13_cost_93 ?_
      refine g_iald h 186 (by decide : kd 133 = 20) (by decide) zf dX13_cost_95 ?_
      clear zf; intro vq16 zf
      have zf1 := bd_some zf
      clear zf; obtain ⟨vq17, zq, zf⟩ := zf1
      refine g_callVri (As := [.int 31, .int vq16]) (rest := [.int 31, rv G.1 103]) h ceX13_wayOf mlX13_393 imX13_wayOf seX13_wayOf (by rfl) (kd_lt (by rw [(by decide : kd 103 = 11)]; decide)) (ent_11 (by decide : kd 103 = 11)) rfl rfl ⟨by decide, by decide⟩ ⟨by decide, by decide⟩ rfl dX13_cost_96 rfl (Nat.le_of_ble_eq_true rfl) (cmX13_wayOf zq) ?_
      have zf1 := b2_some zf
      clear zf; obtain ⟨vq18, Mq19, zq, zf⟩ := zf1
      refine g_callVwi (As := [.int 31, .int vq17]) (rest := []) h ceX13_does mlX13_396 imX13_does seX13_does (by rfl) (kd_lt (by rw [(by decide : kd 103 = 11)]; decide)) (ent_11 (by decide : kd 103 = 11)) rfl rfl ⟨by decide, by decide⟩ ⟨by decide, by decide⟩ rfl dX13_cost_99 rfl (Nat.le_of_ble_eq_true rfl) (cmX13_does zq) ?_
      refine g_pop h rfl dX13_cost_102 ?_
      refine g_aload_n h 0 rfl dX13_cost_103 ?_
      refine g_bipush h 31 (v := 31) (by decide) dX13_cost_104 ?_
      refine g_iconst h 0 (v := 0) (by decide) dX13_cost_106 ?_
      have zf1 := bd_some zf
      clear zf; obtain ⟨Mq20, zq, zf⟩ := zf1
      refine g_callVwv (As := [.int 31, .int 0]) (rest := []) h ceX13_ends mlX13_400 imX13_ends seX13_ends (by rfl) (kd_lt (by rw [(by decide : kd 103 = 11)]; decide)) (ent_11 (by decide : kd 103 = 11)) rfl rfl ⟨by decide, by decide⟩ ⟨by decide, by decide⟩ rfl dX13_cost_107 rfl (Nat.le_of_ble_eq_true rfl) (cmX13_ends zq) ?_
      refine g_iinc h 3 3 rfl (v := x3 + 1) (congrArg (fun z => x3 + z) (by decide : Int32.ofInt (1) = (1 : Int32))) [(3, .int (x3 + 1)), (0, rv G.1 103), (1, .int x1), (2, .int x2)] (by decide) rfl dX13_cost_110 ?_
      refine g_nmV zf ?_
      clear zf; intro vq21 zf
      refine g_goto h 61 (by decide) dX13_cost_113 ?_
      refine g_sub h [1, 2, 3, 0] rfl ?_
      exact ih _ _ _ _ _ zf

theorem kX13_cost_e0 {G : GX} (h : OKm G cX13_cost RX13 4 (some .int) { frames := 9, cells := 0, slots := 0, locals := 211 }) {M : Mem} {x1 : Int32} {res : (Int32 × Mem)} (zf : fX13_cost M x1 = some res) : GG G (Qm G (Pwi res) 0 0) 0 0 0 [(0, rv G.1 103), (1, .int x1)] [] M := by
  unfold fX13_cost at zf
  refine g_aload_n h 0 rfl dX13_cost_0 ?_
  refine g_iconst h 0 (v := 0) (by decide) dX13_cost_1 ?_
  refine pfX13_141 h (by decide : kd 103 = 11) dX13_cost_2 ?_
  refine g_nmM zf ?_
  clear zf; intro Mq1 zf
  refine g_aload_n h 0 rfl dX13_cost_5 ?_
  refine g_iload_n h 1 rfl dX13_cost_6 ?_
  refine g_iconst h 1 (v := 1) (by decide) dX13_cost_7 ?_
  refine g_bipush h 60 (v := 60) (by decide) dX13_cost_8 ?_
  have zf1 := bd_some zf
  clear zf; obtain ⟨vq2, zq, zf⟩ := zf1
  refine g_callSri (As := [.int x1, .int 1, .int 60]) (rest := [rv G.1 103]) h ceX13_within mlX13_407 smX13_within rfl rfl ⟨by decide, by decide⟩ ⟨by decide, by decide⟩ rfl dX13_cost_10 rfl (Nat.le_of_ble_eq_true rfl) (cmX13_within zq) ?_
  refine g_iconst h 1 (v := 1) (by decide) dX13_cost_13 ?_
  have zf1 := b2_some zf
  clear zf; obtain ⟨vq3, Mq4, zq, zf⟩ := zf1
  refine g_callVwi (As := [.int vq2, .int 1]) (rest := []) h ceX13_right mlX13_326 imX13_right seX13_right (by rfl) (kd_lt (by rw [(by decide : kd 103 = 11)]; decide)) (ent_11 (by decide : kd 103 = 11)) rfl rfl ⟨by decide, by decide⟩ ⟨by decide, by decide⟩ rfl dX13_cost_14 rfl (Nat.le_of_ble_eq_true rfl) (cmX13_right zq) ?_
  refine g_if_ne h 22 (by decide) zf dX13_cost_17 ?_ ?_ <;> clear zf <;> intro zf
  · refine g_aload_n h 0 rfl dX13_cost_22 ?_
    refine g_iconst h 0 (v := 0) (by decide) dX13_cost_23 ?_
    refine g_bipush h 31 (v := 31) (by decide) dX13_cost_24 ?_
    have zf1 := bd_some zf
    clear zf; obtain ⟨Mq5, zq, zf⟩ := zf1
    refine g_callVwv (As := [.int 0, .int 31]) (rest := []) h ceX13_lays0 mlX13_432 imX13_lays0 seX13_lays0 (by rfl) (kd_lt (by rw [(by decide : kd 103 = 11)]; decide)) (ent_11 (by decide : kd 103 = 11)) rfl rfl ⟨by decide, by decide⟩ ⟨by decide, by decide⟩ rfl dX13_cost_26 rfl (Nat.le_of_ble_eq_true rfl) (cmX13_lays0 zq) ?_
    refine g_aload_n h 0 rfl dX13_cost_29 ?_
    refine g_bipush h 31 (v := 31) (by decide) dX13_cost_30 ?_
    refine g_iload_n h 1 rfl dX13_cost_32 ?_
    have zf1 := bd_some zf
    clear zf; obtain ⟨Mq6, zq, zf⟩ := zf1
    refine g_callVwv (As := [.int 31, .int x1]) (rest := []) h ceX13_goesYears mlX13_429 imX13_goesYears seX13_goesYears (by rfl) (kd_lt (by rw [(by decide : kd 103 = 11)]; decide)) (ent_11 (by decide : kd 103 = 11)) rfl rfl ⟨by decide, by decide⟩ ⟨by decide, by decide⟩ rfl dX13_cost_33 rfl (Nat.le_of_ble_eq_true rfl) (cmX13_goesYears zq) ?_
    refine g_aload_n h 0 rfl dX13_cost_36 ?_
    refine gfX13_108 h (by decide : kd 103 = 11) dX13_cost_37 ?_
    refine g_bipush h 31 (v := 31) (by decide) dX13_cost_40 ?_
    refine g_iald h 186 (by decide : kd 133 = 20) (by decide) zf dX13_cost_42 ?_
    clear zf; intro vq7 zf
    refine g_aload_n h 0 rfl dX13_cost_43 ?_
    refine gfX13_108 h (by decide : kd 103 = 11) dX13_cost_44 ?_
    refine g_bipush h 33 (v := 33) (by decide) dX13_cost_47 ?_
    refine g_iald h 186 (by decide : kd 133 = 20) (by decide) zf dX13_cost_49 ?_
    clear zf; intro vq8 zf
    refine g_isub h dX13_cost_50 ?_
    refine g_nmI zf ?_
    clear zf; intro vq9 zf
    refine g_istore_n h rfl [(2, .int vq9), (0, rv G.1 103), (1, .int x1)] (by decide) rfl dX13_cost_51 ?_
    refine g_aload_n h 1 rfl dX13_cost_52 ?_
    refine g_iconst h 0 (v := 0) (by decide) dX13_cost_53 ?_
    refine g_bipush h 31 (v := 31) (by decide) dX13_cost_54 ?_
    have zf1 := bd_some zf
    clear zf; obtain ⟨Mq10, zq, zf⟩ := zf1
    refine g_callVwv (As := [.int 0, .int 31]) (rest := []) h ceX13_lays0 mlX13_432 imX13_lays0 seX13_lays0 (by rfl) (kd_lt (by rw [(by decide : kd 103 = 11)]; decide)) (ent_11 (by decide : kd 103 = 11)) rfl rfl ⟨by decide, by decide⟩ ⟨by decide, by decide⟩ rfl dX13_cost_56 rfl (Nat.le_of_ble_eq_true rfl) (cmX13_lays0 zq) ?_
    refine g_iconst h 0 (v := 0) (by decide) dX13_cost_59 ?_
    refine g_istore_n h rfl [(3, .int 0), (2, .int vq9), (0, rv G.1 103), (1, .int x1)] (by decide) rfl dX13_cost_60 ?_
    refine g_sub h [2, 3, 1, 0] rfl ?_
    exact kX13_cost_l61 h _ _ _ _ _ _ zf
  · refine g_iconst h 0 (v := 0) (by decide) dX13_cost_20 ?_
    obtain rfl := Option.some.inj zf
    exact g_iret h rfl ⟨rfl, rfl⟩ (Nat.le_refl _) (Nat.le_refl _) dX13_cost_21

theorem cmX13_cost {l : Launch} {w : WX} {M : Mem} {x1 : Int32} {res : (Int32 × Mem)} (zf : fX13_cost M x1 = some res) : CM l w yX13_cost cX13_cost 4 (some .int) { frames := 9, cells := 0, slots := 0, locals := 211 } 0 0 [rv w 103, .int x1] M (Pwi res) := by
  refine CM_of (by decide) (Nat.le_of_ble_eq_true rfl) (fun G hw hl h => ?_)
  subst hw
  exact kX13_cost_e0 h zf

-- X13_count
theorem kX13_count_e0 {G : GX} (h : OKm G cX13_count RX13 2 (some .int) { frames := 1, cells := 0, slots := 0, locals := 22 }) {M : Mem} {x1 : Int32} {res : (Int32 × Mem)} (zf : fX13_count M x1 = some res) : GG G (Qm G (Pwi res) 0 0) 0 0 0 [(0, rv G.1 103), (1, .int x1)] [] M := by
  unfold fX13_count at zf
  refine g_aload_n h 0 rfl dX13_count_0 ?_
  refine g_iconst h 0 (v := 0) (by decide) dX13_count_1 ?_
  refine pfX13_141 h (by decide : kd 103 = 11) dX13_count_2 ?_
  refine g_nmM zf ?_
  clear zf; intro Mq1 zf
  refine g_aload_n h 0 rfl dX13_count_5 ?_
  refine g_iload_n h 1 rfl dX13_count_6 ?_
  refine g_iconst h 0 (v := 0) (by decide) dX13_count_7 ?_
  refine g_bipush h 18 (v := 18) (by decide) dX13_count_8 ?_
  have zf1 := bd_some zf
  clear zf; obtain ⟨vq2, zq, zf⟩ := zf1
  refine g_callSri (As := [.int x1, .int 0, .int 18]) (rest := [rv G.1 103]) h ceX13_within mlX13_407 smX13_within rfl rfl ⟨by decide, by decide⟩ ⟨by decide, by decide⟩ rfl dX13_count_10 rfl (Nat.le_of_ble_eq_true rfl) (cmX13_within zq) ?_
  refine g_iconst h 1 (v := 1) (by decide) dX13_count_13 ?_
  have zf1 := b2_some zf
  clear zf; obtain ⟨vq3, Mq4, zq, zf⟩ := zf1
  refine g_callVwi (As := [.int vq2, .int 1]) (rest := []) h ceX13_right mlX13_326 imX13_right seX13_right (by rfl) (kd_lt (by rw [(by decide : kd 103 = 11)]; decide)) (ent_11 (by decide : kd 103 = 11)) rfl rfl ⟨by decide, by decide⟩ ⟨by decide, by decide⟩ rfl dX13_count_14 rfl (Nat.le_of_ble_eq_true rfl) (cmX13_right zq) ?_
  refine g_if_ne h 22 (by decide) zf dX13_count_17 ?_ ?_ <;> clear zf <;> intro zf
  · refine g_iload_n h 1 rfl dX13_count_22 ?_
    by_cases zx0 : x1 = 0
    · rw [if_pos zx0] at zf
      refine g_tabIn h (off := 77) 100 (by rw [zx0]; decide) (by rw [zx0]; decide) (by rw [zx0]; decide) (by decide) dX13_count_23 ?_
      refine g_aload_n h 0 rfl dX13_count_100 ?_
      refine gfX13_108 h (by decide : kd 103 = 11) dX13_count_101 ?_
      refine g_iconst h 0 (v := 0) (by decide) dX13_count_104 ?_
      refine g_iload_n h 1 rfl dX13_count_105 ?_
      refine g_iadd h dX13_count_106 ?_
      refine g_iald h 186 (by decide : kd 133 = 20) (by decide) zf dX13_count_107 ?_
      clear zf; intro vq5 zf
      obtain rfl := Option.some.inj zf
      exact g_iret h rfl ⟨rfl, rfl⟩ (Nat.le_refl _) (Nat.le_refl _) dX13_count_108
    rw [if_neg zx0] at zf
    have zy0 : x1.toInt ≠ 0 := fun q => zx0 (Int32.toInt_inj.mp (by rw [q]; rfl))
    by_cases zx1 : x1 = 1
    · rw [if_pos zx1] at zf
      refine g_tabIn h (off := 77) 100 (by rw [zx1]; decide) (by rw [zx1]; decide) (by rw [zx1]; decide) (by decide) dX13_count_23 ?_
      refine g_aload_n h 0 rfl dX13_count_100 ?_
      refine gfX13_108 h (by decide : kd 103 = 11) dX13_count_101 ?_
      refine g_iconst h 0 (v := 0) (by decide) dX13_count_104 ?_
      refine g_iload_n h 1 rfl dX13_count_105 ?_
      refine g_iadd h dX13_count_106 ?_
      refine g_iald h 186 (by decide : kd 133 = 20) (by decide) zf dX13_count_107 ?_
      clear zf; intro vq6 zf
      obtain rfl := Option.some.inj zf
      exact g_iret h rfl ⟨rfl, rfl⟩ (Nat.le_refl _) (Nat.le_refl _) dX13_count_108
    rw [if_neg zx1] at zf
    have zy1 : x1.toInt ≠ 1 := fun q => zx1 (Int32.toInt_inj.mp (by rw [q]; rfl))
    by_cases zx2 : x1 = 2
    · rw [if_pos zx2] at zf
      refine g_tabIn h (off := 77) 100 (by rw [zx2]; decide) (by rw [zx2]; decide) (by rw [zx2]; decide) (by decide) dX13_count_23 ?_
      refine g_aload_n h 0 rfl dX13_count_100 ?_
      refine gfX13_108 h (by decide : kd 103 = 11) dX13_count_101 ?_
      refine g_iconst h 0 (v := 0) (by decide) dX13_count_104 ?_
      refine g_iload_n h 1 rfl dX13_count_105 ?_
      refine g_iadd h dX13_count_106 ?_
      refine g_iald h 186 (by decide : kd 133 = 20) (by decide) zf dX13_count_107 ?_
      clear zf; intro vq7 zf
      obtain rfl := Option.some.inj zf
      exact g_iret h rfl ⟨rfl, rfl⟩ (Nat.le_refl _) (Nat.le_refl _) dX13_count_108
    rw [if_neg zx2] at zf
    have zy2 : x1.toInt ≠ 2 := fun q => zx2 (Int32.toInt_inj.mp (by rw [q]; rfl))
    by_cases zx3 : x1 = 3
    · rw [if_pos zx3] at zf
      refine g_tabIn h (off := 77) 100 (by rw [zx3]; decide) (by rw [zx3]; decide) (by rw [zx3]; decide) (by decide) dX13_count_23 ?_
      refine g_aload_n h 0 rfl dX13_count_100 ?_
      refine gfX13_108 h (by decide : kd 103 = 11) dX13_count_101 ?_
      refine g_iconst h 0 (v := 0) (by decide) dX13_count_104 ?_
      refine g_iload_n h 1 rfl dX13_count_105 ?_
      refine g_iadd h dX13_count_106 ?_
      refine g_iald h 186 (by decide : kd 133 = 20) (by decide) zf dX13_count_107 ?_
      clear zf; intro vq8 zf
      obtain rfl := Option.some.inj zf
      exact g_iret h rfl ⟨rfl, rfl⟩ (Nat.le_refl _) (Nat.le_refl _) dX13_count_108
    rw [if_neg zx3] at zf
    have zy3 : x1.toInt ≠ 3 := fun q => zx3 (Int32.toInt_inj.mp (by rw [q]; rfl))
    by_cases zx4 : x1 = 4
    · rw [if_pos zx4] at zf
      refine g_tabIn h (off := 77) 100 (by rw [zx4]; decide) (by rw [zx4]; decide) (by rw [zx4]; decide) (by decide) dX13_count_23 ?_
      refine g_aload_n h 0 rfl dX13_count_100 ?_
      refine gfX13_108 h (by decide : kd 103 = 11) dX13_count_101 ?_
      refine g_iconst h 0 (v := 0) (by decide) dX13_count_104 ?_
      refine g_iload_n h 1 rfl dX13_count_105 ?_
      refine g_iadd h dX13_count_106 ?_
      refine g_iald h 186 (by decide : kd 133 = 20) (by decide) zf dX13_count_107 ?_
      clear zf; intro vq9 zf
      obtain rfl := Option.some.inj zf
      exact g_iret h rfl ⟨rfl, rfl⟩ (Nat.le_refl _) (Nat.le_refl _) dX13_count_108
    rw [if_neg zx4] at zf
    have zy4 : x1.toInt ≠ 4 := fun q => zx4 (Int32.toInt_inj.mp (by rw [q]; rfl))
    by_cases zx5 : x1 = 5
    · rw [if_pos zx5] at zf
      refine g_tabIn h (off := 77) 100 (by rw [zx5]; decide) (by rw [zx5]; decide) (by rw [zx5]; decide) (by decide) dX13_count_23 ?_
      refine g_aload_n h 0 rfl dX13_count_100 ?_
      refine gfX13_108 h (by decide : kd 103 = 11) dX13_count_101 ?_
      refine g_iconst h 0 (v := 0) (by decide) dX13_count_104 ?_
      refine g_iload_n h 1 rfl dX13_count_105 ?_
      refine g_iadd h dX13_count_106 ?_
      refine g_iald h 186 (by decide : kd 133 = 20) (by decide) zf dX13_count_107 ?_
      clear zf; intro vq10 zf
      obtain rfl := Option.some.inj zf
      exact g_iret h rfl ⟨rfl, rfl⟩ (Nat.le_refl _) (Nat.le_refl _) dX13_count_108
    rw [if_neg zx5] at zf
    have zy5 : x1.toInt ≠ 5 := fun q => zx5 (Int32.toInt_inj.mp (by rw [q]; rfl))
    by_cases zx6 : x1 = 6
    · rw [if_pos zx6] at zf
      refine g_tabIn h (off := 86) 109 (by rw [zx6]; decide) (by rw [zx6]; decide) (by rw [zx6]; decide) (by decide) dX13_count_23 ?_
      refine g_aload_n h 0 rfl dX13_count_109 ?_
      refine gfX13_108 h (by decide : kd 103 = 11) dX13_count_110 ?_
      refine g_bipush h 12 (v := 12) (by decide) dX13_count_113 ?_
      refine g_iald h 186 (by decide : kd 133 = 20) (by decide) zf dX13_count_115 ?_
      clear zf; intro vq11 zf
      obtain rfl := Option.some.inj zf
      exact g_iret h rfl ⟨rfl, rfl⟩ (Nat.le_refl _) (Nat.le_refl _) dX13_count_116
    rw [if_neg zx6] at zf
    have zy6 : x1.toInt ≠ 6 := fun q => zx6 (Int32.toInt_inj.mp (by rw [q]; rfl))
    by_cases zx7 : x1 = 7
    · rw [if_pos zx7] at zf
      refine g_tabIn h (off := 94) 117 (by rw [zx7]; decide) (by rw [zx7]; decide) (by rw [zx7]; decide) (by decide) dX13_count_23 ?_
      refine g_aload_n h 0 rfl dX13_count_117 ?_
      refine gfX13_108 h (by decide : kd 103 = 11) dX13_count_118 ?_
      refine g_bipush h 8 (v := 8) (by decide) dX13_count_121 ?_
      refine g_iald h 186 (by decide : kd 133 = 20) (by decide) zf dX13_count_123 ?_
      clear zf; intro vq12 zf
      obtain rfl := Option.some.inj zf
      exact g_iret h rfl ⟨rfl, rfl⟩ (Nat.le_refl _) (Nat.le_refl _) dX13_count_124
    rw [if_neg zx7] at zf
    have zy7 : x1.toInt ≠ 7 := fun q => zx7 (Int32.toInt_inj.mp (by rw [q]; rfl))
    by_cases zx8 : x1 = 8
    · rw [if_pos zx8] at zf
      refine g_tabIn h (off := 102) 125 (by rw [zx8]; decide) (by rw [zx8]; decide) (by rw [zx8]; decide) (by decide) dX13_count_23 ?_
      refine g_aload_n h 0 rfl dX13_count_125 ?_
      refine gfX13_108 h (by decide : kd 103 = 11) dX13_count_126 ?_
      refine g_bipush h 9 (v := 9) (by decide) dX13_count_129 ?_
      refine g_iald h 186 (by decide : kd 133 = 20) (by decide) zf dX13_count_131 ?_
      clear zf; intro vq13 zf
      obtain rfl := Option.some.inj zf
      exact g_iret h rfl ⟨rfl, rfl⟩ (Nat.le_refl _) (Nat.le_refl _) dX13_count_132
    rw [if_neg zx8] at zf
    have zy8 : x1.toInt ≠ 8 := fun q => zx8 (Int32.toInt_inj.mp (by rw [q]; rfl))
    by_cases zx9 : x1 = 9
    · rw [if_pos zx9] at zf
      refine g_tabIn h (off := 110) 133 (by rw [zx9]; decide) (by rw [zx9]; decide) (by rw [zx9]; decide) (by decide) dX13_count_23 ?_
      refine g_aload_n h 0 rfl dX13_count_133 ?_
      refine gfX13_333 h (by decide : kd 103 = 11) dX13_count_134 ?_
      refine g_nmI zf ?_
      clear zf; intro vq14 zf
      obtain rfl := Option.some.inj zf
      exact g_iret h rfl ⟨rfl, rfl⟩ (Nat.le_refl _) (Nat.le_refl _) dX13_count_137
    rw [if_neg zx9] at zf
    have zy9 : x1.toInt ≠ 9 := fun q => zx9 (Int32.toInt_inj.mp (by rw [q]; rfl))
    by_cases zx10 : x1 = 10
    · rw [if_pos zx10] at zf
      refine g_tabIn h (off := 115) 138 (by rw [zx10]; decide) (by rw [zx10]; decide) (by rw [zx10]; decide) (by decide) dX13_count_23 ?_
      refine g_aload_n h 0 rfl dX13_count_138 ?_
      refine gfX13_339 h (by decide : kd 103 = 11) dX13_count_139 ?_
      refine g_nmI zf ?_
      clear zf; intro vq15 zf
      obtain rfl := Option.some.inj zf
      exact g_iret h rfl ⟨rfl, rfl⟩ (Nat.le_refl _) (Nat.le_refl _) dX13_count_142
    rw [if_neg zx10] at zf
    have zy10 : x1.toInt ≠ 10 := fun q => zx10 (Int32.toInt_inj.mp (by rw [q]; rfl))
    by_cases zx11 : x1 = 11
    · rw [if_pos zx11] at zf
      refine g_tabIn h (off := 120) 143 (by rw [zx11]; decide) (by rw [zx11]; decide) (by rw [zx11]; decide) (by decide) dX13_count_23 ?_
      refine g_aload_n h 0 rfl dX13_count_143 ?_
      refine gfX13_342 h (by decide : kd 103 = 11) dX13_count_144 ?_
      refine g_nmI zf ?_
      clear zf; intro vq16 zf
      obtain rfl := Option.some.inj zf
      exact g_iret h rfl ⟨rfl, rfl⟩ (Nat.le_refl _) (Nat.le_refl _) dX13_count_147
    rw [if_neg zx11] at zf
    have zy11 : x1.toInt ≠ 11 := fun q => zx11 (Int32.toInt_inj.mp (by rw [q]; rfl))
    by_cases zx12 : x1 = 12
    · rw [if_pos zx12] at zf
      refine g_tabIn h (off := 125) 148 (by rw [zx12]; decide) (by rw [zx12]; decide) (by rw [zx12]; decide) (by decide) dX13_count_23 ?_
      refine g_aload_n h 0 rfl dX13_count_148 ?_
      refine gfX13_345 h (by decide : kd 103 = 11) dX13_count_149 ?_
      refine g_nmI zf ?_
      clear zf; intro vq17 zf
      obtain rfl := Option.some.inj zf
      exact g_iret h rfl ⟨rfl, rfl⟩ (Nat.le_refl _) (Nat.le_refl _) dX13_count_152
    rw [if_neg zx12] at zf
    have zy12 : x1.toInt ≠ 12 := fun q => zx12 (Int32.toInt_inj.mp (by rw [q]; rfl))
    by_cases zx13 : x1 = 13
    · rw [if_pos zx13] at zf
      refine g_tabIn h (off := 130) 153 (by rw [zx13]; decide) (by rw [zx13]; decide) (by rw [zx13]; decide) (by decide) dX13_count_23 ?_
      refine g_aload_n h 0 rfl dX13_count_153 ?_
      refine gfX13_352 h (by decide : kd 103 = 11) dX13_count_154 ?_
      refine g_nmI zf ?_
      clear zf; intro vq18 zf
      obtain rfl := Option.some.inj zf
      exact g_iret h rfl ⟨rfl, rfl⟩ (Nat.le_refl _) (Nat.le_refl _) dX13_count_157
    rw [if_neg zx13] at zf
    have zy13 : x1.toInt ≠ 13 := fun q => zx13 (Int32.toInt_inj.mp (by rw [q]; rfl))
    by_cases zx14 : x1 = 14
    · rw [if_pos zx14] at zf
      refine g_tabIn h (off := 135) 158 (by rw [zx14]; decide) (by rw [zx14]; decide) (by rw [zx14]; decide) (by decide) dX13_count_23 ?_
      refine g_aload_n h 0 rfl dX13_count_158 ?_
      refine gfX13_355 h (by decide : kd 103 = 11) dX13_count_159 ?_
      refine g_nmI zf ?_
      clear zf; intro vq19 zf
      obtain rfl := Option.some.inj zf
      exact g_iret h rfl ⟨rfl, rfl⟩ (Nat.le_refl _) (Nat.le_refl _) dX13_count_162
    rw [if_neg zx14] at zf
    have zy14 : x1.toInt ≠ 14 := fun q => zx14 (Int32.toInt_inj.mp (by rw [q]; rfl))
    by_cases zx15 : x1 = 15
    · rw [if_pos zx15] at zf
      refine g_tabIn h (off := 140) 163 (by rw [zx15]; decide) (by rw [zx15]; decide) (by rw [zx15]; decide) (by decide) dX13_count_23 ?_
      refine g_aload_n h 0 rfl dX13_count_163 ?_
      refine gfX13_144 h (by decide : kd 103 = 11) dX13_count_164 ?_
      refine g_nmI zf ?_
      clear zf; intro vq20 zf
      obtain rfl := Option.some.inj zf
      exact g_iret h rfl ⟨rfl, rfl⟩ (Nat.le_refl _) (Nat.le_refl _) dX13_count_167
    rw [if_neg zx15] at zf
    have zy15 : x1.toInt ≠ 15 := fun q => zx15 (Int32.toInt_inj.mp (by rw [q]; rfl))
    refine g_tabOut h 168 (by omega) (by decide) dX13_count_23 ?_
    refine g_aload_n h 0 rfl dX13_count_168 ?_
    refine gfX13_59 h (by decide : kd 103 = 11) dX13_count_169 ?_
    refine g_iload_n h 1 rfl dX13_count_172 ?_
    refine g_bipush h 16 (v := 16) (by decide) dX13_count_173 ?_
    refine g_isub h dX13_count_175 ?_
    refine g_iald h 3 (by decide : kd 117 = 20) (by decide) zf dX13_count_176 ?_
    clear zf; intro vq21 zf
    obtain rfl := Option.some.inj zf
    exact g_iret h rfl ⟨rfl, rfl⟩ (Nat.le_refl _) (Nat.le_refl _) dX13_count_177
  · refine g_iconst h 0 (v := 0) (by decide) dX13_count_20 ?_
    obtain rfl := Option.some.inj zf
    exact g_iret h rfl ⟨rfl, rfl⟩ (Nat.le_refl _) (Nat.le_refl _) dX13_count_21

theorem cmX13_count {l : Launch} {w : WX} {M : Mem} {x1 : Int32} {res : (Int32 × Mem)} (zf : fX13_count M x1 = some res) : CM l w yX13_count cX13_count 2 (some .int) { frames := 1, cells := 0, slots := 0, locals := 22 } 0 0 [rv w 103, .int x1] M (Pwi res) := by
  refine CM_of (by decide) (Nat.le_of_ble_eq_true rfl) (fun G hw hl h => ?_)
  subst hw
  exact kX13_count_e0 h zf

-- X13_deed
theorem kX13_deed_e0 {G : GX} (h : OKm G cX13_deed RX13 3 (some .int) { frames := 2, cells := 0, slots := 0, locals := 44 }) {M : Mem} {x1 : Int32} {x2 : Int32} {res : (Int32 × Mem)} (zf : fX13_deed M x1 x2 = some res) : GG G (Qm G (Pwi res) 0 0) 0 0 0 [(0, rv G.1 103), (1, .int x1), (2, .int x2)] [] M := by
  unfold fX13_deed at zf
  refine g_aload_n h 0 rfl dX13_deed_0 ?_
  refine g_iconst h 0 (v := 0) (by decide) dX13_deed_1 ?_
  refine pfX13_141 h (by decide : kd 103 = 11) dX13_deed_2 ?_
  refine g_nmM zf ?_
  clear zf; intro Mq1 zf
  refine g_aload_n h 0 rfl dX13_deed_5 ?_
  refine g_iload_n h 1 rfl dX13_deed_6 ?_
  have zf1 := b2_some zf
  clear zf; obtain ⟨vq2, Mq3, zq, zf⟩ := zf1
  refine g_callVwi (As := [.int x1]) (rest := []) h ceX13_isDeed mlX13_411 imX13_isDeed seX13_isDeed (by rfl) (kd_lt (by rw [(by decide : kd 103 = 11)]; decide)) (ent_11 (by decide : kd 103 = 11)) rfl rfl ⟨by decide, by decide⟩ ⟨by decide, by decide⟩ rfl dX13_deed_7 rfl (Nat.le_of_ble_eq_true rfl) (cmX13_isDeed zq) ?_
  refine g_if_eq h 22 (by decide) zf dX13_deed_10 ?_ ?_ <;> clear zf <;> intro zf
  · refine g_iconst h 0 (v := 0) (by decide) dX13_deed_22 ?_
    obtain rfl := Option.some.inj zf
    exact g_iret h rfl ⟨rfl, rfl⟩ (Nat.le_refl _) (Nat.le_refl _) dX13_deed_23
  · refine g_aload_n h 0 rfl dX13_deed_13 ?_
    refine g_iload_n h 2 rfl dX13_deed_14 ?_
    refine g_iconst h 4 (v := 4) (by decide) dX13_deed_15 ?_
    have zf1 := b2_some zf
    clear zf; obtain ⟨vq4, Mq5, zq, zf⟩ := zf1
    refine g_callVwi (As := [.int x2, .int 4]) (rest := []) h ceX13_isWhat mlX13_414 imX13_isWhat seX13_isWhat (by rfl) (kd_lt (by rw [(by decide : kd 103 = 11)]; decide)) (ent_11 (by decide : kd 103 = 11)) rfl rfl ⟨by decide, by decide⟩ ⟨by decide, by decide⟩ rfl dX13_deed_16 rfl (Nat.le_of_ble_eq_true rfl) (cmX13_isWhat zq) ?_
    refine g_if_ne h 24 (by decide) zf dX13_deed_19 ?_ ?_ <;> clear zf <;> intro zf
    · refine g_iload_n h 2 rfl dX13_deed_24 ?_
      refine g_if_ne h 37 (by decide) zf dX13_deed_25 ?_ ?_ <;> clear zf <;> intro zf
      · refine g_iload_n h 2 rfl dX13_deed_37 ?_
        refine g_iconst h 1 (v := 1) (by decide) dX13_deed_38 ?_
        refine g_ic_ne h 51 (by decide) zf dX13_deed_39 ?_ ?_ <;> clear zf <;> intro zf
        · refine g_iload_n h 2 rfl dX13_deed_51 ?_
          refine g_iconst h 2 (v := 2) (by decide) dX13_deed_52 ?_
          refine g_ic_ne h 65 (by decide) zf dX13_deed_53 ?_ ?_ <;> clear zf <;> intro zf
          · refine g_iload_n h 2 rfl dX13_deed_65 ?_
            refine g_iconst h 3 (v := 3) (by decide) dX13_deed_66 ?_
            refine g_ic_ne h 79 (by decide) zf dX13_deed_67 ?_ ?_ <;> clear zf <;> intro zf
            · refine g_aload_n h 0 rfl dX13_deed_79 ?_
              refine gfX13_16 h (by decide : kd 103 = 11) dX13_deed_80 ?_
              refine g_iload_n h 1 rfl dX13_deed_83 ?_
              refine g_iald h 7 (by decide : kd 104 = 20) (by decide) zf dX13_deed_84 ?_
              clear zf; intro vq6 zf
              refine g_aload_n h 0 rfl dX13_deed_85 ?_
              refine gfX13_108 h (by decide : kd 103 = 11) dX13_deed_86 ?_
              refine g_iconst h 0 (v := 0) (by decide) dX13_deed_89 ?_
              refine g_iald h 186 (by decide : kd 133 = 20) (by decide) zf dX13_deed_90 ?_
              clear zf; intro vq7 zf
              refine g_ic_gt h 98 (by decide) zf dX13_deed_91 ?_ ?_ <;> clear zf <;> intro zf
              · refine g_iconst h 0 (v := 0) (by decide) dX13_deed_98 ?_
                obtain rfl := Option.some.inj zf
                exact g_iret h rfl ⟨rfl, rfl⟩ (Nat.le_refl _) (Nat.le_refl _) dX13_deed_99
              · refine g_iconst h 1 (v := 1) (by decide) dX13_deed_94 ?_
                refine g_goto h 99 (by decide) dX13_deed_95 ?_
                obtain rfl := Option.some.inj zf
                exact g_iret h rfl ⟨rfl, rfl⟩ (Nat.le_refl _) (Nat.le_refl _) dX13_deed_99
            · refine g_aload_n h 0 rfl dX13_deed_70 ?_
              refine gfX13_26 h (by decide : kd 103 = 11) dX13_deed_71 ?_
              refine g_iload_n h 1 rfl dX13_deed_74 ?_
              refine g_iald h 7 (by decide : kd 107 = 20) (by decide) zf dX13_deed_75 ?_
              clear zf; intro vq8 zf
              refine g_goto h 99 (by decide) dX13_deed_76 ?_
              obtain rfl := Option.some.inj zf
              exact g_iret h rfl ⟨rfl, rfl⟩ (Nat.le_refl _) (Nat.le_refl _) dX13_deed_99
          · refine g_aload_n h 0 rfl dX13_deed_56 ?_
            refine gfX13_23 h (by decide : kd 103 = 11) dX13_deed_57 ?_
            refine g_iload_n h 1 rfl dX13_deed_60 ?_
            refine g_iald h 7 (by decide : kd 106 = 20) (by decide) zf dX13_deed_61 ?_
            clear zf; intro vq9 zf
            refine g_goto h 99 (by decide) dX13_deed_62 ?_
            obtain rfl := Option.some.inj zf
            exact g_iret h rfl ⟨rfl, rfl⟩ (Nat.le_refl _) (Nat.le_refl _) dX13_deed_99
        · refine g_aload_n h 0 rfl dX13_deed_42 ?_
          refine gfX13_20 h (by decide : kd 103 = 11) dX13_deed_43 ?_
          refine g_iload_n h 1 rfl dX13_deed_46 ?_
          refine g_iald h 7 (by decide : kd 105 = 20) (by decide) zf dX13_deed_47 ?_
          clear zf; intro vq10 zf
          refine g_goto h 99 (by decide) dX13_deed_48 ?_
          obtain rfl := Option.some.inj zf
          exact g_iret h rfl ⟨rfl, rfl⟩ (Nat.le_refl _) (Nat.le_refl _) dX13_deed_99
      · refine g_aload_n h 0 rfl dX13_deed_28 ?_
        refine gfX13_16 h (by decide : kd 103 = 11) dX13_deed_29 ?_
        refine g_iload_n h 1 rfl dX13_deed_32 ?_
        refine g_iald h 7 (by decide : kd 104 = 20) (by decide) zf dX13_deed_33 ?_
        clear zf; intro vq11 zf
        refine g_goto h 99 (by decide) dX13_deed_34 ?_
        obtain rfl := Option.some.inj zf
        exact g_iret h rfl ⟨rfl, rfl⟩ (Nat.le_refl _) (Nat.le_refl _) dX13_deed_99
    · refine g_iconst h 0 (v := 0) (by decide) dX13_deed_22 ?_
      obtain rfl := Option.some.inj zf
      exact g_iret h rfl ⟨rfl, rfl⟩ (Nat.le_refl _) (Nat.le_refl _) dX13_deed_23

theorem cmX13_deed {l : Launch} {w : WX} {M : Mem} {x1 : Int32} {x2 : Int32} {res : (Int32 × Mem)} (zf : fX13_deed M x1 x2 = some res) : CM l w yX13_deed cX13_deed 3 (some .int) { frames := 2, cells := 0, slots := 0, locals := 44 } 0 0 [rv w 103, .int x1, .int x2] M (Pwi res) := by
  refine CM_of (by decide) (Nat.le_of_ble_eq_true rfl) (fun G hw hl h => ?_)
  subst hw
  exact kX13_deed_e0 h zf

-- X13_isSign
theorem kX13_isSign_e0 {G : GX} (h : OKm G cX13_isSign RX13 2 (some .boolean) { frames := 0, cells := 0, slots := 0, locals := 0 }) {M : Mem} {x1 : Int32} {res : Int32} (zf : fX13_isSign M x1 = some res) : GG G (Qm G (Pri res M) 0 0) 0 0 0 [(0, rv G.1 103), (1, .int x1)] [] M := by
  unfold fX13_isSign at zf
  refine g_aload_n h 0 rfl dX13_isSign_0 ?_
  refine gfX13_174 h (by decide : kd 103 = 11) dX13_isSign_1 ?_
  refine g_nmI zf ?_
  clear zf; intro vq1 zf
  refine g_iconst h 3 (v := 3) (by decide) dX13_isSign_4 ?_
  refine g_ic_ne h 20 (by decide) zf dX13_isSign_5 ?_ ?_ <;> clear zf <;> intro zf
  · refine g_iconst h 0 (v := 0) (by decide) dX13_isSign_20 ?_
    obtain rfl := Option.some.inj zf
    exact g_zret h (by decide) rfl ⟨rfl, rfl⟩ (Nat.le_refl _) (Nat.le_refl _) dX13_isSign_21
  · refine g_aload_n h 0 rfl dX13_isSign_8 ?_
    refine gfX13_171 h (by decide : kd 103 = 11) dX13_isSign_9 ?_
    refine g_nmI zf ?_
    clear zf; intro vq2 zf
    refine g_iload_n h 1 rfl dX13_isSign_12 ?_
    refine g_ic_ne h 20 (by decide) zf dX13_isSign_13 ?_ ?_ <;> clear zf <;> intro zf
    · refine g_iconst h 0 (v := 0) (by decide) dX13_isSign_20 ?_
      obtain rfl := Option.some.inj zf
      exact g_zret h (by decide) rfl ⟨rfl, rfl⟩ (Nat.le_refl _) (Nat.le_refl _) dX13_isSign_21
    · refine g_iconst h 1 (v := 1) (by decide) dX13_isSign_16 ?_
      refine g_goto h 21 (by decide) dX13_isSign_17 ?_
      obtain rfl := Option.some.inj zf
      exact g_zret h (by decide) rfl ⟨rfl, rfl⟩ (Nat.le_refl _) (Nat.le_refl _) dX13_isSign_21

theorem cmX13_isSign {l : Launch} {w : WX} {M : Mem} {x1 : Int32} {res : Int32} (zf : fX13_isSign M x1 = some res) : CM l w yX13_isSign cX13_isSign 2 (some .boolean) { frames := 0, cells := 0, slots := 0, locals := 0 } 0 0 [rv w 103, .int x1] M (Pri res M) := by
  refine CM_of (by decide) (Nat.le_of_ble_eq_true rfl) (fun G hw hl h => ?_)
  subst hw
  exact kX13_isSign_e0 h zf

-- X13_deeper
theorem kX13_deeper_b61 {G : GX} (h : OKm G cX13_deeper RX13 1 none { frames := 1, cells := 0, slots := 0, locals := 21 }) {M : Mem} {s0 : Int32} {res : Mem} (zf : fX13_deeper_b61 M s0 = some res) : GG G (Qm G (Pwv res) 0 0) 0 0 61 [] [.int s0, rv G.1 103] M := by
  unfold fX13_deeper_b61 at zf
  have zf1 := bd_some zf
  clear zf; obtain ⟨Mq3, zq, zf⟩ := zf1
  refine g_callVwv (As := [.int s0]) (rest := []) h ceX13_wrong mlX13_207 imX13_wrong seX13_wrong (by rfl) (kd_lt (by rw [(by decide : kd 103 = 11)]; decide)) (ent_11 (by decide : kd 103 = 11)) rfl rfl ⟨by decide, by decide⟩ ⟨by decide, by decide⟩ rfl dX13_deeper_61 rfl (Nat.le_of_ble_eq_true rfl) (cmX13_wrong zq) ?_
  obtain rfl := Option.some.inj zf
  exact g_vret h rfl ⟨rfl, rfl⟩ (Nat.le_refl _) (Nat.le_refl _) dX13_deeper_64

theorem kX13_deeper_b56 {G : GX} (h : OKm G cX13_deeper RX13 1 none { frames := 1, cells := 0, slots := 0, locals := 21 }) {M : Mem} {res : Mem} (zf : fX13_deeper_b56 M = some res) : GG G (Qm G (Pwv res) 0 0) 0 0 56 [] [rv G.1 103] M := by
  unfold fX13_deeper_b56 at zf
  refine g_iconst h 2 (v := 2) (by decide) dX13_deeper_56 ?_
  refine g_goto h 61 (by decide) dX13_deeper_57 ?_
  refine g_sub h [] rfl ?_
  exact kX13_deeper_b61 h zf

theorem kX13_deeper_e0 {G : GX} (h : OKm G cX13_deeper RX13 1 none { frames := 1, cells := 0, slots := 0, locals := 21 }) {M : Mem} {res : Mem} (zf : fX13_deeper M = some res) : GG G (Qm G (Pwv res) 0 0) 0 0 0 [(0, rv G.1 103)] [] M := by
  unfold fX13_deeper at zf
  refine g_aload_n h 0 rfl dX13_deeper_0 ?_
  refine gfX13_242 h (by decide : kd 103 = 11) dX13_deeper_1 ?_
  refine g_nmI zf ?_
  clear zf; intro vq1 zf
  refine g_bipush h 6 (v := 6) (by decide) dX13_deeper_4 ?_
  refine g_ic_ge h 30 (by decide) zf dX13_deeper_6 ?_ ?_ <;> clear zf <;> intro zf
  · refine g_aload_n h 0 rfl dX13_deeper_30 ?_
    refine g_aload_n h 0 rfl dX13_deeper_31 ?_
    refine gfX13_174 h (by decide : kd 103 = 11) dX13_deeper_32 ?_
    refine g_nmI zf ?_
    clear zf; intro vq2 zf
    refine g_iconst h 2 (v := 2) (by decide) dX13_deeper_35 ?_
    refine g_ic_eq h 56 (by decide) zf dX13_deeper_36 ?_ ?_ <;> clear zf <;> intro zf
    · refine g_sub h [] rfl ?_
      exact kX13_deeper_b56 h zf
    · refine g_aload_n h 0 rfl dX13_deeper_39 ?_
      refine gfX13_174 h (by decide : kd 103 = 11) dX13_deeper_40 ?_
      refine g_nmI zf ?_
      clear zf; intro vq4 zf
      refine g_iconst h 1 (v := 1) (by decide) dX13_deeper_43 ?_
      refine g_ic_eq h 56 (by decide) zf dX13_deeper_44 ?_ ?_ <;> clear zf <;> intro zf
      · refine g_sub h [] rfl ?_
        exact kX13_deeper_b56 h zf
      · refine g_aload_n h 0 rfl dX13_deeper_47 ?_
        refine g_bipush h 40 (v := 40) (by decide) dX13_deeper_48 ?_
        have zf1 := bd_some zf
        clear zf; obtain ⟨vq5, zq, zf⟩ := zf1
        refine g_callVri (As := [.int 40]) (rest := [rv G.1 103]) h ceX13_isSign mlX13_210 imX13_isSign seX13_isSign (by rfl) (kd_lt (by rw [(by decide : kd 103 = 11)]; decide)) (ent_11 (by decide : kd 103 = 11)) rfl rfl ⟨by decide, by decide⟩ ⟨by decide, by decide⟩ rfl dX13_deeper_50 rfl (Nat.le_of_ble_eq_true rfl) (cmX13_isSign zq) ?_
        refine g_if_eq h 60 (by decide) zf dX13_deeper_53 ?_ ?_ <;> clear zf <;> intro zf
        · refine g_iconst h 1 (v := 1) (by decide) dX13_deeper_60 ?_
          refine g_sub h [] rfl ?_
          exact kX13_deeper_b61 h zf
        · refine g_sub h [] rfl ?_
          exact kX13_deeper_b56 h zf
  · refine g_aload_n h 0 rfl dX13_deeper_9 ?_
    refine g_dup h rfl dX13_deeper_10 ?_
    refine gfX13_242 h (by decide : kd 103 = 11) dX13_deeper_11 ?_
    refine g_nmI zf ?_
    clear zf; intro vq6 zf
    refine g_iconst h 1 (v := 1) (by decide) dX13_deeper_14 ?_
    refine g_iadd h dX13_deeper_15 ?_
    refine pfX13_242 h (by decide : kd 103 = 11) dX13_deeper_16 ?_
    refine g_nmM zf ?_
    clear zf; intro Mq7 zf
    refine g_aload_n h 0 rfl dX13_deeper_19 ?_
    refine gfX13_104 h (by decide : kd 103 = 11) dX13_deeper_20 ?_
    refine g_aload_n h 0 rfl dX13_deeper_23 ?_
    refine gfX13_242 h (by decide : kd 103 = 11) dX13_deeper_24 ?_
    refine g_nmI zf ?_
    clear zf; intro vq8 zf
    refine g_iconst h 0 (v := 0) (by decide) dX13_deeper_27 ?_
    refine g_zast h 9 (by decide : kd 132 = 23) (by decide) zf dX13_deeper_28 ?_
    clear zf; intro Mq9 zf
    obtain rfl := Option.some.inj zf
    exact g_vret h rfl ⟨rfl, rfl⟩ (Nat.le_refl _) (Nat.le_refl _) dX13_deeper_29

theorem cmX13_deeper {l : Launch} {w : WX} {M : Mem} {res : Mem} (zf : fX13_deeper M = some res) : CM l w yX13_deeper cX13_deeper 1 none { frames := 1, cells := 0, slots := 0, locals := 21 } 0 0 [rv w 103] M (Pwv res) := by
  refine CM_of (by decide) (Nat.le_of_ble_eq_true rfl) (fun G hw hl h => ?_)
  subst hw
  exact kX13_deeper_e0 h zf

-- X13_spelled
theorem kX13_spelled_b102 {G : GX} {M : Mem} (h : OKm G cX13_spelled RX13 10 (some .long) { frames := 0, cells := 0, slots := 0, locals := 0 }) {x7 : Int32} {x8 : Int64} {res : Int64} (zf : fX13_spelled_b102 x7 x8 = some res) : GG G (Qm G (Prl res M) 0 0) 0 0 102 [(7, .int x7), (8, .long x8)] [] M := by
  unfold fX13_spelled_b102 at zf
  refine g_iload h 0 rfl dX13_spelled_102 ?_
  refine g_if_eq h 120 (by decide) zf dX13_spelled_104 ?_ ?_ <;> clear zf <;> intro zf
  · refine g_lload h 1 rfl dX13_spelled_120 ?_
    obtain rfl := Option.some.inj zf
    exact g_lret h rfl ⟨rfl, rfl⟩ (Nat.le_refl _) (Nat.le_refl _) dX13_spelled_122
  · refine g_lload h 1 rfl dX13_spelled_107 ?_
    refine g_iconst h 5 (v := 5) (by decide) dX13_spelled_109 ?_
    refine g_lshl h dX13_spelled_110 ?_
    refine g_iload h 0 rfl dX13_spelled_111 ?_
    refine g_bipush h 96 (v := 96) (by decide) dX13_spelled_113 ?_
    refine g_isub h dX13_spelled_115 ?_
    refine g_i2l h dX13_spelled_116 ?_
    refine g_lor h dX13_spelled_117 ?_
    refine g_nmL zf ?_
    clear zf; intro vq2 zf
    refine g_lstore h [(8, .long vq2), (7, .int x7)] (by decide) rfl dX13_spelled_118 ?_
    refine g_lload h 0 rfl dX13_spelled_120 ?_
    obtain rfl := Option.some.inj zf
    exact g_lret h rfl ⟨rfl, rfl⟩ (Nat.le_refl _) (Nat.le_refl _) dX13_spelled_122

theorem kX13_spelled_b84 {G : GX} {M : Mem} (h : OKm G cX13_spelled RX13 10 (some .long) { frames := 0, cells := 0, slots := 0, locals := 0 }) {x6 : Int32} {x7 : Int32} {x8 : Int64} {res : Int64} (zf : fX13_spelled_b84 x6 x7 x8 = some res) : GG G (Qm G (Prl res M) 0 0) 0 0 84 [(6, .int x6), (7, .int x7), (8, .long x8)] [] M := by
  unfold fX13_spelled_b84 at zf
  refine g_iload h 0 rfl dX13_spelled_84 ?_
  refine g_if_eq h 102 (by decide) zf dX13_spelled_86 ?_ ?_ <;> clear zf <;> intro zf
  · refine g_sub h [1, 2] rfl ?_
    exact kX13_spelled_b102 h zf
  · refine g_lload h 2 rfl dX13_spelled_89 ?_
    refine g_iconst h 5 (v := 5) (by decide) dX13_spelled_91 ?_
    refine g_lshl h dX13_spelled_92 ?_
    refine g_iload h 0 rfl dX13_spelled_93 ?_
    refine g_bipush h 96 (v := 96) (by decide) dX13_spelled_95 ?_
    refine g_isub h dX13_spelled_97 ?_
    refine g_i2l h dX13_spelled_98 ?_
    refine g_lor h dX13_spelled_99 ?_
    refine g_nmL zf ?_
    clear zf; intro vq3 zf
    refine g_lstore h [(8, .long vq3), (6, .int x6), (7, .int x7)] (by decide) rfl dX13_spelled_100 ?_
    refine g_sub h [2, 0] rfl ?_
    exact kX13_spelled_b102 h zf

theorem kX13_spelled_b66 {G : GX} {M : Mem} (h : OKm G cX13_spelled RX13 10 (some .long) { frames := 0, cells := 0, slots := 0, locals := 0 }) {x5 : Int32} {x6 : Int32} {x7 : Int32} {x8 : Int64} {res : Int64} (zf : fX13_spelled_b66 x5 x6 x7 x8 = some res) : GG G (Qm G (Prl res M) 0 0) 0 0 66 [(5, .int x5), (6, .int x6), (7, .int x7), (8, .long x8)] [] M := by
  unfold fX13_spelled_b66 at zf
  refine g_iload h 0 rfl dX13_spelled_66 ?_
  refine g_if_eq h 84 (by decide) zf dX13_spelled_68 ?_ ?_ <;> clear zf <;> intro zf
  · refine g_sub h [1, 2, 3] rfl ?_
    exact kX13_spelled_b84 h zf
  · refine g_lload h 3 rfl dX13_spelled_71 ?_
    refine g_iconst h 5 (v := 5) (by decide) dX13_spelled_73 ?_
    refine g_lshl h dX13_spelled_74 ?_
    refine g_iload h 0 rfl dX13_spelled_75 ?_
    refine g_bipush h 96 (v := 96) (by decide) dX13_spelled_77 ?_
    refine g_isub h dX13_spelled_79 ?_
    refine g_i2l h dX13_spelled_80 ?_
    refine g_lor h dX13_spelled_81 ?_
    refine g_nmL zf ?_
    clear zf; intro vq4 zf
    refine g_lstore h [(8, .long vq4), (5, .int x5), (6, .int x6), (7, .int x7)] (by decide) rfl dX13_spelled_82 ?_
    refine g_sub h [2, 3, 0] rfl ?_
    exact kX13_spelled_b84 h zf

theorem kX13_spelled_b48 {G : GX} {M : Mem} (h : OKm G cX13_spelled RX13 10 (some .long) { frames := 0, cells := 0, slots := 0, locals := 0 }) {x4 : Int32} {x5 : Int32} {x6 : Int32} {x7 : Int32} {x8 : Int64} {res : Int64} (zf : fX13_spelled_b48 x4 x5 x6 x7 x8 = some res) : GG G (Qm G (Prl res M) 0 0) 0 0 48 [(4, .int x4), (5, .int x5), (6, .int x6), (7, .int x7), (8, .long x8)] [] M := by
  unfold fX13_spelled_b48 at zf
  refine g_iload h 0 rfl dX13_spelled_48 ?_
  refine g_if_eq h 66 (by decide) zf dX13_spelled_50 ?_ ?_ <;> clear zf <;> intro zf
  · refine g_sub h [1, 2, 3, 4] rfl ?_
    exact kX13_spelled_b66 h zf
  · refine g_lload h 4 rfl dX13_spelled_53 ?_
    refine g_iconst h 5 (v := 5) (by decide) dX13_spelled_55 ?_
    refine g_lshl h dX13_spelled_56 ?_
    refine g_iload h 0 rfl dX13_spelled_57 ?_
    refine g_bipush h 96 (v := 96) (by decide) dX13_spelled_59 ?_
    refine g_isub h dX13_spelled_61 ?_
    refine g_i2l h dX13_spelled_62 ?_
    refine g_lor h dX13_spelled_63 ?_
    refine g_nmL zf ?_
    clear zf; intro vq5 zf
    refine g_lstore h [(8, .long vq5), (4, .int x4), (5, .int x5), (6, .int x6), (7, .int x7)] (by decide) rfl dX13_spelled_64 ?_
    refine g_sub h [2, 3, 4, 0] rfl ?_
    exact kX13_spelled_b66 h zf

theorem kX13_spelled_b32 {G : GX} {M : Mem} (h : OKm G cX13_spelled RX13 10 (some .long) { frames := 0, cells := 0, slots := 0, locals := 0 }) {x3 : Int32} {x4 : Int32} {x5 : Int32} {x6 : Int32} {x7 : Int32} {x8 : Int64} {res : Int64} (zf : fX13_spelled_b32 x3 x4 x5 x6 x7 x8 = some res) : GG G (Qm G (Prl res M) 0 0) 0 0 32 [(3, .int x3), (4, .int x4), (5, .int x5), (6, .int x6), (7, .int x7), (8, .long x8)] [] M := by
  unfold fX13_spelled_b32 at zf
  refine g_iload_n h 0 rfl dX13_spelled_32 ?_
  refine g_if_eq h 48 (by decide) zf dX13_spelled_33 ?_ ?_ <;> clear zf <;> intro zf
  · refine g_sub h [1, 2, 3, 4, 5] rfl ?_
    exact kX13_spelled_b48 h zf
  · refine g_lload h 5 rfl dX13_spelled_36 ?_
    refine g_iconst h 5 (v := 5) (by decide) dX13_spelled_38 ?_
    refine g_lshl h dX13_spelled_39 ?_
    refine g_iload_n h 0 rfl dX13_spelled_40 ?_
    refine g_bipush h 96 (v := 96) (by decide) dX13_spelled_41 ?_
    refine g_isub h dX13_spelled_43 ?_
    refine g_i2l h dX13_spelled_44 ?_
    refine g_lor h dX13_spelled_45 ?_
    refine g_nmL zf ?_
    clear zf; intro vq6 zf
    refine g_lstore h [(8, .long vq6), (3, .int x3), (4, .int x4), (5, .int x5), (6, .int x6), (7, .int x7)] (by decide) rfl dX13_spelled_46 ?_
    refine g_sub h [2, 3, 4, 5, 0] rfl ?_
    exact kX13_spelled_b48 h zf

theorem kX13_spelled_e0 {G : GX} {M : Mem} (h : OKm G cX13_spelled RX13 10 (some .long) { frames := 0, cells := 0, slots := 0, locals := 0 }) {x0 : Int32} {x1 : Int32} {x2 : Int32} {x3 : Int32} {x4 : Int32} {x5 : Int32} {x6 : Int32} {x7 : Int32} {res : Int64} (zf : fX13_spelled x0 x1 x2 x3 x4 x5 x6 x7 = some res) : GG G (Qm G (Prl res M) 0 0) 0 0 0 [(0, .int x0), (1, .int x1), (2, .int x2), (3, .int x3), (4, .int x4), (5, .int x5), (6, .int x6), (7, .int x7)] [] M := by
  unfold fX13_spelled at zf
  refine g_iload_n h 0 rfl dX13_spelled_0 ?_
  refine g_i2l h dX13_spelled_1 ?_
  refine g_ldc2 h 187 (v := 96) coX13_187 dX13_spelled_2 ?_
  refine g_lsub h dX13_spelled_5 ?_
  refine g_iconst h 5 (v := 5) (by decide) dX13_spelled_6 ?_
  refine g_lshl h dX13_spelled_7 ?_
  refine g_iload_n h 1 rfl dX13_spelled_8 ?_
  refine g_bipush h 96 (v := 96) (by decide) dX13_spelled_9 ?_
  refine g_isub h dX13_spelled_11 ?_
  refine g_i2l h dX13_spelled_12 ?_
  refine g_lor h dX13_spelled_13 ?_
  refine g_nmL zf ?_
  clear zf; intro vq1 zf
  refine g_lstore h [(8, .long vq1), (0, .int x0), (1, .int x1), (2, .int x2), (3, .int x3), (4, .int x4), (5, .int x5), (6, .int x6), (7, .int x7)] (by decide) rfl dX13_spelled_14 ?_
  refine g_iload_n h 3 rfl dX13_spelled_16 ?_
  refine g_if_eq h 32 (by decide) zf dX13_spelled_17 ?_ ?_ <;> clear zf <;> intro zf
  · refine g_sub h [4, 5, 6, 7, 8, 0] rfl ?_
    exact kX13_spelled_b32 h zf
  · refine g_lload h 0 rfl dX13_spelled_20 ?_
    refine g_iconst h 5 (v := 5) (by decide) dX13_spelled_22 ?_
    refine g_lshl h dX13_spelled_23 ?_
    refine g_iload_n h 3 rfl dX13_spelled_24 ?_
    refine g_bipush h 96 (v := 96) (by decide) dX13_spelled_25 ?_
    refine g_isub h dX13_spelled_27 ?_
    refine g_i2l h dX13_spelled_28 ?_
    refine g_lor h dX13_spelled_29 ?_
    refine g_nmL zf ?_
    clear zf; intro vq7 zf
    refine g_lstore h [(8, .long vq7), (0, .int x0), (1, .int x1), (2, .int x2), (3, .int x3), (4, .int x4), (5, .int x5), (6, .int x6), (7, .int x7)] (by decide) rfl dX13_spelled_30 ?_
    refine g_sub h [4, 5, 6, 7, 8, 0] rfl ?_
    exact kX13_spelled_b32 h zf

theorem cmX13_spelled {l : Launch} {w : WX} {M : Mem} {x0 : Int32} {x1 : Int32} {x2 : Int32} {x3 : Int32} {x4 : Int32} {x5 : Int32} {x6 : Int32} {x7 : Int32} {res : Int64} (zf : fX13_spelled x0 x1 x2 x3 x4 x5 x6 x7 = some res) : CM l w yX13_spelled cX13_spelled 10 (some .long) { frames := 0, cells := 0, slots := 0, locals := 0 } 0 0 [.int x0, .int x1, .int x2, .int x3, .int x4, .int x5, .int x6, .int x7] M (Prl res M) := by
  refine CM_of (by decide) (Nat.le_of_ble_eq_true rfl) (fun G hw hl h => ?_)
  subst hw
  exact kX13_spelled_e0 h zf

-- X13_letters
theorem kX13_letters_e0 {G : GX} {M : Mem} (h : OKm G cX13_letters RX13 1 (some .long) { frames := 1, cells := 0, slots := 0, locals := 29 }) {x0 : Int32} {res : Int64} (zf : fX13_letters x0 = some res) : GG G (Qm G (Prl res M) 0 0) 0 0 0 [(0, .int x0)] [] M := by
  unfold fX13_letters at zf
  refine g_iload_n h 0 rfl dX13_letters_0 ?_
  by_cases zx0 : x0 = 0
  · rw [if_pos zx0] at zf
    refine g_tabIn h (off := 99) 100 (by rw [zx0]; decide) (by rw [zx0]; decide) (by rw [zx0]; decide) (by decide) dX13_letters_1 ?_
    refine g_bipush h 119 (v := 119) (by decide) dX13_letters_100 ?_
    refine g_bipush h 97 (v := 97) (by decide) dX13_letters_102 ?_
    refine g_bipush h 108 (v := 108) (by decide) dX13_letters_104 ?_
    refine g_bipush h 108 (v := 108) (by decide) dX13_letters_106 ?_
    refine g_bipush h 115 (v := 115) (by decide) dX13_letters_108 ?_
    refine g_iconst h 0 (v := 0) (by decide) dX13_letters_110 ?_
    refine g_iconst h 0 (v := 0) (by decide) dX13_letters_111 ?_
    refine g_iconst h 0 (v := 0) (by decide) dX13_letters_112 ?_
    have zf1 := bd_some zf
    clear zf; obtain ⟨vq1, zq, zf⟩ := zf1
    refine g_callSrl (As := [.int 119, .int 97, .int 108, .int 108, .int 115, .int 0, .int 0, .int 0]) (rest := []) h ceX13_spelled mlX13_189 smX13_spelled rfl rfl ⟨by decide, by decide⟩ ⟨by decide, by decide⟩ rfl dX13_letters_113 rfl (Nat.le_of_ble_eq_true rfl) (cmX13_spelled zq) ?_
    obtain rfl := Option.some.inj zf
    exact g_lret h rfl ⟨rfl, rfl⟩ (Nat.le_refl _) (Nat.le_refl _) dX13_letters_116
  rw [if_neg zx0] at zf
  have zy0 : x0.toInt ≠ 0 := fun q => zx0 (Int32.toInt_inj.mp (by rw [q]; rfl))
  by_cases zx1 : x0 = 1
  · rw [if_pos zx1] at zf
    refine g_tabIn h (off := 116) 117 (by rw [zx1]; decide) (by rw [zx1]; decide) (by rw [zx1]; decide) (by decide) dX13_letters_1 ?_
    refine g_bipush h 121 (v := 121) (by decide) dX13_letters_117 ?_
    refine g_bipush h 101 (v := 101) (by decide) dX13_letters_119 ?_
    refine g_bipush h 97 (v := 97) (by decide) dX13_letters_121 ?_
    refine g_bipush h 114 (v := 114) (by decide) dX13_letters_123 ?_
    refine g_iconst h 0 (v := 0) (by decide) dX13_letters_125 ?_
    refine g_iconst h 0 (v := 0) (by decide) dX13_letters_126 ?_
    refine g_iconst h 0 (v := 0) (by decide) dX13_letters_127 ?_
    refine g_iconst h 0 (v := 0) (by decide) dX13_letters_128 ?_
    have zf1 := bd_some zf
    clear zf; obtain ⟨vq2, zq, zf⟩ := zf1
    refine g_callSrl (As := [.int 121, .int 101, .int 97, .int 114, .int 0, .int 0, .int 0, .int 0]) (rest := []) h ceX13_spelled mlX13_189 smX13_spelled rfl rfl ⟨by decide, by decide⟩ ⟨by decide, by decide⟩ rfl dX13_letters_129 rfl (Nat.le_of_ble_eq_true rfl) (cmX13_spelled zq) ?_
    obtain rfl := Option.some.inj zf
    exact g_lret h rfl ⟨rfl, rfl⟩ (Nat.le_refl _) (Nat.le_refl _) dX13_letters_132
  rw [if_neg zx1] at zf
  have zy1 : x0.toInt ≠ 1 := fun q => zx1 (Int32.toInt_inj.mp (by rw [q]; rfl))
  by_cases zx2 : x0 = 2
  · rw [if_pos zx2] at zf
    refine g_tabIn h (off := 132) 133 (by rw [zx2]; decide) (by rw [zx2]; decide) (by rw [zx2]; decide) (by decide) dX13_letters_1 ?_
    refine g_bipush h 109 (v := 109) (by decide) dX13_letters_133 ?_
    refine g_bipush h 101 (v := 101) (by decide) dX13_letters_135 ?_
    refine g_bipush h 110 (v := 110) (by decide) dX13_letters_137 ?_
    refine g_iconst h 0 (v := 0) (by decide) dX13_letters_139 ?_
    refine g_iconst h 0 (v := 0) (by decide) dX13_letters_140 ?_
    refine g_iconst h 0 (v := 0) (by decide) dX13_letters_141 ?_
    refine g_iconst h 0 (v := 0) (by decide) dX13_letters_142 ?_
    refine g_iconst h 0 (v := 0) (by decide) dX13_letters_143 ?_
    have zf1 := bd_some zf
    clear zf; obtain ⟨vq3, zq, zf⟩ := zf1
    refine g_callSrl (As := [.int 109, .int 101, .int 110, .int 0, .int 0, .int 0, .int 0, .int 0]) (rest := []) h ceX13_spelled mlX13_189 smX13_spelled rfl rfl ⟨by decide, by decide⟩ ⟨by decide, by decide⟩ rfl dX13_letters_144 rfl (Nat.le_of_ble_eq_true rfl) (cmX13_spelled zq) ?_
    obtain rfl := Option.some.inj zf
    exact g_lret h rfl ⟨rfl, rfl⟩ (Nat.le_refl _) (Nat.le_refl _) dX13_letters_147
  rw [if_neg zx2] at zf
  have zy2 : x0.toInt ≠ 2 := fun q => zx2 (Int32.toInt_inj.mp (by rw [q]; rfl))
  by_cases zx3 : x0 = 3
  · rw [if_pos zx3] at zf
    refine g_tabIn h (off := 147) 148 (by rw [zx3]; decide) (by rw [zx3]; decide) (by rw [zx3]; decide) (by decide) dX13_letters_1 ?_
    refine g_bipush h 115 (v := 115) (by decide) dX13_letters_148 ?_
    refine g_bipush h 116 (v := 116) (by decide) dX13_letters_150 ?_
    refine g_bipush h 111 (v := 111) (by decide) dX13_letters_152 ?_
    refine g_bipush h 114 (v := 114) (by decide) dX13_letters_154 ?_
    refine g_bipush h 101 (v := 101) (by decide) dX13_letters_156 ?_
    refine g_iconst h 0 (v := 0) (by decide) dX13_letters_158 ?_
    refine g_iconst h 0 (v := 0) (by decide) dX13_letters_159 ?_
    refine g_iconst h 0 (v := 0) (by decide) dX13_letters_160 ?_
    have zf1 := bd_some zf
    clear zf; obtain ⟨vq4, zq, zf⟩ := zf1
    refine g_callSrl (As := [.int 115, .int 116, .int 111, .int 114, .int 101, .int 0, .int 0, .int 0]) (rest := []) h ceX13_spelled mlX13_189 smX13_spelled rfl rfl ⟨by decide, by decide⟩ ⟨by decide, by decide⟩ rfl dX13_letters_161 rfl (Nat.le_of_ble_eq_true rfl) (cmX13_spelled zq) ?_
    obtain rfl := Option.some.inj zf
    exact g_lret h rfl ⟨rfl, rfl⟩ (Nat.le_refl _) (Nat.le_refl _) dX13_letters_164
  rw [if_neg zx3] at zf
  have zy3 : x0.toInt ≠ 3 := fun q => zx3 (Int32.toInt_inj.mp (by rw [q]; rfl))
  by_cases zx4 : x0 = 4
  · rw [if_pos zx4] at zf
    refine g_tabIn h (off := 164) 165 (by rw [zx4]; decide) (by rw [zx4]; decide) (by rw [zx4]; decide) (by decide) dX13_letters_1 ?_
    refine g_bipush h 100 (v := 100) (by decide) dX13_letters_165 ?_
    refine g_bipush h 101 (v := 101) (by decide) dX13_letters_167 ?_
    refine g_bipush h 98 (v := 98) (by decide) dX13_letters_169 ?_
    refine g_bipush h 116 (v := 116) (by decide) dX13_letters_171 ?_
    refine g_iconst h 0 (v := 0) (by decide) dX13_letters_173 ?_
    refine g_iconst h 0 (v := 0) (by decide) dX13_letters_174 ?_
    refine g_iconst h 0 (v := 0) (by decide) dX13_letters_175 ?_
    refine g_iconst h 0 (v := 0) (by decide) dX13_letters_176 ?_
    have zf1 := bd_some zf
    clear zf; obtain ⟨vq5, zq, zf⟩ := zf1
    refine g_callSrl (As := [.int 100, .int 101, .int 98, .int 116, .int 0, .int 0, .int 0, .int 0]) (rest := []) h ceX13_spelled mlX13_189 smX13_spelled rfl rfl ⟨by decide, by decide⟩ ⟨by decide, by decide⟩ rfl dX13_letters_177 rfl (Nat.le_of_ble_eq_true rfl) (cmX13_spelled zq) ?_
    obtain rfl := Option.some.inj zf
    exact g_lret h rfl ⟨rfl, rfl⟩ (Nat.le_refl _) (Nat.le_refl _) dX13_letters_180
  rw [if_neg zx4] at zf
  have zy4 : x0.toInt ≠ 4 := fun q => zx4 (Int32.toInt_inj.mp (by rw [q]; rfl))
  by_cases zx5 : x0 = 5
  · rw [if_pos zx5] at zf
    refine g_tabIn h (off := 180) 181 (by rw [zx5]; decide) (by rw [zx5]; decide) (by rw [zx5]; decide) (by decide) dX13_letters_1 ?_
    refine g_bipush h 103 (v := 103) (by decide) dX13_letters_181 ?_
    refine g_bipush h 108 (v := 108) (by decide) dX13_letters_183 ?_
    refine g_bipush h 111 (v := 111) (by decide) dX13_letters_185 ?_
    refine g_bipush h 114 (v := 114) (by decide) dX13_letters_187 ?_
    refine g_bipush h 121 (v := 121) (by decide) dX13_letters_189 ?_
    refine g_iconst h 0 (v := 0) (by decide) dX13_letters_191 ?_
    refine g_iconst h 0 (v := 0) (by decide) dX13_letters_192 ?_
    refine g_iconst h 0 (v := 0) (by decide) dX13_letters_193 ?_
    have zf1 := bd_some zf
    clear zf; obtain ⟨vq6, zq, zf⟩ := zf1
    refine g_callSrl (As := [.int 103, .int 108, .int 111, .int 114, .int 121, .int 0, .int 0, .int 0]) (rest := []) h ceX13_spelled mlX13_189 smX13_spelled rfl rfl ⟨by decide, by decide⟩ ⟨by decide, by decide⟩ rfl dX13_letters_194 rfl (Nat.le_of_ble_eq_true rfl) (cmX13_spelled zq) ?_
    obtain rfl := Option.some.inj zf
    exact g_lret h rfl ⟨rfl, rfl⟩ (Nat.le_refl _) (Nat.le_refl _) dX13_letters_197
  rw [if_neg zx5] at zf
  have zy5 : x0.toInt ≠ 5 := fun q => zx5 (Int32.toInt_inj.mp (by rw [q]; rfl))
  by_cases zx6 : x0 = 6
  · rw [if_pos zx6] at zf
    refine g_tabIn h (off := 197) 198 (by rw [zx6]; decide) (by rw [zx6]; decide) (by rw [zx6]; decide) (by decide) dX13_letters_1 ?_
    refine g_bipush h 114 (v := 114) (by decide) dX13_letters_198 ?_
    refine g_bipush h 117 (v := 117) (by decide) dX13_letters_200 ?_
    refine g_bipush h 108 (v := 108) (by decide) dX13_letters_202 ?_
    refine g_bipush h 101 (v := 101) (by decide) dX13_letters_204 ?_
    refine g_bipush h 115 (v := 115) (by decide) dX13_letters_206 ?_
    refine g_iconst h 0 (v := 0) (by decide) dX13_letters_208 ?_
    refine g_iconst h 0 (v := 0) (by decide) dX13_letters_209 ?_
    refine g_iconst h 0 (v := 0) (by decide) dX13_letters_210 ?_
    have zf1 := bd_some zf
    clear zf; obtain ⟨vq7, zq, zf⟩ := zf1
    refine g_callSrl (As := [.int 114, .int 117, .int 108, .int 101, .int 115, .int 0, .int 0, .int 0]) (rest := []) h ceX13_spelled mlX13_189 smX13_spelled rfl rfl ⟨by decide, by decide⟩ ⟨by decide, by decide⟩ rfl dX13_letters_211 rfl (Nat.le_of_ble_eq_true rfl) (cmX13_spelled zq) ?_
    obtain rfl := Option.some.inj zf
    exact g_lret h rfl ⟨rfl, rfl⟩ (Nat.le_refl _) (Nat.le_refl _) dX13_letters_214
  rw [if_neg zx6] at zf
  have zy6 : x0.toInt ≠ 6 := fun q => zx6 (Int32.toInt_inj.mp (by rw [q]; rfl))
  by_cases zx7 : x0 = 7
  · rw [if_pos zx7] at zf
    refine g_tabIn h (off := 214) 215 (by rw [zx7]; decide) (by rw [zx7]; decide) (by rw [zx7]; decide) (by decide) dX13_letters_1 ?_
    refine g_bipush h 108 (v := 108) (by decide) dX13_letters_215 ?_
    refine g_bipush h 101 (v := 101) (by decide) dX13_letters_217 ?_
    refine g_bipush h 97 (v := 97) (by decide) dX13_letters_219 ?_
    refine g_bipush h 110 (v := 110) (by decide) dX13_letters_221 ?_
    refine g_iconst h 0 (v := 0) (by decide) dX13_letters_223 ?_
    refine g_iconst h 0 (v := 0) (by decide) dX13_letters_224 ?_
    refine g_iconst h 0 (v := 0) (by decide) dX13_letters_225 ?_
    refine g_iconst h 0 (v := 0) (by decide) dX13_letters_226 ?_
    have zf1 := bd_some zf
    clear zf; obtain ⟨vq8, zq, zf⟩ := zf1
    refine g_callSrl (As := [.int 108, .int 101, .int 97, .int 110, .int 0, .int 0, .int 0, .int 0]) (rest := []) h ceX13_spelled mlX13_189 smX13_spelled rfl rfl ⟨by decide, by decide⟩ ⟨by decide, by decide⟩ rfl dX13_letters_227 rfl (Nat.le_of_ble_eq_true rfl) (cmX13_spelled zq) ?_
    obtain rfl := Option.some.inj zf
    exact g_lret h rfl ⟨rfl, rfl⟩ (Nat.le_refl _) (Nat.le_refl _) dX13_letters_230
  rw [if_neg zx7] at zf
  have zy7 : x0.toInt ≠ 7 := fun q => zx7 (Int32.toInt_inj.mp (by rw [q]; rfl))
  by_cases zx8 : x0 = 8
  · rw [if_pos zx8] at zf
    refine g_tabIn h (off := 230) 231 (by rw [zx8]; decide) (by rw [zx8]; decide) (by rw [zx8]; decide) (by decide) dX13_letters_1 ?_
    refine g_bipush h 99 (v := 99) (by decide) dX13_letters_231 ?_
    refine g_bipush h 105 (v := 105) (by decide) dX13_letters_233 ?_
    refine g_bipush h 116 (v := 116) (by decide) dX13_letters_235 ?_
    refine g_bipush h 121 (v := 121) (by decide) dX13_letters_237 ?_
    refine g_iconst h 0 (v := 0) (by decide) dX13_letters_239 ?_
    refine g_iconst h 0 (v := 0) (by decide) dX13_letters_240 ?_
    refine g_iconst h 0 (v := 0) (by decide) dX13_letters_241 ?_
    refine g_iconst h 0 (v := 0) (by decide) dX13_letters_242 ?_
    have zf1 := bd_some zf
    clear zf; obtain ⟨vq9, zq, zf⟩ := zf1
    refine g_callSrl (As := [.int 99, .int 105, .int 116, .int 121, .int 0, .int 0, .int 0, .int 0]) (rest := []) h ceX13_spelled mlX13_189 smX13_spelled rfl rfl ⟨by decide, by decide⟩ ⟨by decide, by decide⟩ rfl dX13_letters_243 rfl (Nat.le_of_ble_eq_true rfl) (cmX13_spelled zq) ?_
    obtain rfl := Option.some.inj zf
    exact g_lret h rfl ⟨rfl, rfl⟩ (Nat.le_refl _) (Nat.le_refl _) dX13_letters_246
  rw [if_neg zx8] at zf
  have zy8 : x0.toInt ≠ 8 := fun q => zx8 (Int32.toInt_inj.mp (by rw [q]; rfl))
  by_cases zx9 : x0 = 9
  · rw [if_pos zx9] at zf
    refine g_tabIn h (off := 246) 247 (by rw [zx9]; decide) (by rw [zx9]; decide) (by rw [zx9]; decide) (by decide) dX13_letters_1 ?_
    refine g_bipush h 100 (v := 100) (by decide) dX13_letters_247 ?_
    refine g_bipush h 101 (v := 101) (by decide) dX13_letters_249 ?_
    refine g_bipush h 101 (v := 101) (by decide) dX13_letters_251 ?_
    refine g_bipush h 100 (v := 100) (by decide) dX13_letters_253 ?_
    refine g_iconst h 0 (v := 0) (by decide) dX13_letters_255 ?_
    refine g_iconst h 0 (v := 0) (by decide) dX13_letters_256 ?_
    refine g_iconst h 0 (v := 0) (by decide) dX13_letters_257 ?_
    refine g_iconst h 0 (v := 0) (by decide) dX13_letters_258 ?_
    have zf1 := bd_some zf
    clear zf; obtain ⟨vq10, zq, zf⟩ := zf1
    refine g_callSrl (As := [.int 100, .int 101, .int 101, .int 100, .int 0, .int 0, .int 0, .int 0]) (rest := []) h ceX13_spelled mlX13_189 smX13_spelled rfl rfl ⟨by decide, by decide⟩ ⟨by decide, by decide⟩ rfl dX13_letters_259 rfl (Nat.le_of_ble_eq_true rfl) (cmX13_spelled zq) ?_
    obtain rfl := Option.some.inj zf
    exact g_lret h rfl ⟨rfl, rfl⟩ (Nat.le_refl _) (Nat.le_refl _) dX13_letters_262
  rw [if_neg zx9] at zf
  have zy9 : x0.toInt ≠ 9 := fun q => zx9 (Int32.toInt_inj.mp (by rw [q]; rfl))
  by_cases zx10 : x0 = 10
  · rw [if_pos zx10] at zf
    refine g_tabIn h (off := 262) 263 (by rw [zx10]; decide) (by rw [zx10]; decide) (by rw [zx10]; decide) (by decide) dX13_letters_1 ?_
    refine g_bipush h 101 (v := 101) (by decide) dX13_letters_263 ?_
    refine g_bipush h 108 (v := 108) (by decide) dX13_letters_265 ?_
    refine g_bipush h 100 (v := 100) (by decide) dX13_letters_267 ?_
    refine g_bipush h 101 (v := 101) (by decide) dX13_letters_269 ?_
    refine g_bipush h 114 (v := 114) (by decide) dX13_letters_271 ?_
    refine g_iconst h 0 (v := 0) (by decide) dX13_letters_273 ?_
    refine g_iconst h 0 (v := 0) (by decide) dX13_letters_274 ?_
    refine g_iconst h 0 (v := 0) (by decide) dX13_letters_275 ?_
    have zf1 := bd_some zf
    clear zf; obtain ⟨vq11, zq, zf⟩ := zf1
    refine g_callSrl (As := [.int 101, .int 108, .int 100, .int 101, .int 114, .int 0, .int 0, .int 0]) (rest := []) h ceX13_spelled mlX13_189 smX13_spelled rfl rfl ⟨by decide, by decide⟩ ⟨by decide, by decide⟩ rfl dX13_letters_276 rfl (Nat.le_of_ble_eq_true rfl) (cmX13_spelled zq) ?_
    obtain rfl := Option.some.inj zf
    exact g_lret h rfl ⟨rfl, rfl⟩ (Nat.le_refl _) (Nat.le_refl _) dX13_letters_279
  rw [if_neg zx10] at zf
  have zy10 : x0.toInt ≠ 10 := fun q => zx10 (Int32.toInt_inj.mp (by rw [q]; rfl))
  by_cases zx11 : x0 = 11
  · rw [if_pos zx11] at zf
    refine g_tabIn h (off := 279) 280 (by rw [zx11]; decide) (by rw [zx11]; decide) (by rw [zx11]; decide) (by decide) dX13_letters_1 ?_
    refine g_bipush h 121 (v := 121) (by decide) dX13_letters_280 ?_
    refine g_bipush h 111 (v := 111) (by decide) dX13_letters_282 ?_
    refine g_bipush h 117 (v := 117) (by decide) dX13_letters_284 ?_
    refine g_bipush h 110 (v := 110) (by decide) dX13_letters_286 ?_
    refine g_bipush h 103 (v := 103) (by decide) dX13_letters_288 ?_
    refine g_bipush h 101 (v := 101) (by decide) dX13_letters_290 ?_
    refine g_bipush h 114 (v := 114) (by decide) dX13_letters_292 ?_
    refine g_iconst h 0 (v := 0) (by decide) dX13_letters_294 ?_
    have zf1 := bd_some zf
    clear zf; obtain ⟨vq12, zq, zf⟩ := zf1
    refine g_callSrl (As := [.int 121, .int 111, .int 117, .int 110, .int 103, .int 101, .int 114, .int 0]) (rest := []) h ceX13_spelled mlX13_189 smX13_spelled rfl rfl ⟨by decide, by decide⟩ ⟨by decide, by decide⟩ rfl dX13_letters_295 rfl (Nat.le_of_ble_eq_true rfl) (cmX13_spelled zq) ?_
    obtain rfl := Option.some.inj zf
    exact g_lret h rfl ⟨rfl, rfl⟩ (Nat.le_refl _) (Nat.le_refl _) dX13_letters_298
  rw [if_neg zx11] at zf
  have zy11 : x0.toInt ≠ 11 := fun q => zx11 (Int32.toInt_inj.mp (by rw [q]; rfl))
  by_cases zx12 : x0 = 12
  · rw [if_pos zx12] at zf
    refine g_tabIn h (off := 298) 299 (by rw [zx12]; decide) (by rw [zx12]; decide) (by rw [zx12]; decide) (by decide) dX13_letters_1 ?_
    refine g_bipush h 104 (v := 104) (by decide) dX13_letters_299 ?_
    refine g_bipush h 97 (v := 97) (by decide) dX13_letters_301 ?_
    refine g_bipush h 114 (v := 114) (by decide) dX13_letters_303 ?_
    refine g_bipush h 118 (v := 118) (by decide) dX13_letters_305 ?_
    refine g_bipush h 101 (v := 101) (by decide) dX13_letters_307 ?_
    refine g_bipush h 115 (v := 115) (by decide) dX13_letters_309 ?_
    refine g_bipush h 116 (v := 116) (by decide) dX13_letters_311 ?_
    refine g_bipush h 115 (v := 115) (by decide) dX13_letters_313 ?_
    have zf1 := bd_some zf
    clear zf; obtain ⟨vq13, zq, zf⟩ := zf1
    refine g_callSrl (As := [.int 104, .int 97, .int 114, .int 118, .int 101, .int 115, .int 116, .int 115]) (rest := []) h ceX13_spelled mlX13_189 smX13_spelled rfl rfl ⟨by decide, by decide⟩ ⟨by decide, by decide⟩ rfl dX13_letters_315 rfl (Nat.le_of_ble_eq_true rfl) (cmX13_spelled zq) ?_
    obtain rfl := Option.some.inj zf
    exact g_lret h rfl ⟨rfl, rfl⟩ (Nat.le_refl _) (Nat.le_refl _) dX13_letters_318
  rw [if_neg zx12] at zf
  have zy12 : x0.toInt ≠ 12 := fun q => zx12 (Int32.toInt_inj.mp (by rw [q]; rfl))
  by_cases zx13 : x0 = 13
  · rw [if_pos zx13] at zf
    refine g_tabIn h (off := 318) 319 (by rw [zx13]; decide) (by rw [zx13]; decide) (by rw [zx13]; decide) (by decide) dX13_letters_1 ?_
    refine g_bipush h 116 (v := 116) (by decide) dX13_letters_319 ?_
    refine g_bipush h 101 (v := 101) (by decide) dX13_letters_321 ?_
    refine g_bipush h 114 (v := 114) (by decide) dX13_letters_323 ?_
    refine g_bipush h 109 (v := 109) (by decide) dX13_letters_325 ?_
    refine g_iconst h 0 (v := 0) (by decide) dX13_letters_327 ?_
    refine g_iconst h 0 (v := 0) (by decide) dX13_letters_328 ?_
    refine g_iconst h 0 (v := 0) (by decide) dX13_letters_329 ?_
    refine g_iconst h 0 (v := 0) (by decide) dX13_letters_330 ?_
    have zf1 := bd_some zf
    clear zf; obtain ⟨vq14, zq, zf⟩ := zf1
    refine g_callSrl (As := [.int 116, .int 101, .int 114, .int 109, .int 0, .int 0, .int 0, .int 0]) (rest := []) h ceX13_spelled mlX13_189 smX13_spelled rfl rfl ⟨by decide, by decide⟩ ⟨by decide, by decide⟩ rfl dX13_letters_331 rfl (Nat.le_of_ble_eq_true rfl) (cmX13_spelled zq) ?_
    obtain rfl := Option.some.inj zf
    exact g_lret h rfl ⟨rfl, rfl⟩ (Nat.le_refl _) (Nat.le_refl _) dX13_letters_334
  rw [if_neg zx13] at zf
  have zy13 : x0.toInt ≠ 13 := fun q => zx13 (Int32.toInt_inj.mp (by rw [q]; rfl))
  by_cases zx14 : x0 = 14
  · rw [if_pos zx14] at zf
    refine g_tabIn h (off := 334) 335 (by rw [zx14]; decide) (by rw [zx14]; decide) (by rw [zx14]; decide) (by decide) dX13_letters_1 ?_
    refine g_bipush h 102 (v := 102) (by decide) dX13_letters_335 ?_
    refine g_bipush h 114 (v := 114) (by decide) dX13_letters_337 ?_
    refine g_bipush h 105 (v := 105) (by decide) dX13_letters_339 ?_
    refine g_bipush h 101 (v := 101) (by decide) dX13_letters_341 ?_
    refine g_bipush h 110 (v := 110) (by decide) dX13_letters_343 ?_
    refine g_bipush h 100 (v := 100) (by decide) dX13_letters_345 ?_
    refine g_iconst h 0 (v := 0) (by decide) dX13_letters_347 ?_
    refine g_iconst h 0 (v := 0) (by decide) dX13_letters_348 ?_
    have zf1 := bd_some zf
    clear zf; obtain ⟨vq15, zq, zf⟩ := zf1
    refine g_callSrl (As := [.int 102, .int 114, .int 105, .int 101, .int 110, .int 100, .int 0, .int 0]) (rest := []) h ceX13_spelled mlX13_189 smX13_spelled rfl rfl ⟨by decide, by decide⟩ ⟨by decide, by decide⟩ rfl dX13_letters_349 rfl (Nat.le_of_ble_eq_true rfl) (cmX13_spelled zq) ?_
    obtain rfl := Option.some.inj zf
    exact g_lret h rfl ⟨rfl, rfl⟩ (Nat.le_refl _) (Nat.le_refl _) dX13_letters_352
  rw [if_neg zx14] at zf
  have zy14 : x0.toInt ≠ 14 := fun q => zx14 (Int32.toInt_inj.mp (by rw [q]; rfl))
  by_cases zx15 : x0 = 15
  · rw [if_pos zx15] at zf
    refine g_tabIn h (off := 352) 353 (by rw [zx15]; decide) (by rw [zx15]; decide) (by rw [zx15]; decide) (by decide) dX13_letters_1 ?_
    refine g_bipush h 99 (v := 99) (by decide) dX13_letters_353 ?_
    refine g_bipush h 104 (v := 104) (by decide) dX13_letters_355 ?_
    refine g_bipush h 97 (v := 97) (by decide) dX13_letters_357 ?_
    refine g_bipush h 109 (v := 109) (by decide) dX13_letters_359 ?_
    refine g_bipush h 112 (v := 112) (by decide) dX13_letters_361 ?_
    refine g_bipush h 105 (v := 105) (by decide) dX13_letters_363 ?_
    refine g_bipush h 111 (v := 111) (by decide) dX13_letters_365 ?_
    refine g_bipush h 110 (v := 110) (by decide) dX13_letters_367 ?_
    have zf1 := bd_some zf
    clear zf; obtain ⟨vq16, zq, zf⟩ := zf1
    refine g_callSrl (As := [.int 99, .int 104, .int 97, .int 109, .int 112, .int 105, .int 111, .int 110]) (rest := []) h ceX13_spelled mlX13_189 smX13_spelled rfl rfl ⟨by decide, by decide⟩ ⟨by decide, by decide⟩ rfl dX13_letters_369 rfl (Nat.le_of_ble_eq_true rfl) (cmX13_spelled zq) ?_
    obtain rfl := Option.some.inj zf
    exact g_lret h rfl ⟨rfl, rfl⟩ (Nat.le_refl _) (Nat.le_refl _) dX13_letters_372
  rw [if_neg zx15] at zf
  have zy15 : x0.toInt ≠ 15 := fun q => zx15 (Int32.toInt_inj.mp (by rw [q]; rfl))
  by_cases zx16 : x0 = 16
  · rw [if_pos zx16] at zf
    refine g_tabIn h (off := 372) 373 (by rw [zx16]; decide) (by rw [zx16]; decide) (by rw [zx16]; decide) (by decide) dX13_letters_1 ?_
    refine g_bipush h 103 (v := 103) (by decide) dX13_letters_373 ?_
    refine g_bipush h 97 (v := 97) (by decide) dX13_letters_375 ?_
    refine g_bipush h 116 (v := 116) (by decide) dX13_letters_377 ?_
    refine g_bipush h 101 (v := 101) (by decide) dX13_letters_379 ?_
    refine g_iconst h 0 (v := 0) (by decide) dX13_letters_381 ?_
    refine g_iconst h 0 (v := 0) (by decide) dX13_letters_382 ?_
    refine g_iconst h 0 (v := 0) (by decide) dX13_letters_383 ?_
    refine g_iconst h 0 (v := 0) (by decide) dX13_letters_384 ?_
    have zf1 := bd_some zf
    clear zf; obtain ⟨vq17, zq, zf⟩ := zf1
    refine g_callSrl (As := [.int 103, .int 97, .int 116, .int 101, .int 0, .int 0, .int 0, .int 0]) (rest := []) h ceX13_spelled mlX13_189 smX13_spelled rfl rfl ⟨by decide, by decide⟩ ⟨by decide, by decide⟩ rfl dX13_letters_385 rfl (Nat.le_of_ble_eq_true rfl) (cmX13_spelled zq) ?_
    obtain rfl := Option.some.inj zf
    exact g_lret h rfl ⟨rfl, rfl⟩ (Nat.le_refl _) (Nat.le_refl _) dX13_letters_388
  rw [if_neg zx16] at zf
  have zy16 : x0.toInt ≠ 16 := fun q => zx16 (Int32.toInt_inj.mp (by rw [q]; rfl))
  by_cases zx17 : x0 = 17
  · rw [if_pos zx17] at zf
    refine g_tabIn h (off := 388) 389 (by rw [zx17]; decide) (by rw [zx17]; decide) (by rw [zx17]; decide) (by decide) dX13_letters_1 ?_
    refine g_bipush h 115 (v := 115) (by decide) dX13_letters_389 ?_
    refine g_bipush h 116 (v := 116) (by decide) dX13_letters_391 ?_
    refine g_bipush h 97 (v := 97) (by decide) dX13_letters_393 ?_
    refine g_bipush h 121 (v := 121) (by decide) dX13_letters_395 ?_
    refine g_bipush h 115 (v := 115) (by decide) dX13_letters_397 ?_
    refine g_iconst h 0 (v := 0) (by decide) dX13_letters_399 ?_
    refine g_iconst h 0 (v := 0) (by decide) dX13_letters_400 ?_
    refine g_iconst h 0 (v := 0) (by decide) dX13_letters_401 ?_
    have zf1 := bd_some zf
    clear zf; obtain ⟨vq18, zq, zf⟩ := zf1
    refine g_callSrl (As := [.int 115, .int 116, .int 97, .int 121, .int 115, .int 0, .int 0, .int 0]) (rest := []) h ceX13_spelled mlX13_189 smX13_spelled rfl rfl ⟨by decide, by decide⟩ ⟨by decide, by decide⟩ rfl dX13_letters_402 rfl (Nat.le_of_ble_eq_true rfl) (cmX13_spelled zq) ?_
    obtain rfl := Option.some.inj zf
    exact g_lret h rfl ⟨rfl, rfl⟩ (Nat.le_refl _) (Nat.le_refl _) dX13_letters_405
  rw [if_neg zx17] at zf
  have zy17 : x0.toInt ≠ 17 := fun q => zx17 (Int32.toInt_inj.mp (by rw [q]; rfl))
  by_cases zx18 : x0 = 18
  · rw [if_pos zx18] at zf
    refine g_tabIn h (off := 405) 406 (by rw [zx18]; decide) (by rw [zx18]; decide) (by rw [zx18]; decide) (by decide) dX13_letters_1 ?_
    refine g_bipush h 108 (v := 108) (by decide) dX13_letters_406 ?_
    refine g_bipush h 105 (v := 105) (by decide) dX13_letters_408 ?_
    refine g_bipush h 107 (v := 107) (by decide) dX13_letters_410 ?_
    refine g_bipush h 101 (v := 101) (by decide) dX13_letters_412 ?_
    refine g_bipush h 115 (v := 115) (by decide) dX13_letters_414 ?_
    refine g_iconst h 0 (v := 0) (by decide) dX13_letters_416 ?_
    refine g_iconst h 0 (v := 0) (by decide) dX13_letters_417 ?_
    refine g_iconst h 0 (v := 0) (by decide) dX13_letters_418 ?_
    have zf1 := bd_some zf
    clear zf; obtain ⟨vq19, zq, zf⟩ := zf1
    refine g_callSrl (As := [.int 108, .int 105, .int 107, .int 101, .int 115, .int 0, .int 0, .int 0]) (rest := []) h ceX13_spelled mlX13_189 smX13_spelled rfl rfl ⟨by decide, by decide⟩ ⟨by decide, by decide⟩ rfl dX13_letters_419 rfl (Nat.le_of_ble_eq_true rfl) (cmX13_spelled zq) ?_
    obtain rfl := Option.some.inj zf
    exact g_lret h rfl ⟨rfl, rfl⟩ (Nat.le_refl _) (Nat.le_refl _) dX13_letters_422
  rw [if_neg zx18] at zf
  have zy18 : x0.toInt ≠ 18 := fun q => zx18 (Int32.toInt_inj.mp (by rw [q]; rfl))
  by_cases zx19 : x0 = 19
  · rw [if_pos zx19] at zf
    refine g_tabIn h (off := 422) 423 (by rw [zx19]; decide) (by rw [zx19]; decide) (by rw [zx19]; decide) (by decide) dX13_letters_1 ?_
    refine g_bipush h 97 (v := 97) (by decide) dX13_letters_423 ?_
    refine g_bipush h 110 (v := 110) (by decide) dX13_letters_425 ?_
    refine g_bipush h 100 (v := 100) (by decide) dX13_letters_427 ?_
    refine g_iconst h 0 (v := 0) (by decide) dX13_letters_429 ?_
    refine g_iconst h 0 (v := 0) (by decide) dX13_letters_430 ?_
    refine g_iconst h 0 (v := 0) (by decide) dX13_letters_431 ?_
    refine g_iconst h 0 (v := 0) (by decide) dX13_letters_432 ?_
    refine g_iconst h 0 (v := 0) (by decide) dX13_letters_433 ?_
    have zf1 := bd_some zf
    clear zf; obtain ⟨vq20, zq, zf⟩ := zf1
    refine g_callSrl (As := [.int 97, .int 110, .int 100, .int 0, .int 0, .int 0, .int 0, .int 0]) (rest := []) h ceX13_spelled mlX13_189 smX13_spelled rfl rfl ⟨by decide, by decide⟩ ⟨by decide, by decide⟩ rfl dX13_letters_434 rfl (Nat.le_of_ble_eq_true rfl) (cmX13_spelled zq) ?_
    obtain rfl := Option.some.inj zf
    exact g_lret h rfl ⟨rfl, rfl⟩ (Nat.le_refl _) (Nat.le_refl _) dX13_letters_437
  rw [if_neg zx19] at zf
  have zy19 : x0.toInt ≠ 19 := fun q => zx19 (Int32.toInt_inj.mp (by rw [q]; rfl))
  by_cases zx20 : x0 = 20
  · rw [if_pos zx20] at zf
    refine g_tabIn h (off := 437) 438 (by rw [zx20]; decide) (by rw [zx20]; decide) (by rw [zx20]; decide) (by decide) dX13_letters_1 ?_
    refine g_bipush h 111 (v := 111) (by decide) dX13_letters_438 ?_
    refine g_bipush h 114 (v := 114) (by decide) dX13_letters_440 ?_
    refine g_iconst h 0 (v := 0) (by decide) dX13_letters_442 ?_
    refine g_iconst h 0 (v := 0) (by decide) dX13_letters_443 ?_
    refine g_iconst h 0 (v := 0) (by decide) dX13_letters_444 ?_
    refine g_iconst h 0 (v := 0) (by decide) dX13_letters_445 ?_
    refine g_iconst h 0 (v := 0) (by decide) dX13_letters_446 ?_
    refine g_iconst h 0 (v := 0) (by decide) dX13_letters_447 ?_
    have zf1 := bd_some zf
    clear zf; obtain ⟨vq21, zq, zf⟩ := zf1
    refine g_callSrl (As := [.int 111, .int 114, .int 0, .int 0, .int 0, .int 0, .int 0, .int 0]) (rest := []) h ceX13_spelled mlX13_189 smX13_spelled rfl rfl ⟨by decide, by decide⟩ ⟨by decide, by decide⟩ rfl dX13_letters_448 rfl (Nat.le_of_ble_eq_true rfl) (cmX13_spelled zq) ?_
    obtain rfl := Option.some.inj zf
    exact g_lret h rfl ⟨rfl, rfl⟩ (Nat.le_refl _) (Nat.le_refl _) dX13_letters_451
  rw [if_neg zx20] at zf
  have zy20 : x0.toInt ≠ 20 := fun q => zx20 (Int32.toInt_inj.mp (by rw [q]; rfl))
  refine g_tabOut h 452 (by omega) (by decide) dX13_letters_1 ?_
  refine g_bipush h 110 (v := 110) (by decide) dX13_letters_452 ?_
  refine g_bipush h 111 (v := 111) (by decide) dX13_letters_454 ?_
  refine g_bipush h 116 (v := 116) (by decide) dX13_letters_456 ?_
  refine g_iconst h 0 (v := 0) (by decide) dX13_letters_458 ?_
  refine g_iconst h 0 (v := 0) (by decide) dX13_letters_459 ?_
  refine g_iconst h 0 (v := 0) (by decide) dX13_letters_460 ?_
  refine g_iconst h 0 (v := 0) (by decide) dX13_letters_461 ?_
  refine g_iconst h 0 (v := 0) (by decide) dX13_letters_462 ?_
  have zf1 := bd_some zf
  clear zf; obtain ⟨vq22, zq, zf⟩ := zf1
  refine g_callSrl (As := [.int 110, .int 111, .int 116, .int 0, .int 0, .int 0, .int 0, .int 0]) (rest := []) h ceX13_spelled mlX13_189 smX13_spelled rfl rfl ⟨by decide, by decide⟩ ⟨by decide, by decide⟩ rfl dX13_letters_463 rfl (Nat.le_of_ble_eq_true rfl) (cmX13_spelled zq) ?_
  obtain rfl := Option.some.inj zf
  exact g_lret h rfl ⟨rfl, rfl⟩ (Nat.le_refl _) (Nat.le_refl _) dX13_letters_466

theorem cmX13_letters {l : Launch} {w : WX} {M : Mem} {x0 : Int32} {res : Int64} (zf : fX13_letters x0 = some res) : CM l w yX13_letters cX13_letters 1 (some .long) { frames := 1, cells := 0, slots := 0, locals := 29 } 0 0 [.int x0] M (Prl res M) := by
  refine CM_of (by decide) (Nat.le_of_ble_eq_true rfl) (fun G hw hl h => ?_)
  subst hw
  exact kX13_letters_e0 h zf

-- X13_knownWord
theorem kX13_knownWord_l21 {G : GX} (h : OKm G cX13_knownWord RX13 2 (some .int) { frames := 2, cells := 0, slots := 0, locals := 49 }) : ∀ (n : Nat) (M : Mem) (x1 : Int32) (res : Int32), fX13_knownWord_l21 n M x1 = some res → GG G (Qm G (Pri res M) 0 0) 0 0 21 [(0, rv G.1 103), (1, .int x1)] [] M := by
  intro n
  induction n with
  | zero => intro M x1 res zf; rw [fX13_knownWord_l21] at zf; cases zf
  | succ n ih =>
    intro M x1 res zf
    rw [fX13_knownWord_l21] at zf
    refine g_iload_n h 1 rfl dX13_knownWord_21 ?_
    refine g_bipush h 22 (v := 22) (by decide) dX13_knownWord_22 ?_
    refine g_ic_ge h 47 (by decide) zf dX13_knownWord_24 ?_ ?_ <;> clear zf <;> intro zf
    · refine g_iconst h (-1) (v := (-1)) (by decide) dX13_knownWord_47 ?_
      obtain rfl := Option.some.inj zf
      exact g_iret h rfl ⟨rfl, rfl⟩ (Nat.le_refl _) (Nat.le_refl _) dX13_knownWord_48
    · refine g_iload_n h 1 rfl dX13_knownWord_27 ?_
      have zf1 := bd_some zf
      clear zf; obtain ⟨vq3, zq, zf⟩ := zf1
      refine g_callSrl (As := [.int x1]) (rest := []) h ceX13_letters mlX13_193 smX13_letters rfl rfl ⟨by decide, by decide⟩ ⟨by decide, by decide⟩ rfl dX13_knownWord_28 rfl (Nat.le_of_ble_eq_true rfl) (cmX13_letters zq) ?_
      refine g_aload_n h 0 rfl dX13_knownWord_31 ?_
      refine gfX13_164 h (by decide : kd 103 = 11) dX13_knownWord_32 ?_
      refine g_nmL zf ?_
      clear zf; intro vq4 zf
      refine g_lcmp h dX13_knownWord_35 ?_
      refine g_if_ne h 41 (by decide) zf dX13_knownWord_36 ?_ ?_ <;> clear zf <;> intro zf
      · refine g_iinc h 1 1 rfl (v := x1 + 1) (congrArg (fun z => x1 + z) (by decide : Int32.ofInt (1) = (1 : Int32))) [(1, .int (x1 + 1)), (0, rv G.1 103)] (by decide) rfl dX13_knownWord_41 ?_
        refine g_nmV zf ?_
        clear zf; intro vq5 zf
        refine g_goto h 21 (by decide) dX13_knownWord_44 ?_
        refine g_sub h [1, 0] rfl ?_
        exact ih _ _ _ zf
      · refine g_iload_n h 1 rfl dX13_knownWord_39 ?_
        obtain rfl := Option.some.inj zf
        exact g_iret h rfl ⟨rfl, rfl⟩ (Nat.le_refl _) (Nat.le_refl _) dX13_knownWord_40

theorem kX13_knownWord_e0 {G : GX} (h : OKm G cX13_knownWord RX13 2 (some .int) { frames := 2, cells := 0, slots := 0, locals := 49 }) {M : Mem} {res : Int32} (zf : fX13_knownWord M = some res) : GG G (Qm G (Pri res M) 0 0) 0 0 0 [(0, rv G.1 103)] [] M := by
  unfold fX13_knownWord at zf
  refine g_aload_n h 0 rfl dX13_knownWord_0 ?_
  refine gfX13_174 h (by decide : kd 103 = 11) dX13_knownWord_1 ?_
  refine g_nmI zf ?_
  clear zf; intro vq1 zf
  refine g_iconst h 1 (v := 1) (by decide) dX13_knownWord_4 ?_
  refine g_ic_ne h 17 (by decide) zf dX13_knownWord_5 ?_ ?_ <;> clear zf <;> intro zf
  · refine g_iconst h (-1) (v := (-1)) (by decide) dX13_knownWord_17 ?_
    obtain rfl := Option.some.inj zf
    exact g_iret h rfl ⟨rfl, rfl⟩ (Nat.le_refl _) (Nat.le_refl _) dX13_knownWord_18
  · refine g_aload_n h 0 rfl dX13_knownWord_8 ?_
    refine gfX13_184 h (by decide : kd 103 = 11) dX13_knownWord_9 ?_
    refine g_nmI zf ?_
    clear zf; intro vq2 zf
    refine g_bipush h 8 (v := 8) (by decide) dX13_knownWord_12 ?_
    refine g_ic_le h 19 (by decide) zf dX13_knownWord_14 ?_ ?_ <;> clear zf <;> intro zf
    · refine g_iconst h 0 (v := 0) (by decide) dX13_knownWord_19 ?_
      refine g_istore_n h rfl [(1, .int 0), (0, rv G.1 103)] (by decide) rfl dX13_knownWord_20 ?_
      refine g_sub h [1, 0] rfl ?_
      exact kX13_knownWord_l21 h _ _ _ _ zf
    · refine g_iconst h (-1) (v := (-1)) (by decide) dX13_knownWord_17 ?_
      obtain rfl := Option.some.inj zf
      exact g_iret h rfl ⟨rfl, rfl⟩ (Nat.le_refl _) (Nat.le_refl _) dX13_knownWord_18

theorem cmX13_knownWord {l : Launch} {w : WX} {M : Mem} {res : Int32} (zf : fX13_knownWord M = some res) : CM l w yX13_knownWord cX13_knownWord 2 (some .int) { frames := 2, cells := 0, slots := 0, locals := 49 } 0 0 [rv w 103] M (Pri res M) := by
  refine CM_of (by decide) (Nat.le_of_ble_eq_true rfl) (fun G hw hl h => ?_)
  subst hw
  exact kX13_knownWord_e0 h zf

-- X13_waitsFor
theorem kX13_waitsFor_e0 {G : GX} (h : OKm G cX13_waitsFor RX13 2 none { frames := 0, cells := 0, slots := 0, locals := 0 }) {M : Mem} {x1 : Int32} {res : Mem} (zf : fX13_waitsFor M x1 = some res) : GG G (Qm G (Pwv res) 0 0) 0 0 0 [(0, rv G.1 103), (1, .int x1)] [] M := by
  unfold fX13_waitsFor at zf
  refine g_aload_n h 0 rfl dX13_waitsFor_0 ?_
  refine gfX13_101 h (by decide : kd 103 = 11) dX13_waitsFor_1 ?_
  refine g_aload_n h 0 rfl dX13_waitsFor_4 ?_
  refine gfX13_220 h (by decide : kd 103 = 11) dX13_waitsFor_5 ?_
  refine g_nmI zf ?_
  clear zf; intro vq1 zf
  refine g_iload_n h 1 rfl dX13_waitsFor_8 ?_
  refine g_iast h 950 (by decide : kd 131 = 20) (by decide) zf dX13_waitsFor_9 ?_
  clear zf; intro Mq2 zf
  refine g_aload_n h 0 rfl dX13_waitsFor_10 ?_
  refine g_dup h rfl dX13_waitsFor_11 ?_
  refine gfX13_220 h (by decide : kd 103 = 11) dX13_waitsFor_12 ?_
  refine g_nmI zf ?_
  clear zf; intro vq3 zf
  refine g_iconst h 1 (v := 1) (by decide) dX13_waitsFor_15 ?_
  refine g_iadd h dX13_waitsFor_16 ?_
  refine pfX13_220 h (by decide : kd 103 = 11) dX13_waitsFor_17 ?_
  refine g_nmM zf ?_
  clear zf; intro Mq4 zf
  obtain rfl := Option.some.inj zf
  exact g_vret h rfl ⟨rfl, rfl⟩ (Nat.le_refl _) (Nat.le_refl _) dX13_waitsFor_20

theorem cmX13_waitsFor {l : Launch} {w : WX} {M : Mem} {x1 : Int32} {res : Mem} (zf : fX13_waitsFor M x1 = some res) : CM l w yX13_waitsFor cX13_waitsFor 2 none { frames := 0, cells := 0, slots := 0, locals := 0 } 0 0 [rv w 103, .int x1] M (Pwv res) := by
  refine CM_of (by decide) (Nat.le_of_ble_eq_true rfl) (fun G hw hl h => ?_)
  subst hw
  exact kX13_waitsFor_e0 h zf

-- X13_part
theorem kX13_part_b97 {G : GX} (h : OKm G cX13_part RX13 2 none { frames := 3, cells := 0, slots := 0, locals := 70 }) {M : Mem} {res : Mem} (zf : fX13_part_b97 M = some res) : GG G (Qm G (Pwv res) 0 0) 0 0 97 [(0, rv G.1 103)] [] M := by
  unfold fX13_part_b97 at zf
  refine g_aload_n h 0 rfl dX13_part_97 ?_
  have zf1 := bd_some zf
  clear zf; obtain ⟨vq5, zq, zf⟩ := zf1
  refine g_callVri (As := []) (rest := []) h ceX13_isGood mlX13_200 imX13_isGood seX13_isGood (by rfl) (kd_lt (by rw [(by decide : kd 103 = 11)]; decide)) (ent_11 (by decide : kd 103 = 11)) rfl rfl ⟨by decide, by decide⟩ ⟨by decide, by decide⟩ rfl dX13_part_98 rfl (Nat.le_of_ble_eq_true rfl) (cmX13_isGood zq) ?_
  refine g_if_eq h 108 (by decide) zf dX13_part_101 ?_ ?_ <;> clear zf <;> intro zf
  · obtain rfl := Option.some.inj zf
    exact g_vret h rfl ⟨rfl, rfl⟩ (Nat.le_refl _) (Nat.le_refl _) dX13_part_108
  · refine g_aload_n h 0 rfl dX13_part_104 ?_
    have zf1 := bd_some zf
    clear zf; obtain ⟨Mq6, zq, zf⟩ := zf1
    refine g_callVwv (As := []) (rest := []) h ceX13_goes mlX13_204 imX13_goes seX13_goes (by rfl) (kd_lt (by rw [(by decide : kd 103 = 11)]; decide)) (ent_11 (by decide : kd 103 = 11)) rfl rfl ⟨by decide, by decide⟩ ⟨by decide, by decide⟩ rfl dX13_part_105 rfl (Nat.le_of_ble_eq_true rfl) (cmX13_goes zq) ?_
    obtain rfl := Option.some.inj zf
    exact g_vret h rfl ⟨rfl, rfl⟩ (Nat.le_refl _) (Nat.le_refl _) dX13_part_108

theorem kX13_part_b79 {G : GX} (h : OKm G cX13_part RX13 2 none { frames := 3, cells := 0, slots := 0, locals := 70 }) {M : Mem} {x1 : Int32} {res : Mem} (zf : fX13_part_b79 M x1 = some res) : GG G (Qm G (Pwv res) 0 0) 0 0 79 [(0, rv G.1 103), (1, .int x1)] [] M := by
  unfold fX13_part_b79 at zf
  refine g_aload_n h 0 rfl dX13_part_79 ?_
  refine g_iconst h 2 (v := 2) (by decide) dX13_part_80 ?_
  have zf1 := bd_some zf
  clear zf; obtain ⟨Mq10, zq, zf⟩ := zf1
  refine g_callVwv (As := [.int 2]) (rest := []) h ceX13_puts mlX13_229 imX13_puts seX13_puts (by rfl) (kd_lt (by rw [(by decide : kd 103 = 11)]; decide)) (ent_11 (by decide : kd 103 = 11)) rfl rfl ⟨by decide, by decide⟩ ⟨by decide, by decide⟩ rfl dX13_part_81 rfl (Nat.le_of_ble_eq_true rfl) (cmX13_puts zq) ?_
  refine g_aload_n h 0 rfl dX13_part_84 ?_
  refine g_iload_n h 1 rfl dX13_part_85 ?_
  have zf1 := bd_some zf
  clear zf; obtain ⟨Mq11, zq, zf⟩ := zf1
  refine g_callVwv (As := [.int x1]) (rest := []) h ceX13_puts mlX13_229 imX13_puts seX13_puts (by rfl) (kd_lt (by rw [(by decide : kd 103 = 11)]; decide)) (ent_11 (by decide : kd 103 = 11)) rfl rfl ⟨by decide, by decide⟩ ⟨by decide, by decide⟩ rfl dX13_part_86 rfl (Nat.le_of_ble_eq_true rfl) (cmX13_puts zq) ?_
  refine g_goto h 97 (by decide) dX13_part_89 ?_
  refine g_sub h [0] rfl ?_
  exact kX13_part_b97 h zf

theorem kX13_part_b74 {G : GX} (h : OKm G cX13_part RX13 2 none { frames := 3, cells := 0, slots := 0, locals := 70 }) {M : Mem} {x1 : Int32} {res : Mem} (zf : fX13_part_b74 M x1 = some res) : GG G (Qm G (Pwv res) 0 0) 0 0 74 [(0, rv G.1 103), (1, .int x1)] [] M := by
  unfold fX13_part_b74 at zf
  refine g_aload_n h 0 rfl dX13_part_74 ?_
  refine g_iconst h 3 (v := 3) (by decide) dX13_part_75 ?_
  have zf1 := bd_some zf
  clear zf; obtain ⟨Mq9, zq, zf⟩ := zf1
  refine g_callVwv (As := [.int 3]) (rest := []) h ceX13_wrong mlX13_207 imX13_wrong seX13_wrong (by rfl) (kd_lt (by rw [(by decide : kd 103 = 11)]; decide)) (ent_11 (by decide : kd 103 = 11)) rfl rfl ⟨by decide, by decide⟩ ⟨by decide, by decide⟩ rfl dX13_part_76 rfl (Nat.le_of_ble_eq_true rfl) (cmX13_wrong zq) ?_
  refine g_sub h [0, 1] rfl ?_
  exact kX13_part_b79 h zf

theorem kX13_part_b29 {G : GX} (h : OKm G cX13_part RX13 2 none { frames := 3, cells := 0, slots := 0, locals := 70 }) {M : Mem} {res : Mem} (zf : fX13_part_b29 M = some res) : GG G (Qm G (Pwv res) 0 0) 0 0 29 [(0, rv G.1 103)] [] M := by
  unfold fX13_part_b29 at zf
  refine g_aload_n h 0 rfl dX13_part_29 ?_
  refine g_iconst h 1 (v := 1) (by decide) dX13_part_30 ?_
  have zf1 := bd_some zf
  clear zf; obtain ⟨Mq14, zq, zf⟩ := zf1
  refine g_callVwv (As := [.int 1]) (rest := []) h ceX13_puts mlX13_229 imX13_puts seX13_puts (by rfl) (kd_lt (by rw [(by decide : kd 103 = 11)]; decide)) (ent_11 (by decide : kd 103 = 11)) rfl rfl ⟨by decide, by decide⟩ ⟨by decide, by decide⟩ rfl dX13_part_31 rfl (Nat.le_of_ble_eq_true rfl) (cmX13_puts zq) ?_
  refine g_aload_n h 0 rfl dX13_part_34 ?_
  refine g_aload_n h 0 rfl dX13_part_35 ?_
  refine gfX13_168 h (by decide : kd 103 = 11) dX13_part_36 ?_
  refine g_nmI zf ?_
  clear zf; intro vq15 zf
  have zf1 := bd_some zf
  clear zf; obtain ⟨Mq16, zq, zf⟩ := zf1
  refine g_callVwv (As := [.int vq15]) (rest := []) h ceX13_puts mlX13_229 imX13_puts seX13_puts (by rfl) (kd_lt (by rw [(by decide : kd 103 = 11)]; decide)) (ent_11 (by decide : kd 103 = 11)) rfl rfl ⟨by decide, by decide⟩ ⟨by decide, by decide⟩ rfl dX13_part_39 rfl (Nat.le_of_ble_eq_true rfl) (cmX13_puts zq) ?_
  refine g_goto h 97 (by decide) dX13_part_42 ?_
  refine g_sub h [0] rfl ?_
  exact kX13_part_b97 h zf

theorem kX13_part_e0 {G : GX} (h : OKm G cX13_part RX13 2 none { frames := 3, cells := 0, slots := 0, locals := 70 }) {M : Mem} {res : Mem} (zf : fX13_part M = some res) : GG G (Qm G (Pwv res) 0 0) 0 0 0 [(0, rv G.1 103)] [] M := by
  unfold fX13_part at zf
  refine g_aload_n h 0 rfl dX13_part_0 ?_
  have zf1 := bd_some zf
  clear zf; obtain ⟨vq1, zq, zf⟩ := zf1
  refine g_callVri (As := []) (rest := []) h ceX13_isGood mlX13_200 imX13_isGood seX13_isGood (by rfl) (kd_lt (by rw [(by decide : kd 103 = 11)]; decide)) (ent_11 (by decide : kd 103 = 11)) rfl rfl ⟨by decide, by decide⟩ ⟨by decide, by decide⟩ rfl dX13_part_1 rfl (Nat.le_of_ble_eq_true rfl) (cmX13_isGood zq) ?_
  refine g_if_ne h 8 (by decide) zf dX13_part_4 ?_ ?_ <;> clear zf <;> intro zf
  · refine g_aload_n h 0 rfl dX13_part_8 ?_
    refine gfX13_174 h (by decide : kd 103 = 11) dX13_part_9 ?_
    refine g_nmI zf ?_
    clear zf; intro vq2 zf
    refine g_iconst h 2 (v := 2) (by decide) dX13_part_12 ?_
    refine g_ic_ne h 45 (by decide) zf dX13_part_13 ?_ ?_ <;> clear zf <;> intro zf
    · refine g_aload_n h 0 rfl dX13_part_45 ?_
      refine gfX13_174 h (by decide : kd 103 = 11) dX13_part_46 ?_
      refine g_nmI zf ?_
      clear zf; intro vq3 zf
      refine g_iconst h 1 (v := 1) (by decide) dX13_part_49 ?_
      refine g_ic_ne h 92 (by decide) zf dX13_part_50 ?_ ?_ <;> clear zf <;> intro zf
      · refine g_aload_n h 0 rfl dX13_part_92 ?_
        refine g_iconst h 1 (v := 1) (by decide) dX13_part_93 ?_
        have zf1 := bd_some zf
        clear zf; obtain ⟨Mq4, zq, zf⟩ := zf1
        refine g_callVwv (As := [.int 1]) (rest := []) h ceX13_wrong mlX13_207 imX13_wrong seX13_wrong (by rfl) (kd_lt (by rw [(by decide : kd 103 = 11)]; decide)) (ent_11 (by decide : kd 103 = 11)) rfl rfl ⟨by decide, by decide⟩ ⟨by decide, by decide⟩ rfl dX13_part_94 rfl (Nat.le_of_ble_eq_true rfl) (cmX13_wrong zq) ?_
        refine g_sub h [0] rfl ?_
        exact kX13_part_b97 h zf
      · refine g_aload_n h 0 rfl dX13_part_53 ?_
        have zf1 := bd_some zf
        clear zf; obtain ⟨vq7, zq, zf⟩ := zf1
        refine g_callVri (As := []) (rest := []) h ceX13_knownWord mlX13_232 imX13_knownWord seX13_knownWord (by rfl) (kd_lt (by rw [(by decide : kd 103 = 11)]; decide)) (ent_11 (by decide : kd 103 = 11)) rfl rfl ⟨by decide, by decide⟩ ⟨by decide, by decide⟩ rfl dX13_part_54 rfl (Nat.le_of_ble_eq_true rfl) (cmX13_knownWord zq) ?_
        refine g_istore_n h rfl [(1, .int vq7), (0, rv G.1 103)] (by decide) rfl dX13_part_57 ?_
        refine g_iload_n h 0 rfl dX13_part_58 ?_
        refine g_aload_n h 1 rfl dX13_part_59 ?_
        refine gfX13_236 h (by decide : kd 103 = 11) dX13_part_60 ?_
        refine g_nmI zf ?_
        clear zf; intro vq8 zf
        refine g_ic_lt h 74 (by decide) zf dX13_part_63 ?_ ?_ <;> clear zf <;> intro zf
        · refine g_sub h [1, 0] rfl ?_
          exact kX13_part_b74 h zf
        · refine g_iload_n h 0 rfl dX13_part_66 ?_
          refine g_aload_n h 1 rfl dX13_part_67 ?_
          refine gfX13_239 h (by decide : kd 103 = 11) dX13_part_68 ?_
          refine g_nmI zf ?_
          clear zf; intro vq12 zf
          refine g_ic_le h 79 (by decide) zf dX13_part_71 ?_ ?_ <;> clear zf <;> intro zf
          · refine g_sub h [1, 0] rfl ?_
            exact kX13_part_b79 h zf
          · refine g_sub h [1, 0] rfl ?_
            exact kX13_part_b74 h zf
    · refine g_aload_n h 0 rfl dX13_part_16 ?_
      refine gfX13_184 h (by decide : kd 103 = 11) dX13_part_17 ?_
      refine g_nmI zf ?_
      clear zf; intro vq13 zf
      refine g_iconst h 4 (v := 4) (by decide) dX13_part_20 ?_
      refine g_ic_le h 29 (by decide) zf dX13_part_21 ?_ ?_ <;> clear zf <;> intro zf
      · refine g_sub h [0] rfl ?_
        exact kX13_part_b29 h zf
      · refine g_aload_n h 0 rfl dX13_part_24 ?_
        refine g_iconst h 2 (v := 2) (by decide) dX13_part_25 ?_
        have zf1 := bd_some zf
        clear zf; obtain ⟨Mq17, zq, zf⟩ := zf1
        refine g_callVwv (As := [.int 2]) (rest := []) h ceX13_wrong mlX13_207 imX13_wrong seX13_wrong (by rfl) (kd_lt (by rw [(by decide : kd 103 = 11)]; decide)) (ent_11 (by decide : kd 103 = 11)) rfl rfl ⟨by decide, by decide⟩ ⟨by decide, by decide⟩ rfl dX13_part_26 rfl (Nat.le_of_ble_eq_true rfl) (cmX13_wrong zq) ?_
        refine g_sub h [0] rfl ?_
        exact kX13_part_b29 h zf
  · obtain rfl := Option.some.inj zf
    exact g_vret h rfl ⟨rfl, rfl⟩ (Nat.le_refl _) (Nat.le_refl _) dX13_part_7

theorem cmX13_part {l : Launch} {w : WX} {M : Mem} {res : Mem} (zf : fX13_part M = some res) : CM l w yX13_part cX13_part 2 none { frames := 3, cells := 0, slots := 0, locals := 70 } 0 0 [rv w 103] M (Pwv res) := by
  refine CM_of (by decide) (Nat.le_of_ble_eq_true rfl) (fun G hw hl h => ?_)
  subst hw
  exact kX13_part_e0 h zf

-- X13_operand
theorem kX13_operand_b120 {G : GX} (h : OKm G cX13_operand RX13 5 none { frames := 4, cells := 0, slots := 0, locals := 91 }) {M : Mem} {res : Mem} (zf : fX13_operand_b120 M = some res) : GG G (Qm G (Pwv res) 0 0) 0 0 120 [(0, rv G.1 103)] [] M := by
  unfold fX13_operand_b120 at zf
  refine g_aload_n h 0 rfl dX13_operand_120 ?_
  have zf1 := bd_some zf
  clear zf; obtain ⟨Mq1, zq, zf⟩ := zf1
  refine g_callVwv (As := []) (rest := []) h ceX13_part mlX13_251 imX13_part seX13_part (by rfl) (kd_lt (by rw [(by decide : kd 103 = 11)]; decide)) (ent_11 (by decide : kd 103 = 11)) rfl rfl ⟨by decide, by decide⟩ ⟨by decide, by decide⟩ rfl dX13_operand_121 rfl (Nat.le_of_ble_eq_true rfl) (cmX13_part zq) ?_
  obtain rfl := Option.some.inj zf
  exact g_vret h rfl ⟨rfl, rfl⟩ (Nat.le_refl _) (Nat.le_refl _) dX13_operand_124

theorem kX13_operand_b117 {G : GX} (h : OKm G cX13_operand RX13 5 none { frames := 4, cells := 0, slots := 0, locals := 91 }) {a4 : Mem → Int32 → Int32 → Option Mem} (zh4 : ∀ (M : Mem) (x2 : Int32) (x3 : Int32) (res : Mem), a4 M x2 x3 = some res → GG G (Qm G (Pwv res) 0 0) 0 0 4 [(0, rv G.1 103), (2, .int x2), (3, .int x3)] [] M) {M : Mem} {x2 : Int32} {x3 : Int32} {res : Mem} (zf : fX13_operand_b117 a4 M x2 x3 = some res) : GG G (Qm G (Pwv res) 0 0) 0 0 117 [(0, rv G.1 103), (2, .int x2), (3, .int x3)] [] M := by
  unfold fX13_operand_b117 at zf
  refine g_goto h 4 (by decide) dX13_operand_117 ?_
  refine g_sub h [0, 1, 2] rfl ?_
  exact zh4 _ _ _ _ zf

theorem kX13_operand_b96 {G : GX} (h : OKm G cX13_operand RX13 5 none { frames := 4, cells := 0, slots := 0, locals := 91 }) {a4 : Mem → Int32 → Int32 → Option Mem} (zh4 : ∀ (M : Mem) (x2 : Int32) (x3 : Int32) (res : Mem), a4 M x2 x3 = some res → GG G (Qm G (Pwv res) 0 0) 0 0 4 [(0, rv G.1 103), (2, .int x2), (3, .int x3)] [] M) {M : Mem} {x2 : Int32} {s0 : Int32} {res : Mem} (zf : fX13_operand_b96 a4 M x2 s0 = some res) : GG G (Qm G (Pwv res) 0 0) 0 0 96 [(0, rv G.1 103), (2, .int x2)] [.int s0] M := by
  unfold fX13_operand_b96 at zf
  refine g_istore_n h rfl [(3, .int s0), (0, rv G.1 103), (2, .int x2)] (by decide) rfl dX13_operand_96 ?_
  refine g_iload_n h 0 rfl dX13_operand_97 ?_
  refine g_if_eq h 117 (by decide) zf dX13_operand_98 ?_ ?_ <;> clear zf <;> intro zf
  · refine g_sub h [1, 2, 0] rfl ?_
    exact kX13_operand_b117 h zh4 zf
  · refine g_aload_n h 1 rfl dX13_operand_101 ?_
    refine g_bipush h 14 (v := 14) (by decide) dX13_operand_102 ?_
    have zf1 := bd_some zf
    clear zf; obtain ⟨Mq5, zq, zf⟩ := zf1
    refine g_callVwv (As := [.int 14]) (rest := []) h ceX13_waitsFor mlX13_245 imX13_waitsFor seX13_waitsFor (by rfl) (kd_lt (by rw [(by decide : kd 103 = 11)]; decide)) (ent_11 (by decide : kd 103 = 11)) rfl rfl ⟨by decide, by decide⟩ ⟨by decide, by decide⟩ rfl dX13_operand_104 rfl (Nat.le_of_ble_eq_true rfl) (cmX13_waitsFor zq) ?_
    refine g_aload_n h 1 rfl dX13_operand_107 ?_
    have zf1 := bd_some zf
    clear zf; obtain ⟨Mq6, zq, zf⟩ := zf1
    refine g_callVwv (As := []) (rest := []) h ceX13_goes mlX13_204 imX13_goes seX13_goes (by rfl) (kd_lt (by rw [(by decide : kd 103 = 11)]; decide)) (ent_11 (by decide : kd 103 = 11)) rfl rfl ⟨by decide, by decide⟩ ⟨by decide, by decide⟩ rfl dX13_operand_108 rfl (Nat.le_of_ble_eq_true rfl) (cmX13_goes zq) ?_
    refine g_aload_n h 1 rfl dX13_operand_111 ?_
    have zf1 := bd_some zf
    clear zf; obtain ⟨Mq7, zq, zf⟩ := zf1
    refine g_callVwv (As := []) (rest := []) h ceX13_deeper mlX13_248 imX13_deeper seX13_deeper (by rfl) (kd_lt (by rw [(by decide : kd 103 = 11)]; decide)) (ent_11 (by decide : kd 103 = 11)) rfl rfl ⟨by decide, by decide⟩ ⟨by decide, by decide⟩ rfl dX13_operand_112 rfl (Nat.le_of_ble_eq_true rfl) (cmX13_deeper zq) ?_
    refine g_iconst h 1 (v := 1) (by decide) dX13_operand_115 ?_
    refine g_istore_n h rfl [(2, .int 1), (3, .int s0), (0, rv G.1 103)] (by decide) rfl dX13_operand_116 ?_
    refine g_sub h [2, 0, 1] rfl ?_
    exact kX13_operand_b117 h zh4 zf

theorem kX13_operand_b95 {G : GX} (h : OKm G cX13_operand RX13 5 none { frames := 4, cells := 0, slots := 0, locals := 91 }) {a4 : Mem → Int32 → Int32 → Option Mem} (zh4 : ∀ (M : Mem) (x2 : Int32) (x3 : Int32) (res : Mem), a4 M x2 x3 = some res → GG G (Qm G (Pwv res) 0 0) 0 0 4 [(0, rv G.1 103), (2, .int x2), (3, .int x3)] [] M) {M : Mem} {x2 : Int32} {res : Mem} (zf : fX13_operand_b95 a4 M x2 = some res) : GG G (Qm G (Pwv res) 0 0) 0 0 95 [(0, rv G.1 103), (2, .int x2)] [] M := by
  unfold fX13_operand_b95 at zf
  refine g_iconst h 0 (v := 0) (by decide) dX13_operand_95 ?_
  refine g_sub h [0, 1] rfl ?_
  exact kX13_operand_b96 h zh4 zf

theorem kX13_operand_b75 {G : GX} (h : OKm G cX13_operand RX13 5 none { frames := 4, cells := 0, slots := 0, locals := 91 }) {a4 : Mem → Int32 → Int32 → Option Mem} (zh4 : ∀ (M : Mem) (x2 : Int32) (x3 : Int32) (res : Mem), a4 M x2 x3 = some res → GG G (Qm G (Pwv res) 0 0) 0 0 4 [(0, rv G.1 103), (2, .int x2), (3, .int x3)] [] M) {M : Mem} {x2 : Int32} {res : Mem} (zf : fX13_operand_b75 a4 M x2 = some res) : GG G (Qm G (Pwv res) 0 0) 0 0 75 [(0, rv G.1 103), (2, .int x2)] [] M := by
  unfold fX13_operand_b75 at zf
  refine g_aload_n h 0 rfl dX13_operand_75 ?_
  have zf1 := bd_some zf
  clear zf; obtain ⟨vq4, zq, zf⟩ := zf1
  refine g_callVri (As := []) (rest := []) h ceX13_isGood mlX13_200 imX13_isGood seX13_isGood (by rfl) (kd_lt (by rw [(by decide : kd 103 = 11)]; decide)) (ent_11 (by decide : kd 103 = 11)) rfl rfl ⟨by decide, by decide⟩ ⟨by decide, by decide⟩ rfl dX13_operand_76 rfl (Nat.le_of_ble_eq_true rfl) (cmX13_isGood zq) ?_
  refine g_if_eq h 95 (by decide) zf dX13_operand_79 ?_ ?_ <;> clear zf <;> intro zf
  · refine g_sub h [0, 1] rfl ?_
    exact kX13_operand_b95 h zh4 zf
  · refine g_aload_n h 0 rfl dX13_operand_82 ?_
    refine g_bipush h 40 (v := 40) (by decide) dX13_operand_83 ?_
    have zf1 := bd_some zf
    clear zf; obtain ⟨vq8, zq, zf⟩ := zf1
    refine g_callVri (As := [.int 40]) (rest := []) h ceX13_isSign mlX13_210 imX13_isSign seX13_isSign (by rfl) (kd_lt (by rw [(by decide : kd 103 = 11)]; decide)) (ent_11 (by decide : kd 103 = 11)) rfl rfl ⟨by decide, by decide⟩ ⟨by decide, by decide⟩ rfl dX13_operand_85 rfl (Nat.le_of_ble_eq_true rfl) (cmX13_isSign zq) ?_
    refine g_if_eq h 95 (by decide) zf dX13_operand_88 ?_ ?_ <;> clear zf <;> intro zf
    · refine g_sub h [0, 1] rfl ?_
      exact kX13_operand_b95 h zh4 zf
    · refine g_iconst h 1 (v := 1) (by decide) dX13_operand_91 ?_
      refine g_goto h 96 (by decide) dX13_operand_92 ?_
      refine g_sub h [0, 1] rfl ?_
      exact kX13_operand_b96 h zh4 zf

theorem kX13_operand_b50 {G : GX} (h : OKm G cX13_operand RX13 5 none { frames := 4, cells := 0, slots := 0, locals := 91 }) {a4 : Mem → Int32 → Int32 → Option Mem} (zh4 : ∀ (M : Mem) (x2 : Int32) (x3 : Int32) (res : Mem), a4 M x2 x3 = some res → GG G (Qm G (Pwv res) 0 0) 0 0 4 [(0, rv G.1 103), (2, .int x2), (3, .int x3)] [] M) {a18 : Mem → Int32 → Int32 → Option Mem} (zh18 : ∀ (M : Mem) (x2 : Int32) (x4 : Int32) (res : Mem), a18 M x2 x4 = some res → GG G (Qm G (Pwv res) 0 0) 0 0 18 [(0, rv G.1 103), (2, .int x2), (4, .int x4)] [] M) {M : Mem} {x2 : Int32} {x4 : Int32} {res : Mem} (zf : fX13_operand_b50 a4 a18 M x2 x4 = some res) : GG G (Qm G (Pwv res) 0 0) 0 0 50 [(0, rv G.1 103), (2, .int x2), (4, .int x4)] [] M := by
  unfold fX13_operand_b50 at zf
  refine g_iinc h 4 2 rfl (v := x4 + 1) (congrArg (fun z => x4 + z) (by decide : Int32.ofInt (1) = (1 : Int32))) [(4, .int (x4 + 1)), (0, rv G.1 103), (2, .int x2)] (by decide) rfl dX13_operand_50 ?_
  refine g_nmV zf ?_
  clear zf; intro vq10 zf
  refine g_aload_n h 1 rfl dX13_operand_53 ?_
  have zf1 := bd_some zf
  clear zf; obtain ⟨vq11, zq, zf⟩ := zf1
  refine g_callVri (As := []) (rest := []) h ceX13_isGood mlX13_200 imX13_isGood seX13_isGood (by rfl) (kd_lt (by rw [(by decide : kd 103 = 11)]; decide)) (ent_11 (by decide : kd 103 = 11)) rfl rfl ⟨by decide, by decide⟩ ⟨by decide, by decide⟩ rfl dX13_operand_54 rfl (Nat.le_of_ble_eq_true rfl) (cmX13_isGood zq) ?_
  refine g_if_ne h 63 (by decide) zf dX13_operand_57 ?_ ?_ <;> clear zf <;> intro zf
  · refine g_aload_n h 1 rfl dX13_operand_63 ?_
    refine g_iconst h 3 (v := 3) (by decide) dX13_operand_64 ?_
    have zf1 := bd_some zf
    clear zf; obtain ⟨Mq12, zq, zf⟩ := zf1
    refine g_callVwv (As := [.int 3]) (rest := []) h ceX13_waitsFor mlX13_245 imX13_waitsFor seX13_waitsFor (by rfl) (kd_lt (by rw [(by decide : kd 103 = 11)]; decide)) (ent_11 (by decide : kd 103 = 11)) rfl rfl ⟨by decide, by decide⟩ ⟨by decide, by decide⟩ rfl dX13_operand_65 rfl (Nat.le_of_ble_eq_true rfl) (cmX13_waitsFor zq) ?_
    refine g_aload_n h 1 rfl dX13_operand_68 ?_
    have zf1 := bd_some zf
    clear zf; obtain ⟨Mq13, zq, zf⟩ := zf1
    refine g_callVwv (As := []) (rest := []) h ceX13_goes mlX13_204 imX13_goes seX13_goes (by rfl) (kd_lt (by rw [(by decide : kd 103 = 11)]; decide)) (ent_11 (by decide : kd 103 = 11)) rfl rfl ⟨by decide, by decide⟩ ⟨by decide, by decide⟩ rfl dX13_operand_69 rfl (Nat.le_of_ble_eq_true rfl) (cmX13_goes zq) ?_
    refine g_goto h 18 (by decide) dX13_operand_72 ?_
    refine g_sub h [1, 2, 0] rfl ?_
    exact zh18 _ _ _ _ zf
  · refine g_goto h 18 (by decide) dX13_operand_60 ?_
    refine g_sub h [1, 2, 0] rfl ?_
    exact zh18 _ _ _ _ zf

theorem kX13_operand_l18 {G : GX} (h : OKm G cX13_operand RX13 5 none { frames := 4, cells := 0, slots := 0, locals := 91 }) {a4 : Mem → Int32 → Int32 → Option Mem} (zh4 : ∀ (M : Mem) (x2 : Int32) (x3 : Int32) (res : Mem), a4 M x2 x3 = some res → GG G (Qm G (Pwv res) 0 0) 0 0 4 [(0, rv G.1 103), (2, .int x2), (3, .int x3)] [] M) : ∀ (n : Nat) (M : Mem) (x2 : Int32) (x4 : Int32) (res : Mem), fX13_operand_l18 a4 n M x2 x4 = some res → GG G (Qm G (Pwv res) 0 0) 0 0 18 [(0, rv G.1 103), (2, .int x2), (4, .int x4)] [] M := by
  intro n
  induction n with
  | zero => intro M x2 x4 res zf; rw [fX13_operand_l18] at zf; cases zf
  | succ n ih =>
    intro M x2 x4 res zf
    rw [fX13_operand_l18] at zf
    refine g_aload_n h 0 rfl dX13_operand_18 ?_
    have zf1 := bd_some zf
    clear zf; obtain ⟨vq3, zq, zf⟩ := zf1
    refine g_callVri (As := []) (rest := []) h ceX13_isGood mlX13_200 imX13_isGood seX13_isGood (by rfl) (kd_lt (by rw [(by decide : kd 103 = 11)]; decide)) (ent_11 (by decide : kd 103 = 11)) rfl rfl ⟨by decide, by decide⟩ ⟨by decide, by decide⟩ rfl dX13_operand_19 rfl (Nat.le_of_ble_eq_true rfl) (cmX13_isGood zq) ?_
    refine g_if_eq h 75 (by decide) zf dX13_operand_22 ?_ ?_ <;> clear zf <;> intro zf
    · refine g_sub h [0, 1] rfl ?_
      exact kX13_operand_b75 h zh4 zf
    · refine g_iload_n h 1 rfl dX13_operand_25 ?_
      refine g_if_eq h 75 (by decide) zf dX13_operand_26 ?_ ?_ <;> clear zf <;> intro zf
      · refine g_sub h [0, 1] rfl ?_
        exact kX13_operand_b75 h zh4 zf
      · refine g_aload_n h 0 rfl dX13_operand_29 ?_
        have zf1 := bd_some zf
        clear zf; obtain ⟨vq9, zq, zf⟩ := zf1
        refine g_callVri (As := []) (rest := []) h ceX13_knownWord mlX13_232 imX13_knownWord seX13_knownWord (by rfl) (kd_lt (by rw [(by decide : kd 103 = 11)]; decide)) (ent_11 (by decide : kd 103 = 11)) rfl rfl ⟨by decide, by decide⟩ ⟨by decide, by decide⟩ rfl dX13_operand_30 rfl (Nat.le_of_ble_eq_true rfl) (cmX13_knownWord zq) ?_
        refine g_bipush h 21 (v := 21) (by decide) dX13_operand_33 ?_
        refine g_ic_ne h 75 (by decide) zf dX13_operand_35 ?_ ?_ <;> clear zf <;> intro zf
        · refine g_sub h [0, 1] rfl ?_
          exact kX13_operand_b75 h zh4 zf
        · refine g_iload h 2 rfl dX13_operand_38 ?_
          refine g_bipush h 6 (v := 6) (by decide) dX13_operand_40 ?_
          refine g_ic_ne h 50 (by decide) zf dX13_operand_42 ?_ ?_ <;> clear zf <;> intro zf
          · refine g_sub h [0, 1, 2] rfl ?_
            exact kX13_operand_b50 h zh4 ih zf
          · refine g_aload_n h 0 rfl dX13_operand_45 ?_
            refine g_iconst h 2 (v := 2) (by decide) dX13_operand_46 ?_
            have zf1 := bd_some zf
            clear zf; obtain ⟨Mq14, zq, zf⟩ := zf1
            refine g_callVwv (As := [.int 2]) (rest := []) h ceX13_wrong mlX13_207 imX13_wrong seX13_wrong (by rfl) (kd_lt (by rw [(by decide : kd 103 = 11)]; decide)) (ent_11 (by decide : kd 103 = 11)) rfl rfl ⟨by decide, by decide⟩ ⟨by decide, by decide⟩ rfl dX13_operand_47 rfl (Nat.le_of_ble_eq_true rfl) (cmX13_wrong zq) ?_
            refine g_sub h [0, 1, 2] rfl ?_
            exact kX13_operand_b50 h zh4 ih zf

theorem kX13_operand_l4 {G : GX} (h : OKm G cX13_operand RX13 5 none { frames := 4, cells := 0, slots := 0, locals := 91 }) : ∀ (n : Nat) (M : Mem) (x2 : Int32) (x3 : Int32) (res : Mem), fX13_operand_l4 n M x2 x3 = some res → GG G (Qm G (Pwv res) 0 0) 0 0 4 [(0, rv G.1 103), (2, .int x2), (3, .int x3)] [] M := by
  intro n
  induction n with
  | zero => intro M x2 x3 res zf; rw [fX13_operand_l4] at zf; cases zf
  | succ n ih =>
    intro M x2 x3 res zf
    rw [fX13_operand_l4] at zf
    refine g_iload_n h 2 rfl dX13_operand_4 ?_
    refine g_if_eq h 120 (by decide) zf dX13_operand_5 ?_ ?_ <;> clear zf <;> intro zf
    · refine g_sub h [0] rfl ?_
      exact kX13_operand_b120 h zf
    · refine g_aload_n h 0 rfl dX13_operand_8 ?_
      have zf1 := bd_some zf
      clear zf; obtain ⟨vq2, zq, zf⟩ := zf1
      refine g_callVri (As := []) (rest := []) h ceX13_isGood mlX13_200 imX13_isGood seX13_isGood (by rfl) (kd_lt (by rw [(by decide : kd 103 = 11)]; decide)) (ent_11 (by decide : kd 103 = 11)) rfl rfl ⟨by decide, by decide⟩ ⟨by decide, by decide⟩ rfl dX13_operand_9 rfl (Nat.le_of_ble_eq_true rfl) (cmX13_isGood zq) ?_
      refine g_if_eq h 120 (by decide) zf dX13_operand_12 ?_ ?_ <;> clear zf <;> intro zf
      · refine g_sub h [0] rfl ?_
        exact kX13_operand_b120 h zf
      · refine g_iconst h 0 (v := 0) (by decide) dX13_operand_15 ?_
        refine g_istore h [(4, .int 0), (0, rv G.1 103), (2, .int x2), (3, .int x3)] (by decide) rfl dX13_operand_16 ?_
        refine g_sub h [1, 2, 0] rfl ?_
        exact kX13_operand_l18 h ih _ _ _ _ _ zf

theorem kX13_operand_e0 {G : GX} (h : OKm G cX13_operand RX13 5 none { frames := 4, cells := 0, slots := 0, locals := 91 }) {M : Mem} {x1 : Int32} {res : Mem} (zf : fX13_operand M x1 = some res) : GG G (Qm G (Pwv res) 0 0) 0 0 0 [(0, rv G.1 103), (1, .int x1)] [] M := by
  unfold fX13_operand at zf
  refine g_iload_n h 1 rfl dX13_operand_0 ?_
  refine g_istore_n h rfl [(2, .int x1), (0, rv G.1 103), (1, .int x1)] (by decide) rfl dX13_operand_1 ?_
  refine g_iconst h 1 (v := 1) (by decide) dX13_operand_2 ?_
  refine g_istore_n h rfl [(3, .int 1), (2, .int x1), (0, rv G.1 103), (1, .int x1)] (by decide) rfl dX13_operand_3 ?_
  refine g_sub h [2, 1, 0] rfl ?_
  exact kX13_operand_l4 h _ _ _ _ _ zf

theorem cmX13_operand {l : Launch} {w : WX} {M : Mem} {x1 : Int32} {res : Mem} (zf : fX13_operand M x1 = some res) : CM l w yX13_operand cX13_operand 5 none { frames := 4, cells := 0, slots := 0, locals := 91 } 0 0 [rv w 103, .int x1] M (Pwv res) := by
  refine CM_of (by decide) (Nat.le_of_ble_eq_true rfl) (fun G hw hl h => ?_)
  subst hw
  exact kX13_operand_e0 h zf

-- X13_isOpened
theorem kX13_isOpened_b29 {G : GX} (h : OKm G cX13_isOpened RX13 2 (some .boolean) { frames := 1, cells := 0, slots := 0, locals := 20 }) {M : Mem} {x1 : Int32} {res : Int32} (zf : fX13_isOpened_b29 M x1 = some res) : GG G (Qm G (Pri res M) 0 0) 0 0 29 [(1, .int x1)] [] M := by
  unfold fX13_isOpened_b29 at zf
  refine g_iload_n h 0 rfl dX13_isOpened_29 ?_
  refine g_if_lt h 37 (by decide) zf dX13_isOpened_30 ?_ ?_ <;> clear zf <;> intro zf
  · refine g_iconst h 0 (v := 0) (by decide) dX13_isOpened_37 ?_
    obtain rfl := Option.some.inj zf
    exact g_zret h (by decide) rfl ⟨rfl, rfl⟩ (Nat.le_refl _) (Nat.le_refl _) dX13_isOpened_38
  · refine g_iconst h 1 (v := 1) (by decide) dX13_isOpened_33 ?_
    refine g_goto h 38 (by decide) dX13_isOpened_34 ?_
    obtain rfl := Option.some.inj zf
    exact g_zret h (by decide) rfl ⟨rfl, rfl⟩ (Nat.le_refl _) (Nat.le_refl _) dX13_isOpened_38

theorem kX13_isOpened_l7 {G : GX} (h : OKm G cX13_isOpened RX13 2 (some .boolean) { frames := 1, cells := 0, slots := 0, locals := 20 }) : ∀ (n : Nat) (M : Mem) (x1 : Int32) (res : Int32), fX13_isOpened_l7 n M x1 = some res → GG G (Qm G (Pri res M) 0 0) 0 0 7 [(0, rv G.1 103), (1, .int x1)] [] M := by
  intro n
  induction n with
  | zero => intro M x1 res zf; rw [fX13_isOpened_l7] at zf; cases zf
  | succ n ih =>
    intro M x1 res zf
    rw [fX13_isOpened_l7] at zf
    refine g_iload_n h 1 rfl dX13_isOpened_7 ?_
    refine g_if_lt h 29 (by decide) zf dX13_isOpened_8 ?_ ?_ <;> clear zf <;> intro zf
    · refine g_sub h [1] rfl ?_
      exact kX13_isOpened_b29 h zf
    · refine g_aload_n h 0 rfl dX13_isOpened_11 ?_
      refine gfX13_101 h (by decide : kd 103 = 11) dX13_isOpened_12 ?_
      refine g_iload_n h 1 rfl dX13_isOpened_15 ?_
      refine g_iald h 950 (by decide : kd 131 = 20) (by decide) zf dX13_isOpened_16 ?_
      clear zf; intro vq3 zf
      have zf1 := bd_some zf
      clear zf; obtain ⟨vq4, zq, zf⟩ := zf1
      refine g_callSri (As := [.int vq3]) (rest := []) h ceX13_isOpen mlX13_223 smX13_isOpen rfl rfl ⟨by decide, by decide⟩ ⟨by decide, by decide⟩ rfl dX13_isOpened_17 rfl (Nat.le_of_ble_eq_true rfl) (cmX13_isOpen zq) ?_
      refine g_if_ne h 29 (by decide) zf dX13_isOpened_20 ?_ ?_ <;> clear zf <;> intro zf
      · refine g_sub h [1] rfl ?_
        exact kX13_isOpened_b29 h zf
      · refine g_iinc h 1 1 rfl (v := x1 + (-1)) (congrArg (fun z => x1 + z) (by decide : Int32.ofInt (-1) = (-1 : Int32))) [(1, .int (x1 + (-1))), (0, rv G.1 103)] (by decide) rfl dX13_isOpened_23 ?_
        refine g_nmV zf ?_
        clear zf; intro vq5 zf
        refine g_goto h 7 (by decide) dX13_isOpened_26 ?_
        refine g_sub h [1, 0] rfl ?_
        exact ih _ _ _ zf

theorem kX13_isOpened_e0 {G : GX} (h : OKm G cX13_isOpened RX13 2 (some .boolean) { frames := 1, cells := 0, slots := 0, locals := 20 }) {M : Mem} {res : Int32} (zf : fX13_isOpened M = some res) : GG G (Qm G (Pri res M) 0 0) 0 0 0 [(0, rv G.1 103)] [] M := by
  unfold fX13_isOpened at zf
  refine g_aload_n h 0 rfl dX13_isOpened_0 ?_
  refine gfX13_220 h (by decide : kd 103 = 11) dX13_isOpened_1 ?_
  refine g_nmI zf ?_
  clear zf; intro vq1 zf
  refine g_iconst h 1 (v := 1) (by decide) dX13_isOpened_4 ?_
  refine g_isub h dX13_isOpened_5 ?_
  refine g_nmI zf ?_
  clear zf; intro vq2 zf
  refine g_istore_n h rfl [(1, .int vq2), (0, rv G.1 103)] (by decide) rfl dX13_isOpened_6 ?_
  refine g_sub h [1, 0] rfl ?_
  exact kX13_isOpened_l7 h _ _ _ _ zf

theorem cmX13_isOpened {l : Launch} {w : WX} {M : Mem} {res : Int32} (zf : fX13_isOpened M = some res) : CM l w yX13_isOpened cX13_isOpened 2 (some .boolean) { frames := 1, cells := 0, slots := 0, locals := 20 } 0 0 [rv w 103] M (Pri res M) := by
  refine CM_of (by decide) (Nat.le_of_ble_eq_true rfl) (fun G hw hl h => ?_)
  subst hw
  exact kX13_isOpened_e0 h zf

-- X13_expression
theorem kX13_expression_b360 {G : GX} (h : OKm G cX13_expression RX13 5 none { frames := 5, cells := 0, slots := 0, locals := 115 }) {M : Mem} {res : Mem} (zf : fX13_expression_b360 M = some res) : GG G (Qm G (Pwv res) 0 0) 0 0 360 [(0, rv G.1 103)] [] M := by
  unfold fX13_expression_b360 at zf
  refine g_aload_n h 0 rfl dX13_expression_360 ?_
  refine g_iconst h 0 (v := 0) (by decide) dX13_expression_361 ?_
  have zf1 := bd_some zf
  clear zf; obtain ⟨Mq9, zq, zf⟩ := zf1
  refine g_callVwv (As := [.int 0]) (rest := []) h ceX13_drops mlX13_254 imX13_drops seX13_drops (by rfl) (kd_lt (by rw [(by decide : kd 103 = 11)]; decide)) (ent_11 (by decide : kd 103 = 11)) rfl rfl ⟨by decide, by decide⟩ ⟨by decide, by decide⟩ rfl dX13_expression_362 rfl (Nat.le_of_ble_eq_true rfl) (cmX13_drops zq) ?_
  refine g_aload_n h 0 rfl dX13_expression_365 ?_
  refine g_iconst h 0 (v := 0) (by decide) dX13_expression_366 ?_
  have zf1 := bd_some zf
  clear zf; obtain ⟨Mq10, zq, zf⟩ := zf1
  refine g_callVwv (As := [.int 0]) (rest := []) h ceX13_puts mlX13_229 imX13_puts seX13_puts (by rfl) (kd_lt (by rw [(by decide : kd 103 = 11)]; decide)) (ent_11 (by decide : kd 103 = 11)) rfl rfl ⟨by decide, by decide⟩ ⟨by decide, by decide⟩ rfl dX13_expression_367 rfl (Nat.le_of_ble_eq_true rfl) (cmX13_puts zq) ?_
  obtain rfl := Option.some.inj zf
  exact g_vret h rfl ⟨rfl, rfl⟩ (Nat.le_refl _) (Nat.le_refl _) dX13_expression_370

theorem kX13_expression_b340 {G : GX} (h : OKm G cX13_expression RX13 5 none { frames := 5, cells := 0, slots := 0, locals := 115 }) {M : Mem} {res : Mem} (zf : fX13_expression_b340 M = some res) : GG G (Qm G (Pwv res) 0 0) 0 0 340 [(0, rv G.1 103)] [] M := by
  unfold fX13_expression_b340 at zf
  refine g_aload_n h 0 rfl dX13_expression_340 ?_
  have zf1 := bd_some zf
  clear zf; obtain ⟨vq8, zq, zf⟩ := zf1
  refine g_callVri (As := []) (rest := []) h ceX13_isGood mlX13_200 imX13_isGood seX13_isGood (by rfl) (kd_lt (by rw [(by decide : kd 103 = 11)]; decide)) (ent_11 (by decide : kd 103 = 11)) rfl rfl ⟨by decide, by decide⟩ ⟨by decide, by decide⟩ rfl dX13_expression_341 rfl (Nat.le_of_ble_eq_true rfl) (cmX13_isGood zq) ?_
  refine g_if_eq h 360 (by decide) zf dX13_expression_344 ?_ ?_ <;> clear zf <;> intro zf
  · refine g_sub h [0] rfl ?_
    exact kX13_expression_b360 h zf
  · refine g_aload_n h 0 rfl dX13_expression_347 ?_
    refine gfX13_242 h (by decide : kd 103 = 11) dX13_expression_348 ?_
    refine g_nmI zf ?_
    clear zf; intro vq11 zf
    refine g_iconst h 1 (v := 1) (by decide) dX13_expression_351 ?_
    refine g_ic_le h 360 (by decide) zf dX13_expression_352 ?_ ?_ <;> clear zf <;> intro zf
    · refine g_sub h [0] rfl ?_
      exact kX13_expression_b360 h zf
    · refine g_aload_n h 0 rfl dX13_expression_355 ?_
      refine g_iconst h 1 (v := 1) (by decide) dX13_expression_356 ?_
      have zf1 := bd_some zf
      clear zf; obtain ⟨Mq12, zq, zf⟩ := zf1
      refine g_callVwv (As := [.int 1]) (rest := []) h ceX13_wrong mlX13_207 imX13_wrong seX13_wrong (by rfl) (kd_lt (by rw [(by decide : kd 103 = 11)]; decide)) (ent_11 (by decide : kd 103 = 11)) rfl rfl ⟨by decide, by decide⟩ ⟨by decide, by decide⟩ rfl dX13_expression_357 rfl (Nat.le_of_ble_eq_true rfl) (cmX13_wrong zq) ?_
      refine g_sub h [0] rfl ?_
      exact kX13_expression_b360 h zf

theorem kX13_expression_b337 {G : GX} (h : OKm G cX13_expression RX13 5 none { frames := 5, cells := 0, slots := 0, locals := 115 }) {a39 : Mem → Int32 → Option Mem} (zh39 : ∀ (M : Mem) (x3 : Int32) (res : Mem), a39 M x3 = some res → GG G (Qm G (Pwv res) 0 0) 0 0 39 [(0, rv G.1 103), (3, .int x3)] [] M) {M : Mem} {x3 : Int32} {res : Mem} (zf : fX13_expression_b337 a39 M x3 = some res) : GG G (Qm G (Pwv res) 0 0) 0 0 337 [(0, rv G.1 103), (3, .int x3)] [] M := by
  unfold fX13_expression_b337 at zf
  refine g_goto h 39 (by decide) dX13_expression_337 ?_
  refine g_sub h [0, 1] rfl ?_
  exact zh39 _ _ _ zf

theorem kX13_expression_b99 {G : GX} (h : OKm G cX13_expression RX13 5 none { frames := 5, cells := 0, slots := 0, locals := 115 }) {a39 : Mem → Int32 → Option Mem} (zh39 : ∀ (M : Mem) (x3 : Int32) (res : Mem), a39 M x3 = some res → GG G (Qm G (Pwv res) 0 0) 0 0 39 [(0, rv G.1 103), (3, .int x3)] [] M) {M : Mem} {x3 : Int32} {s0 : Int32} {res : Mem} (zf : fX13_expression_b99 a39 M x3 s0 = some res) : GG G (Qm G (Pwv res) 0 0) 0 0 99 [(0, rv G.1 103), (3, .int x3)] [.int s0, rv G.1 103] M := by
  unfold fX13_expression_b99 at zf
  have zf1 := bd_some zf
  clear zf; obtain ⟨Mq16, zq, zf⟩ := zf1
  refine g_callVwv (As := [.int s0]) (rest := []) h ceX13_waitsFor mlX13_245 imX13_waitsFor seX13_waitsFor (by rfl) (kd_lt (by rw [(by decide : kd 103 = 11)]; decide)) (ent_11 (by decide : kd 103 = 11)) rfl rfl ⟨by decide, by decide⟩ ⟨by decide, by decide⟩ rfl dX13_expression_99 rfl (Nat.le_of_ble_eq_true rfl) (cmX13_waitsFor zq) ?_
  refine g_aload_n h 0 rfl dX13_expression_102 ?_
  refine gfX13_104 h (by decide : kd 103 = 11) dX13_expression_103 ?_
  refine g_aload_n h 0 rfl dX13_expression_106 ?_
  refine gfX13_242 h (by decide : kd 103 = 11) dX13_expression_107 ?_
  refine g_nmI zf ?_
  clear zf; intro vq17 zf
  refine g_iconst h 0 (v := 0) (by decide) dX13_expression_110 ?_
  refine g_zast h 9 (by decide : kd 132 = 23) (by decide) zf dX13_expression_111 ?_
  clear zf; intro Mq18 zf
  refine g_aload_n h 0 rfl dX13_expression_112 ?_
  have zf1 := bd_some zf
  clear zf; obtain ⟨Mq19, zq, zf⟩ := zf1
  refine g_callVwv (As := []) (rest := []) h ceX13_goes mlX13_204 imX13_goes seX13_goes (by rfl) (kd_lt (by rw [(by decide : kd 103 = 11)]; decide)) (ent_11 (by decide : kd 103 = 11)) rfl rfl ⟨by decide, by decide⟩ ⟨by decide, by decide⟩ rfl dX13_expression_113 rfl (Nat.le_of_ble_eq_true rfl) (cmX13_goes zq) ?_
  refine g_aload_n h 0 rfl dX13_expression_116 ?_
  refine g_iconst h 1 (v := 1) (by decide) dX13_expression_117 ?_
  have zf1 := bd_some zf
  clear zf; obtain ⟨Mq20, zq, zf⟩ := zf1
  refine g_callVwv (As := [.int 1]) (rest := []) h ceX13_operand mlX13_257 imX13_operand seX13_operand (by rfl) (kd_lt (by rw [(by decide : kd 103 = 11)]; decide)) (ent_11 (by decide : kd 103 = 11)) rfl rfl ⟨by decide, by decide⟩ ⟨by decide, by decide⟩ rfl dX13_expression_118 rfl (Nat.le_of_ble_eq_true rfl) (cmX13_operand zq) ?_
  refine g_goto h 337 (by decide) dX13_expression_121 ?_
  refine g_sub h [0, 1] rfl ?_
  exact kX13_expression_b337 h zh39 zf

theorem kX13_expression_b83 {G : GX} (h : OKm G cX13_expression RX13 5 none { frames := 5, cells := 0, slots := 0, locals := 115 }) {a39 : Mem → Int32 → Option Mem} (zh39 : ∀ (M : Mem) (x3 : Int32) (res : Mem), a39 M x3 = some res → GG G (Qm G (Pwv res) 0 0) 0 0 39 [(0, rv G.1 103), (3, .int x3)] [] M) {M : Mem} {x3 : Int32} {x4 : Int32} {s0 : Int32} {res : Mem} (zf : fX13_expression_b83 a39 M x3 x4 s0 = some res) : GG G (Qm G (Pwv res) 0 0) 0 0 83 [(0, rv G.1 103), (3, .int x3), (4, .int x4)] [.int s0, rv G.1 103] M := by
  unfold fX13_expression_b83 at zf
  have zf1 := bd_some zf
  clear zf; obtain ⟨Mq15, zq, zf⟩ := zf1
  refine g_callVwv (As := [.int s0]) (rest := []) h ceX13_drops mlX13_254 imX13_drops seX13_drops (by rfl) (kd_lt (by rw [(by decide : kd 103 = 11)]; decide)) (ent_11 (by decide : kd 103 = 11)) rfl rfl ⟨by decide, by decide⟩ ⟨by decide, by decide⟩ rfl dX13_expression_83 rfl (Nat.le_of_ble_eq_true rfl) (cmX13_drops zq) ?_
  refine g_aload_n h 0 rfl dX13_expression_86 ?_
  refine g_iload h 2 rfl dX13_expression_87 ?_
  refine g_bipush h 19 (v := 19) (by decide) dX13_expression_89 ?_
  refine g_ic_ne h 98 (by decide) zf dX13_expression_91 ?_ ?_ <;> clear zf <;> intro zf
  · refine g_iconst h 5 (v := 5) (by decide) dX13_expression_98 ?_
    refine g_sub h [0, 1] rfl ?_
    exact kX13_expression_b99 h zh39 zf
  · refine g_iconst h 4 (v := 4) (by decide) dX13_expression_94 ?_
    refine g_goto h 99 (by decide) dX13_expression_95 ?_
    refine g_sub h [0, 1] rfl ?_
    exact kX13_expression_b99 h zh39 zf

theorem kX13_expression_b70 {G : GX} (h : OKm G cX13_expression RX13 5 none { frames := 5, cells := 0, slots := 0, locals := 115 }) {a39 : Mem → Int32 → Option Mem} (zh39 : ∀ (M : Mem) (x3 : Int32) (res : Mem), a39 M x3 = some res → GG G (Qm G (Pwv res) 0 0) 0 0 39 [(0, rv G.1 103), (3, .int x3)] [] M) {M : Mem} {x3 : Int32} {x4 : Int32} {res : Mem} (zf : fX13_expression_b70 a39 M x3 x4 = some res) : GG G (Qm G (Pwv res) 0 0) 0 0 70 [(0, rv G.1 103), (3, .int x3), (4, .int x4)] [] M := by
  unfold fX13_expression_b70 at zf
  refine g_aload_n h 0 rfl dX13_expression_70 ?_
  refine g_iload h 2 rfl dX13_expression_71 ?_
  refine g_bipush h 19 (v := 19) (by decide) dX13_expression_73 ?_
  refine g_ic_ne h 82 (by decide) zf dX13_expression_75 ?_ ?_ <;> clear zf <;> intro zf
  · refine g_iconst h 1 (v := 1) (by decide) dX13_expression_82 ?_
    refine g_sub h [0, 1, 2] rfl ?_
    exact kX13_expression_b83 h zh39 zf
  · refine g_iconst h 2 (v := 2) (by decide) dX13_expression_78 ?_
    refine g_goto h 83 (by decide) dX13_expression_79 ?_
    refine g_sub h [0, 1, 2] rfl ?_
    exact kX13_expression_b83 h zh39 zf

theorem kX13_expression_b241 {G : GX} (h : OKm G cX13_expression RX13 5 none { frames := 5, cells := 0, slots := 0, locals := 115 }) {a39 : Mem → Int32 → Option Mem} (zh39 : ∀ (M : Mem) (x3 : Int32) (res : Mem), a39 M x3 = some res → GG G (Qm G (Pwv res) 0 0) 0 0 39 [(0, rv G.1 103), (3, .int x3)] [] M) {M : Mem} {x3 : Int32} {s0 : Int32} {res : Mem} (zf : fX13_expression_b241 a39 M x3 s0 = some res) : GG G (Qm G (Pwv res) 0 0) 0 0 241 [(0, rv G.1 103), (3, .int x3)] [.int s0, rv G.1 103] M := by
  unfold fX13_expression_b241 at zf
  have zf1 := bd_some zf
  clear zf; obtain ⟨Mq27, zq, zf⟩ := zf1
  refine g_callVwv (As := [.int s0]) (rest := []) h ceX13_waitsFor mlX13_245 imX13_waitsFor seX13_waitsFor (by rfl) (kd_lt (by rw [(by decide : kd 103 = 11)]; decide)) (ent_11 (by decide : kd 103 = 11)) rfl rfl ⟨by decide, by decide⟩ ⟨by decide, by decide⟩ rfl dX13_expression_241 rfl (Nat.le_of_ble_eq_true rfl) (cmX13_waitsFor zq) ?_
  refine g_aload_n h 0 rfl dX13_expression_244 ?_
  have zf1 := bd_some zf
  clear zf; obtain ⟨Mq28, zq, zf⟩ := zf1
  refine g_callVwv (As := []) (rest := []) h ceX13_goes mlX13_204 imX13_goes seX13_goes (by rfl) (kd_lt (by rw [(by decide : kd 103 = 11)]; decide)) (ent_11 (by decide : kd 103 = 11)) rfl rfl ⟨by decide, by decide⟩ ⟨by decide, by decide⟩ rfl dX13_expression_245 rfl (Nat.le_of_ble_eq_true rfl) (cmX13_goes zq) ?_
  refine g_aload_n h 0 rfl dX13_expression_248 ?_
  refine g_iconst h 0 (v := 0) (by decide) dX13_expression_249 ?_
  have zf1 := bd_some zf
  clear zf; obtain ⟨Mq29, zq, zf⟩ := zf1
  refine g_callVwv (As := [.int 0]) (rest := []) h ceX13_operand mlX13_257 imX13_operand seX13_operand (by rfl) (kd_lt (by rw [(by decide : kd 103 = 11)]; decide)) (ent_11 (by decide : kd 103 = 11)) rfl rfl ⟨by decide, by decide⟩ ⟨by decide, by decide⟩ rfl dX13_expression_250 rfl (Nat.le_of_ble_eq_true rfl) (cmX13_operand zq) ?_
  refine g_goto h 337 (by decide) dX13_expression_253 ?_
  refine g_sub h [0, 1] rfl ?_
  exact kX13_expression_b337 h zh39 zf

theorem kX13_expression_b219 {G : GX} (h : OKm G cX13_expression RX13 5 none { frames := 5, cells := 0, slots := 0, locals := 115 }) {a39 : Mem → Int32 → Option Mem} (zh39 : ∀ (M : Mem) (x3 : Int32) (res : Mem), a39 M x3 = some res → GG G (Qm G (Pwv res) 0 0) 0 0 39 [(0, rv G.1 103), (3, .int x3)] [] M) {M : Mem} {x3 : Int32} {res : Mem} (zf : fX13_expression_b219 a39 M x3 = some res) : GG G (Qm G (Pwv res) 0 0) 0 0 219 [(0, rv G.1 103), (3, .int x3)] [] M := by
  unfold fX13_expression_b219 at zf
  refine g_aload_n h 0 rfl dX13_expression_219 ?_
  refine g_iconst h 5 (v := 5) (by decide) dX13_expression_220 ?_
  have zf1 := bd_some zf
  clear zf; obtain ⟨Mq25, zq, zf⟩ := zf1
  refine g_callVwv (As := [.int 5]) (rest := []) h ceX13_drops mlX13_254 imX13_drops seX13_drops (by rfl) (kd_lt (by rw [(by decide : kd 103 = 11)]; decide)) (ent_11 (by decide : kd 103 = 11)) rfl rfl ⟨by decide, by decide⟩ ⟨by decide, by decide⟩ rfl dX13_expression_221 rfl (Nat.le_of_ble_eq_true rfl) (cmX13_drops zq) ?_
  refine g_aload_n h 0 rfl dX13_expression_224 ?_
  refine g_aload_n h 0 rfl dX13_expression_225 ?_
  refine g_bipush h 43 (v := 43) (by decide) dX13_expression_226 ?_
  have zf1 := bd_some zf
  clear zf; obtain ⟨vq26, zq, zf⟩ := zf1
  refine g_callVri (As := [.int 43]) (rest := [rv G.1 103]) h ceX13_isSign mlX13_210 imX13_isSign seX13_isSign (by rfl) (kd_lt (by rw [(by decide : kd 103 = 11)]; decide)) (ent_11 (by decide : kd 103 = 11)) rfl rfl ⟨by decide, by decide⟩ ⟨by decide, by decide⟩ rfl dX13_expression_228 rfl (Nat.le_of_ble_eq_true rfl) (cmX13_isSign zq) ?_
  refine g_if_eq h 239 (by decide) zf dX13_expression_231 ?_ ?_ <;> clear zf <;> intro zf
  · refine g_bipush h 9 (v := 9) (by decide) dX13_expression_239 ?_
    refine g_sub h [0, 1] rfl ?_
    exact kX13_expression_b241 h zh39 zf
  · refine g_bipush h 8 (v := 8) (by decide) dX13_expression_234 ?_
    refine g_goto h 241 (by decide) dX13_expression_236 ?_
    refine g_sub h [0, 1] rfl ?_
    exact kX13_expression_b241 h zh39 zf

theorem kX13_expression_b297 {G : GX} (h : OKm G cX13_expression RX13 5 none { frames := 5, cells := 0, slots := 0, locals := 115 }) {a39 : Mem → Int32 → Option Mem} (zh39 : ∀ (M : Mem) (x3 : Int32) (res : Mem), a39 M x3 = some res → GG G (Qm G (Pwv res) 0 0) 0 0 39 [(0, rv G.1 103), (3, .int x3)] [] M) {M : Mem} {x3 : Int32} {s0 : Int32} {res : Mem} (zf : fX13_expression_b297 a39 M x3 s0 = some res) : GG G (Qm G (Pwv res) 0 0) 0 0 297 [(0, rv G.1 103), (3, .int x3)] [.int s0, rv G.1 103] M := by
  unfold fX13_expression_b297 at zf
  have zf1 := bd_some zf
  clear zf; obtain ⟨Mq34, zq, zf⟩ := zf1
  refine g_callVwv (As := [.int s0]) (rest := []) h ceX13_waitsFor mlX13_245 imX13_waitsFor seX13_waitsFor (by rfl) (kd_lt (by rw [(by decide : kd 103 = 11)]; decide)) (ent_11 (by decide : kd 103 = 11)) rfl rfl ⟨by decide, by decide⟩ ⟨by decide, by decide⟩ rfl dX13_expression_297 rfl (Nat.le_of_ble_eq_true rfl) (cmX13_waitsFor zq) ?_
  refine g_aload_n h 0 rfl dX13_expression_300 ?_
  have zf1 := bd_some zf
  clear zf; obtain ⟨Mq35, zq, zf⟩ := zf1
  refine g_callVwv (As := []) (rest := []) h ceX13_goes mlX13_204 imX13_goes seX13_goes (by rfl) (kd_lt (by rw [(by decide : kd 103 = 11)]; decide)) (ent_11 (by decide : kd 103 = 11)) rfl rfl ⟨by decide, by decide⟩ ⟨by decide, by decide⟩ rfl dX13_expression_301 rfl (Nat.le_of_ble_eq_true rfl) (cmX13_goes zq) ?_
  refine g_aload_n h 0 rfl dX13_expression_304 ?_
  refine g_iconst h 0 (v := 0) (by decide) dX13_expression_305 ?_
  have zf1 := bd_some zf
  clear zf; obtain ⟨Mq36, zq, zf⟩ := zf1
  refine g_callVwv (As := [.int 0]) (rest := []) h ceX13_operand mlX13_257 imX13_operand seX13_operand (by rfl) (kd_lt (by rw [(by decide : kd 103 = 11)]; decide)) (ent_11 (by decide : kd 103 = 11)) rfl rfl ⟨by decide, by decide⟩ ⟨by decide, by decide⟩ rfl dX13_expression_306 rfl (Nat.le_of_ble_eq_true rfl) (cmX13_operand zq) ?_
  refine g_goto h 337 (by decide) dX13_expression_309 ?_
  refine g_sub h [0, 1] rfl ?_
  exact kX13_expression_b337 h zh39 zf

theorem kX13_expression_b274 {G : GX} (h : OKm G cX13_expression RX13 5 none { frames := 5, cells := 0, slots := 0, locals := 115 }) {a39 : Mem → Int32 → Option Mem} (zh39 : ∀ (M : Mem) (x3 : Int32) (res : Mem), a39 M x3 = some res → GG G (Qm G (Pwv res) 0 0) 0 0 39 [(0, rv G.1 103), (3, .int x3)] [] M) {M : Mem} {x3 : Int32} {res : Mem} (zf : fX13_expression_b274 a39 M x3 = some res) : GG G (Qm G (Pwv res) 0 0) 0 0 274 [(0, rv G.1 103), (3, .int x3)] [] M := by
  unfold fX13_expression_b274 at zf
  refine g_aload_n h 0 rfl dX13_expression_274 ?_
  refine g_bipush h 6 (v := 6) (by decide) dX13_expression_275 ?_
  have zf1 := bd_some zf
  clear zf; obtain ⟨Mq32, zq, zf⟩ := zf1
  refine g_callVwv (As := [.int 6]) (rest := []) h ceX13_drops mlX13_254 imX13_drops seX13_drops (by rfl) (kd_lt (by rw [(by decide : kd 103 = 11)]; decide)) (ent_11 (by decide : kd 103 = 11)) rfl rfl ⟨by decide, by decide⟩ ⟨by decide, by decide⟩ rfl dX13_expression_277 rfl (Nat.le_of_ble_eq_true rfl) (cmX13_drops zq) ?_
  refine g_aload_n h 0 rfl dX13_expression_280 ?_
  refine g_aload_n h 0 rfl dX13_expression_281 ?_
  refine g_bipush h 42 (v := 42) (by decide) dX13_expression_282 ?_
  have zf1 := bd_some zf
  clear zf; obtain ⟨vq33, zq, zf⟩ := zf1
  refine g_callVri (As := [.int 42]) (rest := [rv G.1 103]) h ceX13_isSign mlX13_210 imX13_isSign seX13_isSign (by rfl) (kd_lt (by rw [(by decide : kd 103 = 11)]; decide)) (ent_11 (by decide : kd 103 = 11)) rfl rfl ⟨by decide, by decide⟩ ⟨by decide, by decide⟩ rfl dX13_expression_284 rfl (Nat.le_of_ble_eq_true rfl) (cmX13_isSign zq) ?_
  refine g_if_eq h 295 (by decide) zf dX13_expression_287 ?_ ?_ <;> clear zf <;> intro zf
  · refine g_bipush h 11 (v := 11) (by decide) dX13_expression_295 ?_
    refine g_sub h [0, 1] rfl ?_
    exact kX13_expression_b297 h zh39 zf
  · refine g_bipush h 10 (v := 10) (by decide) dX13_expression_290 ?_
    refine g_goto h 297 (by decide) dX13_expression_292 ?_
    refine g_sub h [0, 1] rfl ?_
    exact kX13_expression_b297 h zh39 zf

theorem kX13_expression_b335 {G : GX} (h : OKm G cX13_expression RX13 5 none { frames := 5, cells := 0, slots := 0, locals := 115 }) {a39 : Mem → Int32 → Option Mem} (zh39 : ∀ (M : Mem) (x3 : Int32) (res : Mem), a39 M x3 = some res → GG G (Qm G (Pwv res) 0 0) 0 0 39 [(0, rv G.1 103), (3, .int x3)] [] M) {M : Mem} {res : Mem} (zf : fX13_expression_b335 a39 M = some res) : GG G (Qm G (Pwv res) 0 0) 0 0 335 [(0, rv G.1 103)] [] M := by
  unfold fX13_expression_b335 at zf
  refine g_iconst h 0 (v := 0) (by decide) dX13_expression_335 ?_
  refine g_istore_n h rfl [(3, .int 0), (0, rv G.1 103)] (by decide) rfl dX13_expression_336 ?_
  refine g_sub h [1, 0] rfl ?_
  exact kX13_expression_b337 h zh39 zf

theorem kX13_expression_b201 {G : GX} (h : OKm G cX13_expression RX13 5 none { frames := 5, cells := 0, slots := 0, locals := 115 }) {a39 : Mem → Int32 → Option Mem} (zh39 : ∀ (M : Mem) (x3 : Int32) (res : Mem), a39 M x3 = some res → GG G (Qm G (Pwv res) 0 0) 0 0 39 [(0, rv G.1 103), (3, .int x3)] [] M) {M : Mem} {x3 : Int32} {res : Mem} (zf : fX13_expression_b201 a39 M x3 = some res) : GG G (Qm G (Pwv res) 0 0) 0 0 201 [(0, rv G.1 103), (3, .int x3)] [] M := by
  unfold fX13_expression_b201 at zf
  refine g_aload_n h 0 rfl dX13_expression_201 ?_
  refine g_bipush h 43 (v := 43) (by decide) dX13_expression_202 ?_
  have zf1 := bd_some zf
  clear zf; obtain ⟨vq24, zq, zf⟩ := zf1
  refine g_callVri (As := [.int 43]) (rest := []) h ceX13_isSign mlX13_210 imX13_isSign seX13_isSign (by rfl) (kd_lt (by rw [(by decide : kd 103 = 11)]; decide)) (ent_11 (by decide : kd 103 = 11)) rfl rfl ⟨by decide, by decide⟩ ⟨by decide, by decide⟩ rfl dX13_expression_204 rfl (Nat.le_of_ble_eq_true rfl) (cmX13_isSign zq) ?_
  refine g_if_ne h 219 (by decide) zf dX13_expression_207 ?_ ?_ <;> clear zf <;> intro zf
  · refine g_sub h [0, 1] rfl ?_
    exact kX13_expression_b219 h zh39 zf
  · refine g_aload_n h 0 rfl dX13_expression_210 ?_
    refine g_bipush h 45 (v := 45) (by decide) dX13_expression_211 ?_
    have zf1 := bd_some zf
    clear zf; obtain ⟨vq30, zq, zf⟩ := zf1
    refine g_callVri (As := [.int 45]) (rest := []) h ceX13_isSign mlX13_210 imX13_isSign seX13_isSign (by rfl) (kd_lt (by rw [(by decide : kd 103 = 11)]; decide)) (ent_11 (by decide : kd 103 = 11)) rfl rfl ⟨by decide, by decide⟩ ⟨by decide, by decide⟩ rfl dX13_expression_213 rfl (Nat.le_of_ble_eq_true rfl) (cmX13_isSign zq) ?_
    refine g_if_eq h 256 (by decide) zf dX13_expression_216 ?_ ?_ <;> clear zf <;> intro zf
    · refine g_aload_n h 0 rfl dX13_expression_256 ?_
      refine g_bipush h 42 (v := 42) (by decide) dX13_expression_257 ?_
      have zf1 := bd_some zf
      clear zf; obtain ⟨vq31, zq, zf⟩ := zf1
      refine g_callVri (As := [.int 42]) (rest := []) h ceX13_isSign mlX13_210 imX13_isSign seX13_isSign (by rfl) (kd_lt (by rw [(by decide : kd 103 = 11)]; decide)) (ent_11 (by decide : kd 103 = 11)) rfl rfl ⟨by decide, by decide⟩ ⟨by decide, by decide⟩ rfl dX13_expression_259 rfl (Nat.le_of_ble_eq_true rfl) (cmX13_isSign zq) ?_
      refine g_if_ne h 274 (by decide) zf dX13_expression_262 ?_ ?_ <;> clear zf <;> intro zf
      · refine g_sub h [0, 1] rfl ?_
        exact kX13_expression_b274 h zh39 zf
      · refine g_aload_n h 0 rfl dX13_expression_265 ?_
        refine g_bipush h 47 (v := 47) (by decide) dX13_expression_266 ?_
        have zf1 := bd_some zf
        clear zf; obtain ⟨vq37, zq, zf⟩ := zf1
        refine g_callVri (As := [.int 47]) (rest := []) h ceX13_isSign mlX13_210 imX13_isSign seX13_isSign (by rfl) (kd_lt (by rw [(by decide : kd 103 = 11)]; decide)) (ent_11 (by decide : kd 103 = 11)) rfl rfl ⟨by decide, by decide⟩ ⟨by decide, by decide⟩ rfl dX13_expression_268 rfl (Nat.le_of_ble_eq_true rfl) (cmX13_isSign zq) ?_
        refine g_if_eq h 312 (by decide) zf dX13_expression_271 ?_ ?_ <;> clear zf <;> intro zf
        · refine g_aload_n h 0 rfl dX13_expression_312 ?_
          refine g_bipush h 41 (v := 41) (by decide) dX13_expression_313 ?_
          have zf1 := bd_some zf
          clear zf; obtain ⟨vq38, zq, zf⟩ := zf1
          refine g_callVri (As := [.int 41]) (rest := []) h ceX13_isSign mlX13_210 imX13_isSign seX13_isSign (by rfl) (kd_lt (by rw [(by decide : kd 103 = 11)]; decide)) (ent_11 (by decide : kd 103 = 11)) rfl rfl ⟨by decide, by decide⟩ ⟨by decide, by decide⟩ rfl dX13_expression_315 rfl (Nat.le_of_ble_eq_true rfl) (cmX13_isSign zq) ?_
          refine g_if_eq h 335 (by decide) zf dX13_expression_318 ?_ ?_ <;> clear zf <;> intro zf
          · refine g_sub h [0] rfl ?_
            exact kX13_expression_b335 h zh39 zf
          · refine g_aload_n h 0 rfl dX13_expression_321 ?_
            have zf1 := bd_some zf
            clear zf; obtain ⟨vq39, zq, zf⟩ := zf1
            refine g_callVri (As := []) (rest := []) h ceX13_isOpened mlX13_261 imX13_isOpened seX13_isOpened (by rfl) (kd_lt (by rw [(by decide : kd 103 = 11)]; decide)) (ent_11 (by decide : kd 103 = 11)) rfl rfl ⟨by decide, by decide⟩ ⟨by decide, by decide⟩ rfl dX13_expression_322 rfl (Nat.le_of_ble_eq_true rfl) (cmX13_isOpened zq) ?_
            refine g_if_eq h 335 (by decide) zf dX13_expression_325 ?_ ?_ <;> clear zf <;> intro zf
            · refine g_sub h [0] rfl ?_
              exact kX13_expression_b335 h zh39 zf
            · refine g_aload_n h 0 rfl dX13_expression_328 ?_
              have zf1 := bd_some zf
              clear zf; obtain ⟨Mq40, zq, zf⟩ := zf1
              refine g_callVwv (As := []) (rest := []) h ceX13_closes mlX13_264 imX13_closes seX13_closes (by rfl) (kd_lt (by rw [(by decide : kd 103 = 11)]; decide)) (ent_11 (by decide : kd 103 = 11)) rfl rfl ⟨by decide, by decide⟩ ⟨by decide, by decide⟩ rfl dX13_expression_329 rfl (Nat.le_of_ble_eq_true rfl) (cmX13_closes zq) ?_
              refine g_goto h 337 (by decide) dX13_expression_332 ?_
              refine g_sub h [0, 1] rfl ?_
              exact kX13_expression_b337 h zh39 zf
        · refine g_sub h [0, 1] rfl ?_
          exact kX13_expression_b274 h zh39 zf
    · refine g_sub h [0, 1] rfl ?_
      exact kX13_expression_b219 h zh39 zf

theorem kX13_expression_b176 {G : GX} (h : OKm G cX13_expression RX13 5 none { frames := 5, cells := 0, slots := 0, locals := 115 }) {a39 : Mem → Int32 → Option Mem} (zh39 : ∀ (M : Mem) (x3 : Int32) (res : Mem), a39 M x3 = some res → GG G (Qm G (Pwv res) 0 0) 0 0 39 [(0, rv G.1 103), (3, .int x3)] [] M) {M : Mem} {x3 : Int32} {s0 : Int32} {res : Mem} (zf : fX13_expression_b176 a39 M x3 s0 = some res) : GG G (Qm G (Pwv res) 0 0) 0 0 176 [(0, rv G.1 103), (3, .int x3)] [.int s0, rv G.1 103] M := by
  unfold fX13_expression_b176 at zf
  have zf1 := bd_some zf
  clear zf; obtain ⟨Mq43, zq, zf⟩ := zf1
  refine g_callVwv (As := [.int s0]) (rest := []) h ceX13_waitsFor mlX13_245 imX13_waitsFor seX13_waitsFor (by rfl) (kd_lt (by rw [(by decide : kd 103 = 11)]; decide)) (ent_11 (by decide : kd 103 = 11)) rfl rfl ⟨by decide, by decide⟩ ⟨by decide, by decide⟩ rfl dX13_expression_176 rfl (Nat.le_of_ble_eq_true rfl) (cmX13_waitsFor zq) ?_
  refine g_aload_n h 0 rfl dX13_expression_179 ?_
  refine gfX13_104 h (by decide : kd 103 = 11) dX13_expression_180 ?_
  refine g_aload_n h 0 rfl dX13_expression_183 ?_
  refine gfX13_242 h (by decide : kd 103 = 11) dX13_expression_184 ?_
  refine g_nmI zf ?_
  clear zf; intro vq44 zf
  refine g_iconst h 1 (v := 1) (by decide) dX13_expression_187 ?_
  refine g_zast h 9 (by decide : kd 132 = 23) (by decide) zf dX13_expression_188 ?_
  clear zf; intro Mq45 zf
  refine g_aload_n h 0 rfl dX13_expression_189 ?_
  have zf1 := bd_some zf
  clear zf; obtain ⟨Mq46, zq, zf⟩ := zf1
  refine g_callVwv (As := []) (rest := []) h ceX13_goes mlX13_204 imX13_goes seX13_goes (by rfl) (kd_lt (by rw [(by decide : kd 103 = 11)]; decide)) (ent_11 (by decide : kd 103 = 11)) rfl rfl ⟨by decide, by decide⟩ ⟨by decide, by decide⟩ rfl dX13_expression_190 rfl (Nat.le_of_ble_eq_true rfl) (cmX13_goes zq) ?_
  refine g_aload_n h 0 rfl dX13_expression_193 ?_
  refine g_iconst h 0 (v := 0) (by decide) dX13_expression_194 ?_
  have zf1 := bd_some zf
  clear zf; obtain ⟨Mq47, zq, zf⟩ := zf1
  refine g_callVwv (As := [.int 0]) (rest := []) h ceX13_operand mlX13_257 imX13_operand seX13_operand (by rfl) (kd_lt (by rw [(by decide : kd 103 = 11)]; decide)) (ent_11 (by decide : kd 103 = 11)) rfl rfl ⟨by decide, by decide⟩ ⟨by decide, by decide⟩ rfl dX13_expression_195 rfl (Nat.le_of_ble_eq_true rfl) (cmX13_operand zq) ?_
  refine g_goto h 337 (by decide) dX13_expression_198 ?_
  refine g_sub h [0, 1] rfl ?_
  exact kX13_expression_b337 h zh39 zf

theorem kX13_expression_b142 {G : GX} (h : OKm G cX13_expression RX13 5 none { frames := 5, cells := 0, slots := 0, locals := 115 }) {a39 : Mem → Int32 → Option Mem} (zh39 : ∀ (M : Mem) (x3 : Int32) (res : Mem), a39 M x3 = some res → GG G (Qm G (Pwv res) 0 0) 0 0 39 [(0, rv G.1 103), (3, .int x3)] [] M) {M : Mem} {x3 : Int32} {res : Mem} (zf : fX13_expression_b142 a39 M x3 = some res) : GG G (Qm G (Pwv res) 0 0) 0 0 142 [(0, rv G.1 103), (3, .int x3)] [] M := by
  unfold fX13_expression_b142 at zf
  refine g_aload_n h 0 rfl dX13_expression_142 ?_
  refine gfX13_104 h (by decide : kd 103 = 11) dX13_expression_143 ?_
  refine g_aload_n h 0 rfl dX13_expression_146 ?_
  refine gfX13_242 h (by decide : kd 103 = 11) dX13_expression_147 ?_
  refine g_nmI zf ?_
  clear zf; intro vq22 zf
  refine g_zald h 9 (by decide : kd 132 = 23) (by decide) zf dX13_expression_150 ?_
  clear zf; intro vq23 zf
  refine g_if_ne h 201 (by decide) zf dX13_expression_151 ?_ ?_ <;> clear zf <;> intro zf
  · refine g_sub h [0, 1] rfl ?_
    exact kX13_expression_b201 h zh39 zf
  · refine g_aload_n h 0 rfl dX13_expression_154 ?_
    refine g_iconst h 4 (v := 4) (by decide) dX13_expression_155 ?_
    have zf1 := bd_some zf
    clear zf; obtain ⟨Mq41, zq, zf⟩ := zf1
    refine g_callVwv (As := [.int 4]) (rest := []) h ceX13_drops mlX13_254 imX13_drops seX13_drops (by rfl) (kd_lt (by rw [(by decide : kd 103 = 11)]; decide)) (ent_11 (by decide : kd 103 = 11)) rfl rfl ⟨by decide, by decide⟩ ⟨by decide, by decide⟩ rfl dX13_expression_156 rfl (Nat.le_of_ble_eq_true rfl) (cmX13_drops zq) ?_
    refine g_aload_n h 0 rfl dX13_expression_159 ?_
    refine g_aload_n h 0 rfl dX13_expression_160 ?_
    refine g_bipush h 60 (v := 60) (by decide) dX13_expression_161 ?_
    have zf1 := bd_some zf
    clear zf; obtain ⟨vq42, zq, zf⟩ := zf1
    refine g_callVri (As := [.int 60]) (rest := [rv G.1 103]) h ceX13_isSign mlX13_210 imX13_isSign seX13_isSign (by rfl) (kd_lt (by rw [(by decide : kd 103 = 11)]; decide)) (ent_11 (by decide : kd 103 = 11)) rfl rfl ⟨by decide, by decide⟩ ⟨by decide, by decide⟩ rfl dX13_expression_163 rfl (Nat.le_of_ble_eq_true rfl) (cmX13_isSign zq) ?_
    refine g_if_eq h 174 (by decide) zf dX13_expression_166 ?_ ?_ <;> clear zf <;> intro zf
    · refine g_bipush h 7 (v := 7) (by decide) dX13_expression_174 ?_
      refine g_sub h [0, 1] rfl ?_
      exact kX13_expression_b176 h zh39 zf
    · refine g_bipush h 6 (v := 6) (by decide) dX13_expression_169 ?_
      refine g_goto h 176 (by decide) dX13_expression_171 ?_
      refine g_sub h [0, 1] rfl ?_
      exact kX13_expression_b176 h zh39 zf

theorem kX13_expression_l39 {G : GX} (h : OKm G cX13_expression RX13 5 none { frames := 5, cells := 0, slots := 0, locals := 115 }) : ∀ (n : Nat) (M : Mem) (x3 : Int32) (res : Mem), fX13_expression_l39 n M x3 = some res → GG G (Qm G (Pwv res) 0 0) 0 0 39 [(0, rv G.1 103), (3, .int x3)] [] M := by
  intro n
  induction n with
  | zero => intro M x3 res zf; rw [fX13_expression_l39] at zf; cases zf
  | succ n ih =>
    intro M x3 res zf
    rw [fX13_expression_l39] at zf
    refine g_iload_n h 1 rfl dX13_expression_39 ?_
    refine g_if_eq h 340 (by decide) zf dX13_expression_40 ?_ ?_ <;> clear zf <;> intro zf
    · refine g_sub h [0] rfl ?_
      exact kX13_expression_b340 h zf
    · refine g_aload_n h 0 rfl dX13_expression_43 ?_
      have zf1 := bd_some zf
      clear zf; obtain ⟨vq13, zq, zf⟩ := zf1
      refine g_callVri (As := []) (rest := []) h ceX13_isGood mlX13_200 imX13_isGood seX13_isGood (by rfl) (kd_lt (by rw [(by decide : kd 103 = 11)]; decide)) (ent_11 (by decide : kd 103 = 11)) rfl rfl ⟨by decide, by decide⟩ ⟨by decide, by decide⟩ rfl dX13_expression_44 rfl (Nat.le_of_ble_eq_true rfl) (cmX13_isGood zq) ?_
      refine g_if_eq h 340 (by decide) zf dX13_expression_47 ?_ ?_ <;> clear zf <;> intro zf
      · refine g_sub h [0] rfl ?_
        exact kX13_expression_b340 h zf
      · refine g_aload_n h 0 rfl dX13_expression_50 ?_
        have zf1 := bd_some zf
        clear zf; obtain ⟨vq14, zq, zf⟩ := zf1
        refine g_callVri (As := []) (rest := []) h ceX13_knownWord mlX13_232 imX13_knownWord seX13_knownWord (by rfl) (kd_lt (by rw [(by decide : kd 103 = 11)]; decide)) (ent_11 (by decide : kd 103 = 11)) rfl rfl ⟨by decide, by decide⟩ ⟨by decide, by decide⟩ rfl dX13_expression_51 rfl (Nat.le_of_ble_eq_true rfl) (cmX13_knownWord zq) ?_
        refine g_istore h [(4, .int vq14), (0, rv G.1 103), (3, .int x3)] (by decide) rfl dX13_expression_54 ?_
        refine g_iload h 0 rfl dX13_expression_56 ?_
        refine g_bipush h 19 (v := 19) (by decide) dX13_expression_58 ?_
        refine g_ic_eq h 70 (by decide) zf dX13_expression_60 ?_ ?_ <;> clear zf <;> intro zf
        · refine g_sub h [1, 2, 0] rfl ?_
          exact kX13_expression_b70 h ih zf
        · refine g_iload h 0 rfl dX13_expression_63 ?_
          refine g_bipush h 20 (v := 20) (by decide) dX13_expression_65 ?_
          refine g_ic_ne h 124 (by decide) zf dX13_expression_67 ?_ ?_ <;> clear zf <;> intro zf
          · refine g_aload_n h 1 rfl dX13_expression_124 ?_
            refine g_bipush h 60 (v := 60) (by decide) dX13_expression_125 ?_
            have zf1 := bd_some zf
            clear zf; obtain ⟨vq21, zq, zf⟩ := zf1
            refine g_callVri (As := [.int 60]) (rest := []) h ceX13_isSign mlX13_210 imX13_isSign seX13_isSign (by rfl) (kd_lt (by rw [(by decide : kd 103 = 11)]; decide)) (ent_11 (by decide : kd 103 = 11)) rfl rfl ⟨by decide, by decide⟩ ⟨by decide, by decide⟩ rfl dX13_expression_127 rfl (Nat.le_of_ble_eq_true rfl) (cmX13_isSign zq) ?_
            refine g_if_ne h 142 (by decide) zf dX13_expression_130 ?_ ?_ <;> clear zf <;> intro zf
            · refine g_sub h [1, 2] rfl ?_
              exact kX13_expression_b142 h ih zf
            · refine g_aload_n h 1 rfl dX13_expression_133 ?_
              refine g_bipush h 61 (v := 61) (by decide) dX13_expression_134 ?_
              have zf1 := bd_some zf
              clear zf; obtain ⟨vq48, zq, zf⟩ := zf1
              refine g_callVri (As := [.int 61]) (rest := []) h ceX13_isSign mlX13_210 imX13_isSign seX13_isSign (by rfl) (kd_lt (by rw [(by decide : kd 103 = 11)]; decide)) (ent_11 (by decide : kd 103 = 11)) rfl rfl ⟨by decide, by decide⟩ ⟨by decide, by decide⟩ rfl dX13_expression_136 rfl (Nat.le_of_ble_eq_true rfl) (cmX13_isSign zq) ?_
              refine g_if_eq h 201 (by decide) zf dX13_expression_139 ?_ ?_ <;> clear zf <;> intro zf
              · refine g_sub h [1, 2] rfl ?_
                exact kX13_expression_b201 h ih zf
              · refine g_sub h [1, 2] rfl ?_
                exact kX13_expression_b142 h ih zf
          · refine g_sub h [1, 2, 0] rfl ?_
            exact kX13_expression_b70 h ih zf

theorem kX13_expression_e0 {G : GX} (h : OKm G cX13_expression RX13 5 none { frames := 5, cells := 0, slots := 0, locals := 115 }) {M : Mem} {x1 : Int32} {x2 : Int32} {res : Mem} (zf : fX13_expression M x1 x2 = some res) : GG G (Qm G (Pwv res) 0 0) 0 0 0 [(0, rv G.1 103), (1, .int x1), (2, .int x2)] [] M := by
  unfold fX13_expression at zf
  refine g_aload_n h 0 rfl dX13_expression_0 ?_
  have zf1 := bd_some zf
  clear zf; obtain ⟨vq1, zq, zf⟩ := zf1
  refine g_callVri (As := []) (rest := []) h ceX13_isGood mlX13_200 imX13_isGood seX13_isGood (by rfl) (kd_lt (by rw [(by decide : kd 103 = 11)]; decide)) (ent_11 (by decide : kd 103 = 11)) rfl rfl ⟨by decide, by decide⟩ ⟨by decide, by decide⟩ rfl dX13_expression_1 rfl (Nat.le_of_ble_eq_true rfl) (cmX13_isGood zq) ?_
  refine g_if_ne h 8 (by decide) zf dX13_expression_4 ?_ ?_ <;> clear zf <;> intro zf
  · refine g_aload_n h 0 rfl dX13_expression_8 ?_
    refine g_iload_n h 1 rfl dX13_expression_9 ?_
    refine pfX13_236 h (by decide : kd 103 = 11) dX13_expression_10 ?_
    refine g_nmM zf ?_
    clear zf; intro Mq2 zf
    refine g_aload_n h 0 rfl dX13_expression_13 ?_
    refine g_iload_n h 2 rfl dX13_expression_14 ?_
    refine pfX13_239 h (by decide : kd 103 = 11) dX13_expression_15 ?_
    refine g_nmM zf ?_
    clear zf; intro Mq3 zf
    refine g_aload_n h 0 rfl dX13_expression_18 ?_
    refine g_iconst h 0 (v := 0) (by decide) dX13_expression_19 ?_
    refine pfX13_220 h (by decide : kd 103 = 11) dX13_expression_20 ?_
    refine g_nmM zf ?_
    clear zf; intro Mq4 zf
    refine g_aload_n h 0 rfl dX13_expression_23 ?_
    refine g_iconst h 0 (v := 0) (by decide) dX13_expression_24 ?_
    refine pfX13_242 h (by decide : kd 103 = 11) dX13_expression_25 ?_
    refine g_nmM zf ?_
    clear zf; intro Mq5 zf
    refine g_aload_n h 0 rfl dX13_expression_28 ?_
    have zf1 := bd_some zf
    clear zf; obtain ⟨Mq6, zq, zf⟩ := zf1
    refine g_callVwv (As := []) (rest := []) h ceX13_deeper mlX13_248 imX13_deeper seX13_deeper (by rfl) (kd_lt (by rw [(by decide : kd 103 = 11)]; decide)) (ent_11 (by decide : kd 103 = 11)) rfl rfl ⟨by decide, by decide⟩ ⟨by decide, by decide⟩ rfl dX13_expression_29 rfl (Nat.le_of_ble_eq_true rfl) (cmX13_deeper zq) ?_
    refine g_aload_n h 0 rfl dX13_expression_32 ?_
    refine g_iconst h 1 (v := 1) (by decide) dX13_expression_33 ?_
    have zf1 := bd_some zf
    clear zf; obtain ⟨Mq7, zq, zf⟩ := zf1
    refine g_callVwv (As := [.int 1]) (rest := []) h ceX13_operand mlX13_257 imX13_operand seX13_operand (by rfl) (kd_lt (by rw [(by decide : kd 103 = 11)]; decide)) (ent_11 (by decide : kd 103 = 11)) rfl rfl ⟨by decide, by decide⟩ ⟨by decide, by decide⟩ rfl dX13_expression_34 rfl (Nat.le_of_ble_eq_true rfl) (cmX13_operand zq) ?_
    refine g_iconst h 1 (v := 1) (by decide) dX13_expression_37 ?_
    refine g_istore_n h rfl [(3, .int 1), (0, rv G.1 103), (1, .int x1), (2, .int x2)] (by decide) rfl dX13_expression_38 ?_
    refine g_sub h [1, 0] rfl ?_
    exact kX13_expression_l39 h _ _ _ _ zf
  · obtain rfl := Option.some.inj zf
    exact g_vret h rfl ⟨rfl, rfl⟩ (Nat.le_refl _) (Nat.le_refl _) dX13_expression_7

theorem cmX13_expression {l : Launch} {w : WX} {M : Mem} {x1 : Int32} {x2 : Int32} {res : Mem} (zf : fX13_expression M x1 x2 = some res) : CM l w yX13_expression cX13_expression 5 none { frames := 5, cells := 0, slots := 0, locals := 115 } 0 0 [rv w 103, .int x1, .int x2] M (Pwv res) := by
  refine CM_of (by decide) (Nat.le_of_ble_eq_true rfl) (fun G hw hl h => ?_)
  subst hw
  exact kX13_expression_e0 h zf

-- X13_goesByTerm
theorem kX13_goesByTerm_e0 {G : GX} (h : OKm G cX13_goesByTerm RX13 2 none { frames := 9, cells := 0, slots := 0, locals := 211 }) {M : Mem} {x1 : Int32} {res : Mem} (zf : fX13_goesByTerm M x1 = some res) : GG G (Qm G (Pwv res) 0 0) 0 0 0 [(0, rv G.1 103), (1, .int x1)] [] M := by
  unfold fX13_goesByTerm at zf
  refine g_aload_n h 0 rfl dX13_goesByTerm_0 ?_
  refine g_iconst h 0 (v := 0) (by decide) dX13_goesByTerm_1 ?_
  refine g_bipush h 31 (v := 31) (by decide) dX13_goesByTerm_2 ?_
  have zf1 := bd_some zf
  clear zf; obtain ⟨Mq1, zq, zf⟩ := zf1
  refine g_callVwv (As := [.int 0, .int 31]) (rest := []) h ceX13_lays0 mlX13_432 imX13_lays0 seX13_lays0 (by rfl) (kd_lt (by rw [(by decide : kd 103 = 11)]; decide)) (ent_11 (by decide : kd 103 = 11)) rfl rfl ⟨by decide, by decide⟩ ⟨by decide, by decide⟩ rfl dX13_goesByTerm_4 rfl (Nat.le_of_ble_eq_true rfl) (cmX13_lays0 zq) ?_
  refine g_aload_n h 0 rfl dX13_goesByTerm_7 ?_
  refine gfX13_108 h (by decide : kd 103 = 11) dX13_goesByTerm_8 ?_
  refine g_bipush h 43 (v := 43) (by decide) dX13_goesByTerm_11 ?_
  refine g_iload_n h 1 rfl dX13_goesByTerm_13 ?_
  refine g_iast h 186 (by decide : kd 133 = 20) (by decide) zf dX13_goesByTerm_14 ?_
  clear zf; intro Mq2 zf
  refine g_aload_n h 0 rfl dX13_goesByTerm_15 ?_
  refine g_bipush h 31 (v := 31) (by decide) dX13_goesByTerm_16 ?_
  refine g_bipush h 30 (v := 30) (by decide) dX13_goesByTerm_18 ?_
  have zf1 := bd_some zf
  clear zf; obtain ⟨Mq3, zq, zf⟩ := zf1
  refine g_callVwv (As := [.int 31, .int 30]) (rest := []) h ceX13_goesYears mlX13_429 imX13_goesYears seX13_goesYears (by rfl) (kd_lt (by rw [(by decide : kd 103 = 11)]; decide)) (ent_11 (by decide : kd 103 = 11)) rfl rfl ⟨by decide, by decide⟩ ⟨by decide, by decide⟩ rfl dX13_goesByTerm_20 rfl (Nat.le_of_ble_eq_true rfl) (cmX13_goesYears zq) ?_
  obtain rfl := Option.some.inj zf
  exact g_vret h rfl ⟨rfl, rfl⟩ (Nat.le_refl _) (Nat.le_refl _) dX13_goesByTerm_23

theorem cmX13_goesByTerm {l : Launch} {w : WX} {M : Mem} {x1 : Int32} {res : Mem} (zf : fX13_goesByTerm M x1 = some res) : CM l w yX13_goesByTerm cX13_goesByTerm 2 none { frames := 9, cells := 0, slots := 0, locals := 211 } 0 0 [rv w 103, .int x1] M (Pwv res) := by
  refine CM_of (by decide) (Nat.le_of_ble_eq_true rfl) (fun G hw hl h => ?_)
  subst hw
  exact kX13_goesByTerm_e0 h zf

-- X13_fair
theorem kX13_fair_l7 {G : GX} (h : OKm G cX13_fair RX13 2 (some .int) { frames := 10, cells := 0, slots := 0, locals := 232 }) : ∀ (n : Nat) (M : Mem) (x1 : Int32) (res : (Int32 × Mem)), fX13_fair_l7 n M x1 = some res → GG G (Qm G (Pwi res) 0 0) 0 0 7 [(0, rv G.1 103), (1, .int x1)] [] M := by
  intro n
  induction n with
  | zero => intro M x1 res zf; rw [fX13_fair_l7] at zf; cases zf
  | succ n ih =>
    intro M x1 res zf
    rw [fX13_fair_l7] at zf
    refine g_iload_n h 1 rfl dX13_fair_7 ?_
    refine g_iconst h 5 (v := 5) (by decide) dX13_fair_8 ?_
    refine g_ic_gt h 42 (by decide) zf dX13_fair_9 ?_ ?_ <;> clear zf <;> intro zf
    · refine g_iconst h (-1) (v := (-1)) (by decide) dX13_fair_42 ?_
      obtain rfl := Option.some.inj zf
      exact g_iret h rfl ⟨rfl, rfl⟩ (Nat.le_refl _) (Nat.le_refl _) dX13_fair_43
    · refine g_aload_n h 0 rfl dX13_fair_12 ?_
      refine g_iload_n h 1 rfl dX13_fair_13 ?_
      have zf1 := bd_some zf
      clear zf; obtain ⟨Mq2, zq, zf⟩ := zf1
      refine g_callVwv (As := [.int x1]) (rest := []) h ceX13_goesByTerm mlX13_435 imX13_goesByTerm seX13_goesByTerm (by rfl) (kd_lt (by rw [(by decide : kd 103 = 11)]; decide)) (ent_11 (by decide : kd 103 = 11)) rfl rfl ⟨by decide, by decide⟩ ⟨by decide, by decide⟩ rfl dX13_fair_14 rfl (Nat.le_of_ble_eq_true rfl) (cmX13_goesByTerm zq) ?_
      refine g_aload_n h 0 rfl dX13_fair_17 ?_
      refine gfX13_108 h (by decide : kd 103 = 11) dX13_fair_18 ?_
      refine g_bipush h 40 (v := 40) (by decide) dX13_fair_21 ?_
      refine g_iald h 186 (by decide : kd 133 = 20) (by decide) zf dX13_fair_23 ?_
      clear zf; intro vq3 zf
      refine g_aload_n h 0 rfl dX13_fair_24 ?_
      refine gfX13_108 h (by decide : kd 103 = 11) dX13_fair_25 ?_
      refine g_bipush h 9 (v := 9) (by decide) dX13_fair_28 ?_
      refine g_iald h 186 (by decide : kd 133 = 20) (by decide) zf dX13_fair_30 ?_
      clear zf; intro vq4 zf
      refine g_ic_ne h 36 (by decide) zf dX13_fair_31 ?_ ?_ <;> clear zf <;> intro zf
      · refine g_iinc h 1 1 rfl (v := x1 + 1) (congrArg (fun z => x1 + z) (by decide : Int32.ofInt (1) = (1 : Int32))) [(1, .int (x1 + 1)), (0, rv G.1 103)] (by decide) rfl dX13_fair_36 ?_
        refine g_nmV zf ?_
        clear zf; intro vq5 zf
        refine g_goto h 7 (by decide) dX13_fair_39 ?_
        refine g_sub h [1, 0] rfl ?_
        exact ih _ _ _ zf
      · refine g_iload_n h 1 rfl dX13_fair_34 ?_
        obtain rfl := Option.some.inj zf
        exact g_iret h rfl ⟨rfl, rfl⟩ (Nat.le_refl _) (Nat.le_refl _) dX13_fair_35

theorem kX13_fair_e0 {G : GX} (h : OKm G cX13_fair RX13 2 (some .int) { frames := 10, cells := 0, slots := 0, locals := 232 }) {M : Mem} {res : (Int32 × Mem)} (zf : fX13_fair M = some res) : GG G (Qm G (Pwi res) 0 0) 0 0 0 [(0, rv G.1 103)] [] M := by
  unfold fX13_fair at zf
  refine g_aload_n h 0 rfl dX13_fair_0 ?_
  refine g_iconst h 0 (v := 0) (by decide) dX13_fair_1 ?_
  refine pfX13_141 h (by decide : kd 103 = 11) dX13_fair_2 ?_
  refine g_nmM zf ?_
  clear zf; intro Mq1 zf
  refine g_iconst h 1 (v := 1) (by decide) dX13_fair_5 ?_
  refine g_istore_n h rfl [(1, .int 1), (0, rv G.1 103)] (by decide) rfl dX13_fair_6 ?_
  refine g_sub h [1, 0] rfl ?_
  exact kX13_fair_l7 h _ _ _ _ zf

theorem cmX13_fair {l : Launch} {w : WX} {M : Mem} {res : (Int32 × Mem)} (zf : fX13_fair M = some res) : CM l w yX13_fair cX13_fair 2 (some .int) { frames := 10, cells := 0, slots := 0, locals := 232 } 0 0 [rv w 103] M (Pwi res) := by
  refine CM_of (by decide) (Nat.le_of_ble_eq_true rfl) (fun G hw hl h => ?_)
  subst hw
  exact kX13_fair_e0 h zf

-- X13_fault
theorem kX13_fault_e0 {G : GX} (h : OKm G cX13_fault RX13 1 (some .int) { frames := 0, cells := 0, slots := 0, locals := 0 }) {M : Mem} {res : (Int32 × Mem)} (zf : fX13_fault M = some res) : GG G (Qm G (Pwi res) 0 0) 0 0 0 [(0, rv G.1 103)] [] M := by
  unfold fX13_fault at zf
  refine g_aload_n h 0 rfl dX13_fault_0 ?_
  refine g_iconst h 0 (v := 0) (by decide) dX13_fault_1 ?_
  refine pfX13_141 h (by decide : kd 103 = 11) dX13_fault_2 ?_
  refine g_nmM zf ?_
  clear zf; intro Mq1 zf
  refine g_aload_n h 0 rfl dX13_fault_5 ?_
  refine gfX13_56 h (by decide : kd 103 = 11) dX13_fault_6 ?_
  refine g_nmI zf ?_
  clear zf; intro vq2 zf
  obtain rfl := Option.some.inj zf
  exact g_iret h rfl ⟨rfl, rfl⟩ (Nat.le_refl _) (Nat.le_refl _) dX13_fault_9

theorem cmX13_fault {l : Launch} {w : WX} {M : Mem} {res : (Int32 × Mem)} (zf : fX13_fault M = some res) : CM l w yX13_fault cX13_fault 1 (some .int) { frames := 0, cells := 0, slots := 0, locals := 0 } 0 0 [rv w 103] M (Pwi res) := by
  refine CM_of (by decide) (Nat.le_of_ble_eq_true rfl) (fun G hw hl h => ?_)
  subst hw
  exact kX13_fault_e0 h zf

-- X13_lays
theorem kX13_lays_l3 {G : GX} (h : OKm G cX13_lays RX13 3 none { frames := 0, cells := 0, slots := 0, locals := 0 }) : ∀ (n : Nat) (M : Mem) (x1 : Int32) (x2 : Int32) (res : Mem), fX13_lays_l3 n M x1 x2 = some res → GG G (Qm G (Pwv res) 0 0) 0 0 3 [(0, rv G.1 103), (1, .int x1), (2, .int x2)] [] M := by
  intro n
  induction n with
  | zero => intro M x1 x2 res zf; rw [fX13_lays_l3] at zf; cases zf
  | succ n ih =>
    intro M x1 x2 res zf
    rw [fX13_lays_l3] at zf
    refine g_iload_n h 2 rfl dX13_lays_3 ?_
    refine g_if_lt h 39 (by decide) zf dX13_lays_4 ?_ ?_ <;> clear zf <;> intro zf
    · obtain rfl := Option.some.inj zf
      exact g_vret h rfl ⟨rfl, rfl⟩ (Nat.le_refl _) (Nat.le_refl _) dX13_lays_39
    · refine g_aload_n h 0 rfl dX13_lays_7 ?_
      refine gfX13_53 h (by decide : kd 103 = 11) dX13_lays_8 ?_
      refine g_aload_n h 0 rfl dX13_lays_11 ?_
      refine gfX13_144 h (by decide : kd 103 = 11) dX13_lays_12 ?_
      refine g_nmI zf ?_
      clear zf; intro vq1 zf
      refine g_iload_n h 1 rfl dX13_lays_15 ?_
      refine g_iload_n h 2 rfl dX13_lays_16 ?_
      refine g_ishr h dX13_lays_17 ?_
      refine g_sipush h 255 (v := 255) (by decide) dX13_lays_18 ?_
      refine g_iand h dX13_lays_21 ?_
      refine g_iast h 700 (by decide : kd 116 = 20) (by decide) zf dX13_lays_22 ?_
      clear zf; intro Mq2 zf
      refine g_aload_n h 0 rfl dX13_lays_23 ?_
      refine g_dup h rfl dX13_lays_24 ?_
      refine gfX13_144 h (by decide : kd 103 = 11) dX13_lays_25 ?_
      refine g_nmI zf ?_
      clear zf; intro vq3 zf
      refine g_iconst h 1 (v := 1) (by decide) dX13_lays_28 ?_
      refine g_iadd h dX13_lays_29 ?_
      refine pfX13_144 h (by decide : kd 103 = 11) dX13_lays_30 ?_
      refine g_nmM zf ?_
      clear zf; intro Mq4 zf
      refine g_iinc h 2 2 rfl (v := x2 + (-8)) (congrArg (fun z => x2 + z) (by decide : Int32.ofInt (-8) = (-8 : Int32))) [(2, .int (x2 + (-8))), (0, rv G.1 103), (1, .int x1)] (by decide) rfl dX13_lays_33 ?_
      refine g_nmV zf ?_
      clear zf; intro vq5 zf
      refine g_goto h 3 (by decide) dX13_lays_36 ?_
      refine g_sub h [1, 2, 0] rfl ?_
      exact ih _ _ _ _ zf

theorem kX13_lays_e0 {G : GX} (h : OKm G cX13_lays RX13 3 none { frames := 0, cells := 0, slots := 0, locals := 0 }) {M : Mem} {x1 : Int32} {res : Mem} (zf : fX13_lays M x1 = some res) : GG G (Qm G (Pwv res) 0 0) 0 0 0 [(0, rv G.1 103), (1, .int x1)] [] M := by
  unfold fX13_lays at zf
  refine g_bipush h 24 (v := 24) (by decide) dX13_lays_0 ?_
  refine g_istore_n h rfl [(2, .int 24), (0, rv G.1 103), (1, .int x1)] (by decide) rfl dX13_lays_2 ?_
  refine g_sub h [1, 2, 0] rfl ?_
  exact kX13_lays_l3 h _ _ _ _ _ zf

theorem cmX13_lays {l : Launch} {w : WX} {M : Mem} {x1 : Int32} {res : Mem} (zf : fX13_lays M x1 = some res) : CM l w yX13_lays cX13_lays 3 none { frames := 0, cells := 0, slots := 0, locals := 0 } 0 0 [rv w 103, .int x1] M (Pwv res) := by
  refine CM_of (by decide) (Nat.le_of_ble_eq_true rfl) (fun G hw hl h => ?_)
  subst hw
  exact kX13_lays_e0 h zf

-- X13_feed
theorem kX13_feed_e0 {G : GX} (h : OKm G cX13_feed RX13 6 (some .int) { frames := 1, cells := 0, slots := 0, locals := 22 }) {M : Mem} {x1 : Int32} {x2 : Int32} {x3 : Int32} {x4 : Int32} {x5 : Int32} {res : (Int32 × Mem)} (zf : fX13_feed M x1 x2 x3 x4 x5 = some res) : GG G (Qm G (Pwi res) 0 0) 0 0 0 [(0, rv G.1 103), (1, .int x1), (2, .int x2), (3, .int x3), (4, .int x4), (5, .int x5)] [] M := by
  unfold fX13_feed at zf
  refine g_aload_n h 0 rfl dX13_feed_0 ?_
  refine g_iconst h 0 (v := 0) (by decide) dX13_feed_1 ?_
  refine pfX13_141 h (by decide : kd 103 = 11) dX13_feed_2 ?_
  refine g_nmM zf ?_
  clear zf; intro Mq1 zf
  refine g_aload_n h 0 rfl dX13_feed_5 ?_
  refine gfX13_144 h (by decide : kd 103 = 11) dX13_feed_6 ?_
  refine g_nmI zf ?_
  clear zf; intro vq2 zf
  refine g_bipush h 20 (v := 20) (by decide) dX13_feed_9 ?_
  refine g_iadd h dX13_feed_11 ?_
  refine g_sipush h 700 (v := 700) (by decide) dX13_feed_12 ?_
  refine g_ic_le h 20 (by decide) zf dX13_feed_15 ?_ ?_ <;> clear zf <;> intro zf
  · refine g_aload_n h 0 rfl dX13_feed_20 ?_
    refine g_iload_n h 1 rfl dX13_feed_21 ?_
    have zf1 := bd_some zf
    clear zf; obtain ⟨Mq3, zq, zf⟩ := zf1
    refine g_callVwv (As := [.int x1]) (rest := []) h ceX13_lays mlX13_147 imX13_lays seX13_lays (by rfl) (kd_lt (by rw [(by decide : kd 103 = 11)]; decide)) (ent_11 (by decide : kd 103 = 11)) rfl rfl ⟨by decide, by decide⟩ ⟨by decide, by decide⟩ rfl dX13_feed_22 rfl (Nat.le_of_ble_eq_true rfl) (cmX13_lays zq) ?_
    refine g_aload_n h 0 rfl dX13_feed_25 ?_
    refine g_iload_n h 2 rfl dX13_feed_26 ?_
    have zf1 := bd_some zf
    clear zf; obtain ⟨Mq4, zq, zf⟩ := zf1
    refine g_callVwv (As := [.int x2]) (rest := []) h ceX13_lays mlX13_147 imX13_lays seX13_lays (by rfl) (kd_lt (by rw [(by decide : kd 103 = 11)]; decide)) (ent_11 (by decide : kd 103 = 11)) rfl rfl ⟨by decide, by decide⟩ ⟨by decide, by decide⟩ rfl dX13_feed_27 rfl (Nat.le_of_ble_eq_true rfl) (cmX13_lays zq) ?_
    refine g_aload_n h 0 rfl dX13_feed_30 ?_
    refine g_iload_n h 3 rfl dX13_feed_31 ?_
    have zf1 := bd_some zf
    clear zf; obtain ⟨Mq5, zq, zf⟩ := zf1
    refine g_callVwv (As := [.int x3]) (rest := []) h ceX13_lays mlX13_147 imX13_lays seX13_lays (by rfl) (kd_lt (by rw [(by decide : kd 103 = 11)]; decide)) (ent_11 (by decide : kd 103 = 11)) rfl rfl ⟨by decide, by decide⟩ ⟨by decide, by decide⟩ rfl dX13_feed_32 rfl (Nat.le_of_ble_eq_true rfl) (cmX13_lays zq) ?_
    refine g_aload_n h 0 rfl dX13_feed_35 ?_
    refine g_iload h 4 rfl dX13_feed_36 ?_
    have zf1 := bd_some zf
    clear zf; obtain ⟨Mq6, zq, zf⟩ := zf1
    refine g_callVwv (As := [.int x4]) (rest := []) h ceX13_lays mlX13_147 imX13_lays seX13_lays (by rfl) (kd_lt (by rw [(by decide : kd 103 = 11)]; decide)) (ent_11 (by decide : kd 103 = 11)) rfl rfl ⟨by decide, by decide⟩ ⟨by decide, by decide⟩ rfl dX13_feed_38 rfl (Nat.le_of_ble_eq_true rfl) (cmX13_lays zq) ?_
    refine g_aload_n h 0 rfl dX13_feed_41 ?_
    refine g_iload h 5 rfl dX13_feed_42 ?_
    have zf1 := bd_some zf
    clear zf; obtain ⟨Mq7, zq, zf⟩ := zf1
    refine g_callVwv (As := [.int x5]) (rest := []) h ceX13_lays mlX13_147 imX13_lays seX13_lays (by rfl) (kd_lt (by rw [(by decide : kd 103 = 11)]; decide)) (ent_11 (by decide : kd 103 = 11)) rfl rfl ⟨by decide, by decide⟩ ⟨by decide, by decide⟩ rfl dX13_feed_44 rfl (Nat.le_of_ble_eq_true rfl) (cmX13_lays zq) ?_
    refine g_aload_n h 0 rfl dX13_feed_47 ?_
    refine gfX13_144 h (by decide : kd 103 = 11) dX13_feed_48 ?_
    refine g_nmI zf ?_
    clear zf; intro vq8 zf
    obtain rfl := Option.some.inj zf
    exact g_iret h rfl ⟨rfl, rfl⟩ (Nat.le_refl _) (Nat.le_refl _) dX13_feed_51
  · refine g_iconst h (-1) (v := (-1)) (by decide) dX13_feed_18 ?_
    obtain rfl := Option.some.inj zf
    exact g_iret h rfl ⟨rfl, rfl⟩ (Nat.le_refl _) (Nat.le_refl _) dX13_feed_19

theorem cmX13_feed {l : Launch} {w : WX} {M : Mem} {x1 : Int32} {x2 : Int32} {x3 : Int32} {x4 : Int32} {x5 : Int32} {res : (Int32 × Mem)} (zf : fX13_feed M x1 x2 x3 x4 x5 = some res) : CM l w yX13_feed cX13_feed 6 (some .int) { frames := 1, cells := 0, slots := 0, locals := 22 } 0 0 [rv w 103, .int x1, .int x2, .int x3, .int x4, .int x5] M (Pwi res) := by
  refine CM_of (by decide) (Nat.le_of_ble_eq_true rfl) (fun G hw hl h => ?_)
  subst hw
  exact kX13_feed_e0 h zf

-- X13_forget
theorem kX13_forget_e0 {G : GX} (h : OKm G cX13_forget RX13 1 none { frames := 0, cells := 0, slots := 0, locals := 0 }) {M : Mem} {res : Mem} (zf : fX13_forget M = some res) : GG G (Qm G (Pwv res) 0 0) 0 0 0 [(0, rv G.1 103)] [] M := by
  unfold fX13_forget at zf
  refine g_aload_n h 0 rfl dX13_forget_0 ?_
  refine g_iconst h 0 (v := 0) (by decide) dX13_forget_1 ?_
  refine pfX13_141 h (by decide : kd 103 = 11) dX13_forget_2 ?_
  refine g_nmM zf ?_
  clear zf; intro Mq1 zf
  refine g_aload_n h 0 rfl dX13_forget_5 ?_
  refine g_iconst h 0 (v := 0) (by decide) dX13_forget_6 ?_
  refine pfX13_355 h (by decide : kd 103 = 11) dX13_forget_7 ?_
  refine g_nmM zf ?_
  clear zf; intro Mq2 zf
  obtain rfl := Option.some.inj zf
  exact g_vret h rfl ⟨rfl, rfl⟩ (Nat.le_refl _) (Nat.le_refl _) dX13_forget_10

theorem cmX13_forget {l : Launch} {w : WX} {M : Mem} {res : Mem} (zf : fX13_forget M = some res) : CM l w yX13_forget cX13_forget 1 none { frames := 0, cells := 0, slots := 0, locals := 0 } 0 0 [rv w 103] M (Pwv res) := by
  refine CM_of (by decide) (Nat.le_of_ble_eq_true rfl) (fun G hw hl h => ?_)
  subst hw
  exact kX13_forget_e0 h zf

-- X13_isFriend
theorem kX13_isFriend_b18 {G : GX} (h : OKm G cX13_isFriend RX13 2 (some .boolean) { frames := 1, cells := 0, slots := 0, locals := 22 }) {M : Mem} {s0 : Int32} {res : (Int32 × Mem)} (zf : fX13_isFriend_b18 M s0 = some res) : GG G (Qm G (Pwi res) 0 0) 0 0 18 [] [.int s0, rv G.1 103] M := by
  unfold fX13_isFriend_b18 at zf
  refine g_iconst h 1 (v := 1) (by decide) dX13_isFriend_18 ?_
  have zf1 := b2_some zf
  clear zf; obtain ⟨vq1, Mq2, zq, zf⟩ := zf1
  refine g_callVwi (As := [.int s0, .int 1]) (rest := []) h ceX13_right mlX13_326 imX13_right seX13_right (by rfl) (kd_lt (by rw [(by decide : kd 103 = 11)]; decide)) (ent_11 (by decide : kd 103 = 11)) rfl rfl ⟨by decide, by decide⟩ ⟨by decide, by decide⟩ rfl dX13_isFriend_19 rfl (Nat.le_of_ble_eq_true rfl) (cmX13_right zq) ?_
  have zf1 := pre_ck zf
  clear zf; obtain ⟨zz9, zf⟩ := zf1
  obtain rfl := Option.some.inj zf
  exact g_zret h zz9 rfl ⟨rfl, rfl⟩ (Nat.le_refl _) (Nat.le_refl _) dX13_isFriend_22

theorem kX13_isFriend_b17 {G : GX} (h : OKm G cX13_isFriend RX13 2 (some .boolean) { frames := 1, cells := 0, slots := 0, locals := 22 }) {M : Mem} {res : (Int32 × Mem)} (zf : fX13_isFriend_b17 M = some res) : GG G (Qm G (Pwi res) 0 0) 0 0 17 [] [rv G.1 103] M := by
  unfold fX13_isFriend_b17 at zf
  refine g_iconst h 0 (v := 0) (by decide) dX13_isFriend_17 ?_
  refine g_sub h [] rfl ?_
  exact kX13_isFriend_b18 h zf

theorem kX13_isFriend_e0 {G : GX} (h : OKm G cX13_isFriend RX13 2 (some .boolean) { frames := 1, cells := 0, slots := 0, locals := 22 }) {M : Mem} {x1 : Int32} {res : (Int32 × Mem)} (zf : fX13_isFriend M x1 = some res) : GG G (Qm G (Pwi res) 0 0) 0 0 0 [(0, rv G.1 103), (1, .int x1)] [] M := by
  unfold fX13_isFriend at zf
  refine g_aload_n h 0 rfl dX13_isFriend_0 ?_
  refine g_iload_n h 1 rfl dX13_isFriend_1 ?_
  refine g_if_lt h 17 (by decide) zf dX13_isFriend_2 ?_ ?_ <;> clear zf <;> intro zf
  · refine g_sub h [] rfl ?_
    exact kX13_isFriend_b17 h zf
  · refine g_iload_n h 1 rfl dX13_isFriend_5 ?_
    refine g_aload_n h 0 rfl dX13_isFriend_6 ?_
    refine gfX13_339 h (by decide : kd 103 = 11) dX13_isFriend_7 ?_
    refine g_nmI zf ?_
    clear zf; intro vq3 zf
    refine g_ic_ge h 17 (by decide) zf dX13_isFriend_10 ?_ ?_ <;> clear zf <;> intro zf
    · refine g_sub h [] rfl ?_
      exact kX13_isFriend_b17 h zf
    · refine g_iconst h 1 (v := 1) (by decide) dX13_isFriend_13 ?_
      refine g_goto h 18 (by decide) dX13_isFriend_14 ?_
      refine g_sub h [] rfl ?_
      exact kX13_isFriend_b18 h zf

theorem cmX13_isFriend {l : Launch} {w : WX} {M : Mem} {x1 : Int32} {res : (Int32 × Mem)} (zf : fX13_isFriend M x1 = some res) : CM l w yX13_isFriend cX13_isFriend 2 (some .boolean) { frames := 1, cells := 0, slots := 0, locals := 22 } 0 0 [rv w 103, .int x1] M (Pwi res) := by
  refine CM_of (by decide) (Nat.le_of_ble_eq_true rfl) (fun G hw hl h => ?_)
  subst hw
  exact kX13_isFriend_e0 h zf

-- X13_friend
theorem kX13_friend_e0 {G : GX} (h : OKm G cX13_friend RX13 3 (some .int) { frames := 4, cells := 0, slots := 0, locals := 97 }) {M : Mem} {x1 : Int32} {x2 : Int32} {res : (Int32 × Mem)} (zf : fX13_friend M x1 x2 = some res) : GG G (Qm G (Pwi res) 0 0) 0 0 0 [(0, rv G.1 103), (1, .int x1), (2, .int x2)] [] M := by
  unfold fX13_friend at zf
  refine g_aload_n h 0 rfl dX13_friend_0 ?_
  refine g_iconst h 0 (v := 0) (by decide) dX13_friend_1 ?_
  refine pfX13_141 h (by decide : kd 103 = 11) dX13_friend_2 ?_
  refine g_nmM zf ?_
  clear zf; intro Mq1 zf
  refine g_aload_n h 0 rfl dX13_friend_5 ?_
  refine g_iload_n h 1 rfl dX13_friend_6 ?_
  have zf1 := b2_some zf
  clear zf; obtain ⟨vq2, Mq3, zq, zf⟩ := zf1
  refine g_callVwi (As := [.int x1]) (rest := []) h ceX13_isFriend mlX13_420 imX13_isFriend seX13_isFriend (by rfl) (kd_lt (by rw [(by decide : kd 103 = 11)]; decide)) (ent_11 (by decide : kd 103 = 11)) rfl rfl ⟨by decide, by decide⟩ ⟨by decide, by decide⟩ rfl dX13_friend_7 rfl (Nat.le_of_ble_eq_true rfl) (cmX13_isFriend zq) ?_
  refine g_if_eq h 22 (by decide) zf dX13_friend_10 ?_ ?_ <;> clear zf <;> intro zf
  · refine g_iconst h 0 (v := 0) (by decide) dX13_friend_22 ?_
    obtain rfl := Option.some.inj zf
    exact g_iret h rfl ⟨rfl, rfl⟩ (Nat.le_refl _) (Nat.le_refl _) dX13_friend_23
  · refine g_aload_n h 0 rfl dX13_friend_13 ?_
    refine g_iload_n h 2 rfl dX13_friend_14 ?_
    refine g_iconst h 4 (v := 4) (by decide) dX13_friend_15 ?_
    have zf1 := b2_some zf
    clear zf; obtain ⟨vq4, Mq5, zq, zf⟩ := zf1
    refine g_callVwi (As := [.int x2, .int 4]) (rest := []) h ceX13_isWhat mlX13_414 imX13_isWhat seX13_isWhat (by rfl) (kd_lt (by rw [(by decide : kd 103 = 11)]; decide)) (ent_11 (by decide : kd 103 = 11)) rfl rfl ⟨by decide, by decide⟩ ⟨by decide, by decide⟩ rfl dX13_friend_16 rfl (Nat.le_of_ble_eq_true rfl) (cmX13_isWhat zq) ?_
    refine g_if_ne h 24 (by decide) zf dX13_friend_19 ?_ ?_ <;> clear zf <;> intro zf
    · refine g_iload_n h 2 rfl dX13_friend_24 ?_
      refine g_iconst h 3 (v := 3) (by decide) dX13_friend_25 ?_
      refine g_ic_ge h 68 (by decide) zf dX13_friend_26 ?_ ?_ <;> clear zf <;> intro zf
      · refine g_aload_n h 0 rfl dX13_friend_68 ?_
        refine gfX13_13 h (by decide : kd 103 = 11) dX13_friend_69 ?_
        refine g_nmI zf ?_
        clear zf; intro vq6 zf
        refine g_iconst h (-1) (v := (-1)) (by decide) dX13_friend_72 ?_
        refine g_ic_ne h 80 (by decide) zf dX13_friend_73 ?_ ?_ <;> clear zf <;> intro zf
        · refine g_aload_n h 0 rfl dX13_friend_80 ?_
          refine g_iconst h 0 (v := 0) (by decide) dX13_friend_81 ?_
          refine g_iload_n h 1 rfl dX13_friend_82 ?_
          refine g_iload_n h 2 rfl dX13_friend_83 ?_
          refine g_iconst h 3 (v := 3) (by decide) dX13_friend_84 ?_
          refine g_isub h dX13_friend_85 ?_
          refine g_iconst h 0 (v := 0) (by decide) dX13_friend_86 ?_
          have zf1 := b2_some zf
          clear zf; obtain ⟨vq7, Mq8, zq, zf⟩ := zf1
          refine g_callVwi (As := [.int 0, .int x1, .int (x2 - 3), .int 0]) (rest := []) h ceX13_likeOf mlX13_368 imX13_likeOf seX13_likeOf (by rfl) (kd_lt (by rw [(by decide : kd 103 = 11)]; decide)) (ent_11 (by decide : kd 103 = 11)) rfl rfl ⟨by decide, by decide⟩ ⟨by decide, by decide⟩ rfl dX13_friend_87 rfl (Nat.le_of_ble_eq_true rfl) (cmX13_likeOf zq) ?_
          obtain rfl := Option.some.inj zf
          exact g_iret h rfl ⟨rfl, rfl⟩ (Nat.le_refl _) (Nat.le_refl _) dX13_friend_90
        · refine g_iconst h 0 (v := 0) (by decide) dX13_friend_76 ?_
          refine g_goto h 90 (by decide) dX13_friend_77 ?_
          obtain rfl := Option.some.inj zf
          exact g_iret h rfl ⟨rfl, rfl⟩ (Nat.le_refl _) (Nat.le_refl _) dX13_friend_90
      · refine g_iload_n h 2 rfl dX13_friend_29 ?_
        refine g_if_ne h 45 (by decide) zf dX13_friend_30 ?_ ?_ <;> clear zf <;> intro zf
        · refine g_iload_n h 2 rfl dX13_friend_45 ?_
          refine g_iconst h 1 (v := 1) (by decide) dX13_friend_46 ?_
          refine g_ic_ne h 59 (by decide) zf dX13_friend_47 ?_ ?_ <;> clear zf <;> intro zf
          · refine g_aload_n h 0 rfl dX13_friend_59 ?_
            refine g_iconst h 0 (v := 0) (by decide) dX13_friend_60 ?_
            refine g_iload_n h 1 rfl dX13_friend_61 ?_
            refine g_iconst h 0 (v := 0) (by decide) dX13_friend_62 ?_
            refine g_iconst h 0 (v := 0) (by decide) dX13_friend_63 ?_
            have zf1 := b2_some zf
            clear zf; obtain ⟨vq9, Mq10, zq, zf⟩ := zf1
            refine g_callVwi (As := [.int 0, .int x1, .int 0, .int 0]) (rest := []) h ceX13_follows mlX13_372 imX13_follows seX13_follows (by rfl) (kd_lt (by rw [(by decide : kd 103 = 11)]; decide)) (ent_11 (by decide : kd 103 = 11)) rfl rfl ⟨by decide, by decide⟩ ⟨by decide, by decide⟩ rfl dX13_friend_64 rfl (Nat.le_of_ble_eq_true rfl) (cmX13_follows zq) ?_
            obtain rfl := Option.some.inj zf
            exact g_iret h rfl ⟨rfl, rfl⟩ (Nat.le_refl _) (Nat.le_refl _) dX13_friend_67
          · refine g_aload_n h 0 rfl dX13_friend_50 ?_
            refine gfX13_35 h (by decide : kd 103 = 11) dX13_friend_51 ?_
            refine g_iload_n h 1 rfl dX13_friend_54 ?_
            refine g_iald h 6 (by decide : kd 110 = 20) (by decide) zf dX13_friend_55 ?_
            clear zf; intro vq11 zf
            refine g_goto h 67 (by decide) dX13_friend_56 ?_
            obtain rfl := Option.some.inj zf
            exact g_iret h rfl ⟨rfl, rfl⟩ (Nat.le_refl _) (Nat.le_refl _) dX13_friend_67
        · refine g_aload_n h 0 rfl dX13_friend_33 ?_
          refine gfX13_108 h (by decide : kd 103 = 11) dX13_friend_34 ?_
          refine g_bipush h 25 (v := 25) (by decide) dX13_friend_37 ?_
          refine g_iload_n h 1 rfl dX13_friend_39 ?_
          refine g_iadd h dX13_friend_40 ?_
          refine g_iald h 186 (by decide : kd 133 = 20) (by decide) zf dX13_friend_41 ?_
          clear zf; intro vq12 zf
          refine g_goto h 67 (by decide) dX13_friend_42 ?_
          obtain rfl := Option.some.inj zf
          exact g_iret h rfl ⟨rfl, rfl⟩ (Nat.le_refl _) (Nat.le_refl _) dX13_friend_67
    · refine g_iconst h 0 (v := 0) (by decide) dX13_friend_22 ?_
      obtain rfl := Option.some.inj zf
      exact g_iret h rfl ⟨rfl, rfl⟩ (Nat.le_refl _) (Nat.le_refl _) dX13_friend_23

theorem cmX13_friend {l : Launch} {w : WX} {M : Mem} {x1 : Int32} {x2 : Int32} {res : (Int32 × Mem)} (zf : fX13_friend M x1 x2 = some res) : CM l w yX13_friend cX13_friend 3 (some .int) { frames := 4, cells := 0, slots := 0, locals := 97 } 0 0 [rv w 103, .int x1, .int x2] M (Pwi res) := by
  refine CM_of (by decide) (Nat.le_of_ble_eq_true rfl) (fun G hw hl h => ?_)
  subst hw
  exact kX13_friend_e0 h zf

-- X13_gains
theorem kX13_gains_b70 {G : GX} (h : OKm G cX13_gains RX13 7 (some .int) { frames := 7, cells := 0, slots := 0, locals := 166 }) {a13 : Mem → Int32 → Int32 → Int32 → Int32 → Int32 → Option (Int32 × Mem)} (zh13 : ∀ (M : Mem) (x1 : Int32) (x2 : Int32) (x3 : Int32) (x4 : Int32) (x5 : Int32) (res : (Int32 × Mem)), a13 M x1 x2 x3 x4 x5 = some res → GG G (Qm G (Pwi res) 0 0) 0 0 13 [(0, rv G.1 103), (1, .int x1), (2, .int x2), (3, .int x3), (4, .int x4), (5, .int x5)] [] M) {M : Mem} {x1 : Int32} {x2 : Int32} {x3 : Int32} {x5 : Int32} {s0 : Int32} {res : (Int32 × Mem)} (zf : fX13_gains_b70 a13 M x1 x2 x3 x5 s0 = some res) : GG G (Qm G (Pwi res) 0 0) 0 0 70 [(0, rv G.1 103), (1, .int x1), (2, .int x2), (3, .int x3), (5, .int x5)] [.int s0] M := by
  unfold fX13_gains_b70 at zf
  refine g_istore h [(4, .int s0), (0, rv G.1 103), (1, .int x1), (2, .int x2), (3, .int x3), (5, .int x5)] (by decide) rfl dX13_gains_70 ?_
  refine g_aload_n h 1 rfl dX13_gains_72 ?_
  refine g_bipush h 31 (v := 31) (by decide) dX13_gains_73 ?_
  refine g_iconst h 1 (v := 1) (by decide) dX13_gains_75 ?_
  have zf1 := bd_some zf
  clear zf; obtain ⟨Mq7, zq, zf⟩ := zf1
  refine g_callVwv (As := [.int 31, .int 1]) (rest := []) h ceX13_ends mlX13_400 imX13_ends seX13_ends (by rfl) (kd_lt (by rw [(by decide : kd 103 = 11)]; decide)) (ent_11 (by decide : kd 103 = 11)) rfl rfl ⟨by decide, by decide⟩ ⟨by decide, by decide⟩ rfl dX13_gains_76 rfl (Nat.le_of_ble_eq_true rfl) (cmX13_ends zq) ?_
  refine g_iinc h 5 5 rfl (v := x5 + 1) (congrArg (fun z => x5 + z) (by decide : Int32.ofInt (1) = (1 : Int32))) [(5, .int (x5 + 1)), (4, .int s0), (0, rv G.1 103), (1, .int x1), (2, .int x2), (3, .int x3)] (by decide) rfl dX13_gains_79 ?_
  refine g_nmV zf ?_
  clear zf; intro vq8 zf
  refine g_goto h 13 (by decide) dX13_gains_82 ?_
  refine g_sub h [2, 3, 4, 5, 1, 0] rfl ?_
  exact zh13 _ _ _ _ _ _ _ zf

theorem kX13_gains_b46 {G : GX} (h : OKm G cX13_gains RX13 7 (some .int) { frames := 7, cells := 0, slots := 0, locals := 166 }) {a13 : Mem → Int32 → Int32 → Int32 → Int32 → Int32 → Option (Int32 × Mem)} (zh13 : ∀ (M : Mem) (x1 : Int32) (x2 : Int32) (x3 : Int32) (x4 : Int32) (x5 : Int32) (res : (Int32 × Mem)), a13 M x1 x2 x3 x4 x5 = some res → GG G (Qm G (Pwi res) 0 0) 0 0 13 [(0, rv G.1 103), (1, .int x1), (2, .int x2), (3, .int x3), (4, .int x4), (5, .int x5)] [] M) {M : Mem} {x1 : Int32} {x2 : Int32} {x3 : Int32} {x5 : Int32} {s0 : Int32} {res : (Int32 × Mem)} (zf : fX13_gains_b46 a13 M x1 x2 x3 x5 s0 = some res) : GG G (Qm G (Pwi res) 0 0) 0 0 46 [(0, rv G.1 103), (1, .int x1), (2, .int x2), (3, .int x3), (5, .int x5)] [.int s0] M := by
  unfold fX13_gains_b46 at zf
  refine g_istore h [(6, .int s0), (0, rv G.1 103), (1, .int x1), (2, .int x2), (3, .int x3), (5, .int x5)] (by decide) rfl dX13_gains_46 ?_
  refine g_aload_n h 1 rfl dX13_gains_48 ?_
  refine g_bipush h 31 (v := 31) (by decide) dX13_gains_49 ?_
  refine g_iload h 0 rfl dX13_gains_51 ?_
  have zf1 := b2_some zf
  clear zf; obtain ⟨vq5, Mq6, zq, zf⟩ := zf1
  refine g_callVwi (As := [.int 31, .int s0]) (rest := []) h ceX13_does mlX13_396 imX13_does seX13_does (by rfl) (kd_lt (by rw [(by decide : kd 103 = 11)]; decide)) (ent_11 (by decide : kd 103 = 11)) rfl rfl ⟨by decide, by decide⟩ ⟨by decide, by decide⟩ rfl dX13_gains_53 rfl (Nat.le_of_ble_eq_true rfl) (cmX13_does zq) ?_
  refine g_if_eq h 69 (by decide) zf dX13_gains_56 ?_ ?_ <;> clear zf <;> intro zf
  · refine g_iconst h 0 (v := 0) (by decide) dX13_gains_69 ?_
    refine g_sub h [1, 2, 3, 4, 5] rfl ?_
    exact kX13_gains_b70 h zh13 zf
  · refine g_aload_n h 1 rfl dX13_gains_59 ?_
    refine gfX13_26 h (by decide : kd 103 = 11) dX13_gains_60 ?_
    refine g_iload h 0 rfl dX13_gains_63 ?_
    refine g_iald h 7 (by decide : kd 107 = 20) (by decide) zf dX13_gains_65 ?_
    clear zf; intro vq9 zf
    refine g_goto h 70 (by decide) dX13_gains_66 ?_
    refine g_sub h [1, 2, 3, 4, 5] rfl ?_
    exact kX13_gains_b70 h zh13 zf

theorem kX13_gains_l13 {G : GX} (h : OKm G cX13_gains RX13 7 (some .int) { frames := 7, cells := 0, slots := 0, locals := 166 }) : ∀ (n : Nat) (M : Mem) (x1 : Int32) (x2 : Int32) (x3 : Int32) (x4 : Int32) (x5 : Int32) (res : (Int32 × Mem)), fX13_gains_l13 n M x1 x2 x3 x4 x5 = some res → GG G (Qm G (Pwi res) 0 0) 0 0 13 [(0, rv G.1 103), (1, .int x1), (2, .int x2), (3, .int x3), (4, .int x4), (5, .int x5)] [] M := by
  intro n
  induction n with
  | zero => intro M x1 x2 x3 x4 x5 res zf; rw [fX13_gains_l13] at zf; cases zf
  | succ n ih =>
    intro M x1 x2 x3 x4 x5 res zf
    rw [fX13_gains_l13] at zf
    refine g_iload h 5 rfl dX13_gains_13 ?_
    refine g_iload_n h 1 rfl dX13_gains_15 ?_
    refine g_ic_gt h 85 (by decide) zf dX13_gains_16 ?_ ?_ <;> clear zf <;> intro zf
    · refine g_iload_n h 2 rfl dX13_gains_85 ?_
      refine g_iload_n h 3 rfl dX13_gains_86 ?_
      refine g_ic_ne h 97 (by decide) zf dX13_gains_87 ?_ ?_ <;> clear zf <;> intro zf
      · refine g_iload h 4 rfl dX13_gains_97 ?_
        obtain rfl := Option.some.inj zf
        exact g_iret h rfl ⟨rfl, rfl⟩ (Nat.le_refl _) (Nat.le_refl _) dX13_gains_99
      · refine g_iload h 4 rfl dX13_gains_90 ?_
        refine g_iconst h 3 (v := 3) (by decide) dX13_gains_92 ?_
        refine g_isub h dX13_gains_93 ?_
        refine g_goto h 99 (by decide) dX13_gains_94 ?_
        obtain rfl := Option.some.inj zf
        exact g_iret h rfl ⟨rfl, rfl⟩ (Nat.le_refl _) (Nat.le_refl _) dX13_gains_99
    · refine g_aload_n h 0 rfl dX13_gains_19 ?_
      refine g_bipush h 31 (v := 31) (by decide) dX13_gains_20 ?_
      refine g_aload_n h 0 rfl dX13_gains_22 ?_
      refine g_aload_n h 0 rfl dX13_gains_23 ?_
      refine gfX13_108 h (by decide : kd 103 = 11) dX13_gains_24 ?_
      refine g_bipush h 34 (v := 34) (by decide) dX13_gains_27 ?_
      refine g_iald h 186 (by decide : kd 133 = 20) (by decide) zf dX13_gains_29 ?_
      clear zf; intro vq2 zf
      have zf1 := bd_some zf
      clear zf; obtain ⟨vq3, zq, zf⟩ := zf1
      refine g_callVri (As := [.int vq2]) (rest := [.int 31, rv G.1 103]) h ceX13_harvestOf mlX13_387 imX13_harvestOf seX13_harvestOf (by rfl) (kd_lt (by rw [(by decide : kd 103 = 11)]; decide)) (ent_11 (by decide : kd 103 = 11)) rfl rfl ⟨by decide, by decide⟩ ⟨by decide, by decide⟩ rfl dX13_gains_30 rfl (Nat.le_of_ble_eq_true rfl) (cmX13_harvestOf zq) ?_
      have zf1 := bd_some zf
      clear zf; obtain ⟨Mq4, zq, zf⟩ := zf1
      refine g_callVwv (As := [.int 31, .int vq3]) (rest := []) h ceX13_gathers mlX13_390 imX13_gathers seX13_gathers (by rfl) (kd_lt (by rw [(by decide : kd 103 = 11)]; decide)) (ent_11 (by decide : kd 103 = 11)) rfl rfl ⟨by decide, by decide⟩ ⟨by decide, by decide⟩ rfl dX13_gains_33 rfl (Nat.le_of_ble_eq_true rfl) (cmX13_gathers zq) ?_
      refine g_iload h 5 rfl dX13_gains_36 ?_
      refine g_if_ne h 45 (by decide) zf dX13_gains_38 ?_ ?_ <;> clear zf <;> intro zf
      · refine g_iload_n h 3 rfl dX13_gains_45 ?_
        refine g_sub h [0, 1, 2, 3, 5] rfl ?_
        exact kX13_gains_b46 h ih zf
      · refine g_iload_n h 2 rfl dX13_gains_41 ?_
        refine g_goto h 46 (by decide) dX13_gains_42 ?_
        refine g_sub h [0, 1, 2, 3, 5] rfl ?_
        exact kX13_gains_b46 h ih zf

theorem kX13_gains_e0 {G : GX} (h : OKm G cX13_gains RX13 7 (some .int) { frames := 7, cells := 0, slots := 0, locals := 166 }) {M : Mem} {x1 : Int32} {x2 : Int32} {x3 : Int32} {res : (Int32 × Mem)} (zf : fX13_gains M x1 x2 x3 = some res) : GG G (Qm G (Pwi res) 0 0) 0 0 0 [(0, rv G.1 103), (1, .int x1), (2, .int x2), (3, .int x3)] [] M := by
  unfold fX13_gains at zf
  refine g_aload_n h 0 rfl dX13_gains_0 ?_
  refine g_iconst h 0 (v := 0) (by decide) dX13_gains_1 ?_
  refine g_bipush h 31 (v := 31) (by decide) dX13_gains_2 ?_
  have zf1 := bd_some zf
  clear zf; obtain ⟨Mq1, zq, zf⟩ := zf1
  refine g_callVwv (As := [.int 0, .int 31]) (rest := []) h ceX13_lays0 mlX13_432 imX13_lays0 seX13_lays0 (by rfl) (kd_lt (by rw [(by decide : kd 103 = 11)]; decide)) (ent_11 (by decide : kd 103 = 11)) rfl rfl ⟨by decide, by decide⟩ ⟨by decide, by decide⟩ rfl dX13_gains_4 rfl (Nat.le_of_ble_eq_true rfl) (cmX13_lays0 zq) ?_
  refine g_iconst h 0 (v := 0) (by decide) dX13_gains_7 ?_
  refine g_istore h [(4, .int 0), (0, rv G.1 103), (1, .int x1), (2, .int x2), (3, .int x3)] (by decide) rfl dX13_gains_8 ?_
  refine g_iconst h 0 (v := 0) (by decide) dX13_gains_10 ?_
  refine g_istore h [(5, .int 0), (4, .int 0), (0, rv G.1 103), (1, .int x1), (2, .int x2), (3, .int x3)] (by decide) rfl dX13_gains_11 ?_
  refine g_sub h [2, 3, 4, 5, 1, 0] rfl ?_
  exact kX13_gains_l13 h _ _ _ _ _ _ _ _ zf

theorem cmX13_gains {l : Launch} {w : WX} {M : Mem} {x1 : Int32} {x2 : Int32} {x3 : Int32} {res : (Int32 × Mem)} (zf : fX13_gains M x1 x2 x3 = some res) : CM l w yX13_gains cX13_gains 7 (some .int) { frames := 7, cells := 0, slots := 0, locals := 166 } 0 0 [rv w 103, .int x1, .int x2, .int x3] M (Pwi res) := by
  refine CM_of (by decide) (Nat.le_of_ble_eq_true rfl) (fun G hw hl h => ?_)
  subst hw
  exact kX13_gains_e0 h zf

-- X13_game
theorem kX13_game_b189 {G : GX} (h : OKm G cX13_game RX13 11 (some .int) { frames := 8, cells := 0, slots := 0, locals := 192 }) {a59 : Mem → Int32 → Int32 → Int32 → Int32 → Int32 → Int32 → Option (Int32 × Mem)} (zh59 : ∀ (M : Mem) (x1 : Int32) (x2 : Int32) (x3 : Int32) (x4 : Int32) (x5 : Int32) (x6 : Int32) (res : (Int32 × Mem)), a59 M x1 x2 x3 x4 x5 x6 = some res → GG G (Qm G (Pwi res) 0 0) 0 0 59 [(0, rv G.1 103), (1, .int x1), (2, .int x2), (3, .int x3), (4, .int x4), (5, .int x5), (6, .int x6)] [] M) {M : Mem} {x1 : Int32} {x2 : Int32} {x3 : Int32} {x4 : Int32} {x5 : Int32} {x6 : Int32} {res : (Int32 × Mem)} (zf : fX13_game_b189 a59 M x1 x2 x3 x4 x5 x6 = some res) : GG G (Qm G (Pwi res) 0 0) 0 0 189 [(0, rv G.1 103), (1, .int x1), (2, .int x2), (3, .int x3), (4, .int x4), (5, .int x5), (6, .int x6)] [] M := by
  unfold fX13_game_b189 at zf
  refine g_iinc h 6 6 rfl (v := x6 + 1) (congrArg (fun z => x6 + z) (by decide : Int32.ofInt (1) = (1 : Int32))) [(6, .int (x6 + 1)), (0, rv G.1 103), (1, .int x1), (2, .int x2), (3, .int x3), (4, .int x4), (5, .int x5)] (by decide) rfl dX13_game_189 ?_
  refine g_nmV zf ?_
  clear zf; intro vq14 zf
  refine g_goto h 59 (by decide) dX13_game_192 ?_
  refine g_sub h [1, 2, 3, 4, 5, 6, 0] rfl ?_
  exact zh59 _ _ _ _ _ _ _ _ zf

theorem kX13_game_b119 {G : GX} (h : OKm G cX13_game RX13 11 (some .int) { frames := 8, cells := 0, slots := 0, locals := 192 }) {a59 : Mem → Int32 → Int32 → Int32 → Int32 → Int32 → Int32 → Option (Int32 × Mem)} (zh59 : ∀ (M : Mem) (x1 : Int32) (x2 : Int32) (x3 : Int32) (x4 : Int32) (x5 : Int32) (x6 : Int32) (res : (Int32 × Mem)), a59 M x1 x2 x3 x4 x5 x6 = some res → GG G (Qm G (Pwi res) 0 0) 0 0 59 [(0, rv G.1 103), (1, .int x1), (2, .int x2), (3, .int x3), (4, .int x4), (5, .int x5), (6, .int x6)] [] M) {M : Mem} {x1 : Int32} {x2 : Int32} {x3 : Int32} {x4 : Int32} {x5 : Int32} {x6 : Int32} {x7 : Int32} {x8 : Int32} {x9 : Int32} {s0 : Int32} {res : (Int32 × Mem)} (zf : fX13_game_b119 a59 M x1 x2 x3 x4 x5 x6 x7 x8 x9 s0 = some res) : GG G (Qm G (Pwi res) 0 0) 0 0 119 [(0, rv G.1 103), (1, .int x1), (2, .int x2), (3, .int x3), (4, .int x4), (5, .int x5), (6, .int x6), (7, .int x7), (8, .int x8), (9, .int x9)] [.int s0] M := by
  unfold fX13_game_b119 at zf
  refine g_istore h [(10, .int s0), (0, rv G.1 103), (1, .int x1), (2, .int x2), (3, .int x3), (4, .int x4), (5, .int x5), (6, .int x6), (7, .int x7), (8, .int x8), (9, .int x9)] (by decide) rfl dX13_game_119 ?_
  refine g_aload_n h 1 rfl dX13_game_121 ?_
  refine g_iconst h 0 (v := 0) (by decide) dX13_game_122 ?_
  refine g_iload h 9 rfl dX13_game_123 ?_
  refine g_iload h 10 rfl dX13_game_125 ?_
  have zf1 := b2_some zf
  clear zf; obtain ⟨vq10, Mq11, zq, zf⟩ := zf1
  refine g_callVwi (As := [.int 0, .int x8, .int x9]) (rest := []) h ceX13_gains mlX13_477 imX13_gains seX13_gains (by rfl) (kd_lt (by rw [(by decide : kd 103 = 11)]; decide)) (ent_11 (by decide : kd 103 = 11)) rfl rfl ⟨by decide, by decide⟩ ⟨by decide, by decide⟩ rfl dX13_game_127 rfl (Nat.le_of_ble_eq_true rfl) (cmX13_gains zq) ?_
  refine g_aload_n h 1 rfl dX13_game_130 ?_
  refine g_iconst h 0 (v := 0) (by decide) dX13_game_131 ?_
  refine g_iload h 8 rfl dX13_game_132 ?_
  refine g_iload h 10 rfl dX13_game_134 ?_
  have zf1 := b2_some zf
  clear zf; obtain ⟨vq12, Mq13, zq, zf⟩ := zf1
  refine g_callVwi (As := [.int 0, .int x7, .int x9]) (rest := [.int vq10]) h ceX13_gains mlX13_477 imX13_gains seX13_gains (by rfl) (kd_lt (by rw [(by decide : kd 103 = 11)]; decide)) (ent_11 (by decide : kd 103 = 11)) rfl rfl ⟨by decide, by decide⟩ ⟨by decide, by decide⟩ rfl dX13_game_136 rfl (Nat.le_of_ble_eq_true rfl) (cmX13_gains zq) ?_
  refine g_ic_gt h 189 (by decide) zf dX13_game_139 ?_ ?_ <;> clear zf <;> intro zf
  · refine g_sub h [1, 2, 3, 4, 5, 6, 7] rfl ?_
    exact kX13_game_b189 h zh59 zf
  · refine g_aload_n h 1 rfl dX13_game_142 ?_
    refine g_iconst h 1 (v := 1) (by decide) dX13_game_143 ?_
    refine g_iload h 8 rfl dX13_game_144 ?_
    refine g_iload h 0 rfl dX13_game_146 ?_
    have zf1 := b2_some zf
    clear zf; obtain ⟨vq15, Mq16, zq, zf⟩ := zf1
    refine g_callVwi (As := [.int 1, .int x7, .int s0]) (rest := []) h ceX13_gains mlX13_477 imX13_gains seX13_gains (by rfl) (kd_lt (by rw [(by decide : kd 103 = 11)]; decide)) (ent_11 (by decide : kd 103 = 11)) rfl rfl ⟨by decide, by decide⟩ ⟨by decide, by decide⟩ rfl dX13_game_148 rfl (Nat.le_of_ble_eq_true rfl) (cmX13_gains zq) ?_
    refine g_aload_n h 1 rfl dX13_game_151 ?_
    refine g_iconst h 1 (v := 1) (by decide) dX13_game_152 ?_
    refine g_iload h 8 rfl dX13_game_153 ?_
    refine g_iload h 10 rfl dX13_game_155 ?_
    have zf1 := b2_some zf
    clear zf; obtain ⟨vq17, Mq18, zq, zf⟩ := zf1
    refine g_callVwi (As := [.int 1, .int x7, .int x9]) (rest := [.int vq15]) h ceX13_gains mlX13_477 imX13_gains seX13_gains (by rfl) (kd_lt (by rw [(by decide : kd 103 = 11)]; decide)) (ent_11 (by decide : kd 103 = 11)) rfl rfl ⟨by decide, by decide⟩ ⟨by decide, by decide⟩ rfl dX13_game_157 rfl (Nat.le_of_ble_eq_true rfl) (cmX13_gains zq) ?_
    refine g_ic_le h 166 (by decide) zf dX13_game_160 ?_ ?_ <;> clear zf <;> intro zf
    · refine g_iinc h 4 5 rfl (v := x4 + 1) (congrArg (fun z => x4 + z) (by decide : Int32.ofInt (1) = (1 : Int32))) [(4, .int (x4 + 1)), (10, .int s0), (0, rv G.1 103), (1, .int x1), (2, .int x2), (3, .int x3), (5, .int x5), (6, .int x6), (7, .int x7), (8, .int x8), (9, .int x9)] (by decide) rfl dX13_game_166 ?_
      refine g_nmV zf ?_
      clear zf; intro vq19 zf
      refine g_iload h 6 rfl dX13_game_169 ?_
      refine g_iconst h (-1) (v := (-1)) (by decide) dX13_game_171 ?_
      refine g_ic_ne h 189 (by decide) zf dX13_game_172 ?_ ?_ <;> clear zf <;> intro zf
      · refine g_sub h [2, 3, 4, 5, 0, 6, 7] rfl ?_
        exact kX13_game_b189 h zh59 zf
      · refine g_bipush h 10 (v := 10) (by decide) dX13_game_175 ?_
        refine g_iload h 7 rfl dX13_game_177 ?_
        refine g_iconst h 2 (v := 2) (by decide) dX13_game_179 ?_
        refine g_idiv h (by decide) dX13_game_180 ?_
        refine g_imul h dX13_game_181 ?_
        refine g_iload h 7 rfl dX13_game_182 ?_
        refine g_iconst h 2 (v := 2) (by decide) dX13_game_184 ?_
        refine g_irem h (by decide) dX13_game_185 ?_
        refine g_iadd h dX13_game_186 ?_
        refine g_nmI zf ?_
        clear zf; intro vq20 zf
        refine g_istore h [(5, .int vq20), (4, .int vq19), (10, .int s0), (0, rv G.1 103), (1, .int x1), (2, .int x2), (3, .int x3), (6, .int x6), (7, .int x7), (8, .int x8), (9, .int x9)] (by decide) rfl dX13_game_187 ?_
        refine g_sub h [3, 4, 5, 6, 1, 0, 7] rfl ?_
        exact kX13_game_b189 h zh59 zf
    · refine g_goto h 189 (by decide) dX13_game_163 ?_
      refine g_sub h [1, 2, 3, 4, 5, 6, 7] rfl ?_
      exact kX13_game_b189 h zh59 zf

theorem kX13_game_b105 {G : GX} (h : OKm G cX13_game RX13 11 (some .int) { frames := 8, cells := 0, slots := 0, locals := 192 }) {a59 : Mem → Int32 → Int32 → Int32 → Int32 → Int32 → Int32 → Option (Int32 × Mem)} (zh59 : ∀ (M : Mem) (x1 : Int32) (x2 : Int32) (x3 : Int32) (x4 : Int32) (x5 : Int32) (x6 : Int32) (res : (Int32 × Mem)), a59 M x1 x2 x3 x4 x5 x6 = some res → GG G (Qm G (Pwi res) 0 0) 0 0 59 [(0, rv G.1 103), (1, .int x1), (2, .int x2), (3, .int x3), (4, .int x4), (5, .int x5), (6, .int x6)] [] M) {M : Mem} {x1 : Int32} {x2 : Int32} {x3 : Int32} {x4 : Int32} {x5 : Int32} {x6 : Int32} {x7 : Int32} {x8 : Int32} {s0 : Int32} {res : (Int32 × Mem)} (zf : fX13_game_b105 a59 M x1 x2 x3 x4 x5 x6 x7 x8 s0 = some res) : GG G (Qm G (Pwi res) 0 0) 0 0 105 [(0, rv G.1 103), (1, .int x1), (2, .int x2), (3, .int x3), (4, .int x4), (5, .int x5), (6, .int x6), (7, .int x7), (8, .int x8)] [.int s0] M := by
  unfold fX13_game_b105 at zf
  refine g_istore h [(9, .int s0), (0, rv G.1 103), (1, .int x1), (2, .int x2), (3, .int x3), (4, .int x4), (5, .int x5), (6, .int x6), (7, .int x7), (8, .int x8)] (by decide) rfl dX13_game_105 ?_
  refine g_iload h 7 rfl dX13_game_107 ?_
  refine g_iconst h 2 (v := 2) (by decide) dX13_game_109 ?_
  refine g_irem h (by decide) dX13_game_110 ?_
  refine g_if_ne h 118 (by decide) zf dX13_game_111 ?_ ?_ <;> clear zf <;> intro zf
  · refine g_iload_n h 2 rfl dX13_game_118 ?_
    refine g_sub h [1, 2, 3, 4, 5, 6, 7, 8, 9, 0] rfl ?_
    exact kX13_game_b119 h zh59 zf
  · refine g_iload_n h 3 rfl dX13_game_114 ?_
    refine g_goto h 119 (by decide) dX13_game_115 ?_
    refine g_sub h [1, 2, 3, 4, 5, 6, 7, 8, 9, 0] rfl ?_
    exact kX13_game_b119 h zh59 zf

theorem kX13_game_b91 {G : GX} (h : OKm G cX13_game RX13 11 (some .int) { frames := 8, cells := 0, slots := 0, locals := 192 }) {a59 : Mem → Int32 → Int32 → Int32 → Int32 → Int32 → Int32 → Option (Int32 × Mem)} (zh59 : ∀ (M : Mem) (x1 : Int32) (x2 : Int32) (x3 : Int32) (x4 : Int32) (x5 : Int32) (x6 : Int32) (res : (Int32 × Mem)), a59 M x1 x2 x3 x4 x5 x6 = some res → GG G (Qm G (Pwi res) 0 0) 0 0 59 [(0, rv G.1 103), (1, .int x1), (2, .int x2), (3, .int x3), (4, .int x4), (5, .int x5), (6, .int x6)] [] M) {M : Mem} {x1 : Int32} {x2 : Int32} {x3 : Int32} {x4 : Int32} {x5 : Int32} {x6 : Int32} {x7 : Int32} {s0 : Int32} {res : (Int32 × Mem)} (zf : fX13_game_b91 a59 M x1 x2 x3 x4 x5 x6 x7 s0 = some res) : GG G (Qm G (Pwi res) 0 0) 0 0 91 [(0, rv G.1 103), (1, .int x1), (2, .int x2), (3, .int x3), (4, .int x4), (5, .int x5), (6, .int x6), (7, .int x7)] [.int s0] M := by
  unfold fX13_game_b91 at zf
  refine g_istore h [(8, .int s0), (0, rv G.1 103), (1, .int x1), (2, .int x2), (3, .int x3), (4, .int x4), (5, .int x5), (6, .int x6), (7, .int x7)] (by decide) rfl dX13_game_91 ?_
  refine g_iload h 7 rfl dX13_game_93 ?_
  refine g_iconst h 2 (v := 2) (by decide) dX13_game_95 ?_
  refine g_irem h (by decide) dX13_game_96 ?_
  refine g_if_ne h 104 (by decide) zf dX13_game_97 ?_ ?_ <;> clear zf <;> intro zf
  · refine g_iload_n h 3 rfl dX13_game_104 ?_
    refine g_sub h [1, 2, 3, 4, 5, 6, 7, 8, 0] rfl ?_
    exact kX13_game_b105 h zh59 zf
  · refine g_iload_n h 2 rfl dX13_game_100 ?_
    refine g_goto h 105 (by decide) dX13_game_101 ?_
    refine g_sub h [1, 2, 3, 4, 5, 6, 7, 8, 0] rfl ?_
    exact kX13_game_b105 h zh59 zf

theorem kX13_game_b77 {G : GX} (h : OKm G cX13_game RX13 11 (some .int) { frames := 8, cells := 0, slots := 0, locals := 192 }) {a59 : Mem → Int32 → Int32 → Int32 → Int32 → Int32 → Int32 → Option (Int32 × Mem)} (zh59 : ∀ (M : Mem) (x1 : Int32) (x2 : Int32) (x3 : Int32) (x4 : Int32) (x5 : Int32) (x6 : Int32) (res : (Int32 × Mem)), a59 M x1 x2 x3 x4 x5 x6 = some res → GG G (Qm G (Pwi res) 0 0) 0 0 59 [(0, rv G.1 103), (1, .int x1), (2, .int x2), (3, .int x3), (4, .int x4), (5, .int x5), (6, .int x6)] [] M) {M : Mem} {x1 : Int32} {x2 : Int32} {x3 : Int32} {x4 : Int32} {x5 : Int32} {x6 : Int32} {s0 : Int32} {res : (Int32 × Mem)} (zf : fX13_game_b77 a59 M x1 x2 x3 x4 x5 x6 s0 = some res) : GG G (Qm G (Pwi res) 0 0) 0 0 77 [(0, rv G.1 103), (1, .int x1), (2, .int x2), (3, .int x3), (4, .int x4), (5, .int x5), (6, .int x6)] [.int s0] M := by
  unfold fX13_game_b77 at zf
  refine g_istore h [(7, .int s0), (0, rv G.1 103), (1, .int x1), (2, .int x2), (3, .int x3), (4, .int x4), (5, .int x5), (6, .int x6)] (by decide) rfl dX13_game_77 ?_
  refine g_iload h 7 rfl dX13_game_79 ?_
  refine g_iconst h 2 (v := 2) (by decide) dX13_game_81 ?_
  refine g_idiv h (by decide) dX13_game_82 ?_
  refine g_if_ne h 90 (by decide) zf dX13_game_83 ?_ ?_ <;> clear zf <;> intro zf
  · refine g_iload_n h 2 rfl dX13_game_90 ?_
    refine g_sub h [1, 2, 3, 4, 5, 6, 7, 0] rfl ?_
    exact kX13_game_b91 h zh59 zf
  · refine g_iload_n h 3 rfl dX13_game_86 ?_
    refine g_goto h 91 (by decide) dX13_game_87 ?_
    refine g_sub h [1, 2, 3, 4, 5, 6, 7, 0] rfl ?_
    exact kX13_game_b91 h zh59 zf

theorem kX13_game_l59 {G : GX} (h : OKm G cX13_game RX13 11 (some .int) { frames := 8, cells := 0, slots := 0, locals := 192 }) : ∀ (n : Nat) (M : Mem) (x1 : Int32) (x2 : Int32) (x3 : Int32) (x4 : Int32) (x5 : Int32) (x6 : Int32) (res : (Int32 × Mem)), fX13_game_l59 n M x1 x2 x3 x4 x5 x6 = some res → GG G (Qm G (Pwi res) 0 0) 0 0 59 [(0, rv G.1 103), (1, .int x1), (2, .int x2), (3, .int x3), (4, .int x4), (5, .int x5), (6, .int x6)] [] M := by
  intro n
  induction n with
  | zero => intro M x1 x2 x3 x4 x5 x6 res zf; rw [fX13_game_l59] at zf; cases zf
  | succ n ih =>
    intro M x1 x2 x3 x4 x5 x6 res zf
    rw [fX13_game_l59] at zf
    refine g_iload h 6 rfl dX13_game_59 ?_
    refine g_iconst h 4 (v := 4) (by decide) dX13_game_61 ?_
    refine g_ic_ge h 195 (by decide) zf dX13_game_62 ?_ ?_ <;> clear zf <;> intro zf
    · refine g_iload_n h 3 rfl dX13_game_195 ?_
      refine g_if_ne h 204 (by decide) zf dX13_game_196 ?_ ?_ <;> clear zf <;> intro zf
      · refine g_iload h 5 rfl dX13_game_204 ?_
        obtain rfl := Option.some.inj zf
        exact g_iret h rfl ⟨rfl, rfl⟩ (Nat.le_refl _) (Nat.le_refl _) dX13_game_206
      · refine g_iload h 4 rfl dX13_game_199 ?_
        refine g_goto h 206 (by decide) dX13_game_201 ?_
        obtain rfl := Option.some.inj zf
        exact g_iret h rfl ⟨rfl, rfl⟩ (Nat.le_refl _) (Nat.le_refl _) dX13_game_206
    · refine g_iload h 6 rfl dX13_game_65 ?_
      refine g_iconst h 2 (v := 2) (by decide) dX13_game_67 ?_
      refine g_idiv h (by decide) dX13_game_68 ?_
      refine g_if_ne h 76 (by decide) zf dX13_game_69 ?_ ?_ <;> clear zf <;> intro zf
      · refine g_iload_n h 2 rfl dX13_game_76 ?_
        refine g_sub h [0, 1, 2, 3, 4, 5, 6] rfl ?_
        exact kX13_game_b77 h ih zf
      · refine g_iload_n h 1 rfl dX13_game_72 ?_
        refine g_goto h 77 (by decide) dX13_game_73 ?_
        refine g_sub h [0, 1, 2, 3, 4, 5, 6] rfl ?_
        exact kX13_game_b77 h ih zf

theorem kX13_game_b41 {G : GX} (h : OKm G cX13_game RX13 11 (some .int) { frames := 8, cells := 0, slots := 0, locals := 192 }) {M : Mem} {x1 : Int32} {x2 : Int32} {x3 : Int32} {s0 : Int32} {res : (Int32 × Mem)} (zf : fX13_game_b41 M x1 x2 x3 s0 = some res) : GG G (Qm G (Pwi res) 0 0) 0 0 41 [(0, rv G.1 103), (1, .int x1), (2, .int x2), (3, .int x3)] [.int s0, rv G.1 103] M := by
  unfold fX13_game_b41 at zf
  refine g_iconst h 2 (v := 2) (by decide) dX13_game_41 ?_
  have zf1 := b2_some zf
  clear zf; obtain ⟨vq8, Mq9, zq, zf⟩ := zf1
  refine g_callVwi (As := [.int s0, .int 2]) (rest := []) h ceX13_right mlX13_326 imX13_right seX13_right (by rfl) (kd_lt (by rw [(by decide : kd 103 = 11)]; decide)) (ent_11 (by decide : kd 103 = 11)) rfl rfl ⟨by decide, by decide⟩ ⟨by decide, by decide⟩ rfl dX13_game_42 rfl (Nat.le_of_ble_eq_true rfl) (cmX13_right zq) ?_
  refine g_if_ne h 50 (by decide) zf dX13_game_45 ?_ ?_ <;> clear zf <;> intro zf
  · refine g_iconst h 0 (v := 0) (by decide) dX13_game_50 ?_
    refine g_istore h [(4, .int 0), (0, rv G.1 103), (1, .int x1), (2, .int x2), (3, .int x3)] (by decide) rfl dX13_game_51 ?_
    refine g_iconst h (-1) (v := (-1)) (by decide) dX13_game_53 ?_
    refine g_istore h [(5, .int (-1)), (4, .int 0), (0, rv G.1 103), (1, .int x1), (2, .int x2), (3, .int x3)] (by decide) rfl dX13_game_54 ?_
    refine g_iconst h 0 (v := 0) (by decide) dX13_game_56 ?_
    refine g_istore h [(6, .int 0), (5, .int (-1)), (4, .int 0), (0, rv G.1 103), (1, .int x1), (2, .int x2), (3, .int x3)] (by decide) rfl dX13_game_57 ?_
    refine g_sub h [3, 4, 5, 6, 2, 1, 0] rfl ?_
    exact kX13_game_l59 h _ _ _ _ _ _ _ _ _ zf
  · refine g_iconst h 0 (v := 0) (by decide) dX13_game_48 ?_
    obtain rfl := Option.some.inj zf
    exact g_iret h rfl ⟨rfl, rfl⟩ (Nat.le_refl _) (Nat.le_refl _) dX13_game_49

theorem kX13_game_e0 {G : GX} (h : OKm G cX13_game RX13 11 (some .int) { frames := 8, cells := 0, slots := 0, locals := 192 }) {M : Mem} {x1 : Int32} {x2 : Int32} {x3 : Int32} {res : (Int32 × Mem)} (zf : fX13_game M x1 x2 x3 = some res) : GG G (Qm G (Pwi res) 0 0) 0 0 0 [(0, rv G.1 103), (1, .int x1), (2, .int x2), (3, .int x3)] [] M := by
  unfold fX13_game at zf
  refine g_aload_n h 0 rfl dX13_game_0 ?_
  refine g_iconst h 0 (v := 0) (by decide) dX13_game_1 ?_
  refine pfX13_141 h (by decide : kd 103 = 11) dX13_game_2 ?_
  refine g_nmM zf ?_
  clear zf; intro Mq1 zf
  refine g_aload_n h 0 rfl dX13_game_5 ?_
  refine g_iload_n h 1 rfl dX13_game_6 ?_
  have zf1 := b2_some zf
  clear zf; obtain ⟨vq2, Mq3, zq, zf⟩ := zf1
  refine g_callVwi (As := [.int x1]) (rest := []) h ceX13_isDeed mlX13_411 imX13_isDeed seX13_isDeed (by rfl) (kd_lt (by rw [(by decide : kd 103 = 11)]; decide)) (ent_11 (by decide : kd 103 = 11)) rfl rfl ⟨by decide, by decide⟩ ⟨by decide, by decide⟩ rfl dX13_game_7 rfl (Nat.le_of_ble_eq_true rfl) (cmX13_isDeed zq) ?_
  refine g_if_eq h 48 (by decide) zf dX13_game_10 ?_ ?_ <;> clear zf <;> intro zf
  · refine g_iconst h 0 (v := 0) (by decide) dX13_game_48 ?_
    obtain rfl := Option.some.inj zf
    exact g_iret h rfl ⟨rfl, rfl⟩ (Nat.le_refl _) (Nat.le_refl _) dX13_game_49
  · refine g_aload_n h 0 rfl dX13_game_13 ?_
    refine g_iload_n h 2 rfl dX13_game_14 ?_
    have zf1 := b2_some zf
    clear zf; obtain ⟨vq4, Mq5, zq, zf⟩ := zf1
    refine g_callVwi (As := [.int x2]) (rest := []) h ceX13_isDeed mlX13_411 imX13_isDeed seX13_isDeed (by rfl) (kd_lt (by rw [(by decide : kd 103 = 11)]; decide)) (ent_11 (by decide : kd 103 = 11)) rfl rfl ⟨by decide, by decide⟩ ⟨by decide, by decide⟩ rfl dX13_game_15 rfl (Nat.le_of_ble_eq_true rfl) (cmX13_isDeed zq) ?_
    refine g_if_eq h 48 (by decide) zf dX13_game_18 ?_ ?_ <;> clear zf <;> intro zf
    · refine g_iconst h 0 (v := 0) (by decide) dX13_game_48 ?_
      obtain rfl := Option.some.inj zf
      exact g_iret h rfl ⟨rfl, rfl⟩ (Nat.le_refl _) (Nat.le_refl _) dX13_game_49
    · refine g_aload_n h 0 rfl dX13_game_21 ?_
      refine g_iload_n h 3 rfl dX13_game_22 ?_
      refine g_iconst h 1 (v := 1) (by decide) dX13_game_23 ?_
      have zf1 := b2_some zf
      clear zf; obtain ⟨vq6, Mq7, zq, zf⟩ := zf1
      refine g_callVwi (As := [.int x3, .int 1]) (rest := []) h ceX13_isWhat mlX13_414 imX13_isWhat seX13_isWhat (by rfl) (kd_lt (by rw [(by decide : kd 103 = 11)]; decide)) (ent_11 (by decide : kd 103 = 11)) rfl rfl ⟨by decide, by decide⟩ ⟨by decide, by decide⟩ rfl dX13_game_24 rfl (Nat.le_of_ble_eq_true rfl) (cmX13_isWhat zq) ?_
      refine g_if_eq h 48 (by decide) zf dX13_game_27 ?_ ?_ <;> clear zf <;> intro zf
      · refine g_iconst h 0 (v := 0) (by decide) dX13_game_48 ?_
        obtain rfl := Option.some.inj zf
        exact g_iret h rfl ⟨rfl, rfl⟩ (Nat.le_refl _) (Nat.le_refl _) dX13_game_49
      · refine g_aload_n h 0 rfl dX13_game_30 ?_
        refine g_iload_n h 1 rfl dX13_game_31 ?_
        refine g_iload_n h 2 rfl dX13_game_32 ?_
        refine g_ic_eq h 40 (by decide) zf dX13_game_33 ?_ ?_ <;> clear zf <;> intro zf
        · refine g_iconst h 0 (v := 0) (by decide) dX13_game_40 ?_
          refine g_sub h [0, 1, 2, 3] rfl ?_
          exact kX13_game_b41 h zf
        · refine g_iconst h 1 (v := 1) (by decide) dX13_game_36 ?_
          refine g_goto h 41 (by decide) dX13_game_37 ?_
          refine g_sub h [0, 1, 2, 3] rfl ?_
          exact kX13_game_b41 h zf

theorem cmX13_game {l : Launch} {w : WX} {M : Mem} {x1 : Int32} {x2 : Int32} {x3 : Int32} {res : (Int32 × Mem)} (zf : fX13_game M x1 x2 x3 = some res) : CM l w yX13_game cX13_game 11 (some .int) { frames := 8, cells := 0, slots := 0, locals := 192 } 0 0 [rv w 103, .int x1, .int x2, .int x3] M (Pwi res) := by
  refine CM_of (by decide) (Nat.le_of_ble_eq_true rfl) (fun G hw hl h => ?_)
  subst hw
  exact kX13_game_e0 h zf

