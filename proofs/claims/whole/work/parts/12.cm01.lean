-- X1_takeBack
theorem kX1_takeBack_e0 {G : GX} (h : OKm G cX1_takeBack RX1 2 (some .boolean) { frames := 2, cells := 0, slots := 0, locals := 222 }) {M : Mem} {x0 : Nat} {x1 : Nat} {res : (Int32 × Mem)} (zf : fX1_takeBack M x0 x1 = some res) : GG G (Qm G (Pwi res) 0 0) 0 0 0 [(0, rv G.1 x0), (1, rv G.1 x1)] [] M := by
  unfold fX1_takeBack at zf
  have zf1 := pre_ck zf
  clear zf; obtain ⟨zk_x0, zf⟩ := zf1
  have zf1 := pre_ck zf
  clear zf; obtain ⟨zk_x1, zf⟩ := zf1
  refine g_aload_n h 0 rfl dX1_takeBack_0 ?_
  refine gfX1_9 h zk_x0 dX1_takeBack_1 ?_
  refine g_nmI zf ?_
  clear zf; intro vq1 zf
  refine g_if_ne h 9 (by decide) zf dX1_takeBack_4 ?_ ?_ <;> clear zf <;> intro zf
  · refine g_aload_n h 0 rfl dX1_takeBack_9 ?_
    refine g_dup h rfl dX1_takeBack_10 ?_
    refine gfX1_9 h zk_x0 dX1_takeBack_11 ?_
    refine g_nmI zf ?_
    clear zf; intro vq2 zf
    refine g_iconst h 1 (v := 1) (by decide) dX1_takeBack_14 ?_
    refine g_isub h dX1_takeBack_15 ?_
    refine pfX1_9 h zk_x0 dX1_takeBack_16 ?_
    refine g_nmM zf ?_
    clear zf; intro Mq3 zf
    refine g_aload_n h 1 rfl dX1_takeBack_19 ?_
    refine g_aload_n h 0 rfl dX1_takeBack_20 ?_
    refine gfX1_17 h zk_x0 dX1_takeBack_21 ?_
    refine g_aload_n h 0 rfl dX1_takeBack_24 ?_
    refine gfX1_9 h zk_x0 dX1_takeBack_25 ?_
    refine g_nmI zf ?_
    clear zf; intro vq4 zf
    refine g_bipush h 31 (v := 31) (by decide) dX1_takeBack_28 ?_
    refine g_imul h dX1_takeBack_30 ?_
    have zf1 := bd_some zf
    clear zf; obtain ⟨Mq5, zq, zf⟩ := zf1
    refine g_callVwv (As := [rv G.1 (x0 + 1), .int (vq4 * 31)]) (rest := []) h ceX3_read mlX1_31 imX3_read seX3_read (by rfl) (kd_lt (by rw [zk_x1]; decide)) (ent_2 zk_x1) rfl rfl ⟨by decide, by decide⟩ ⟨by decide, by decide⟩ rfl dX1_takeBack_31 rfl (Nat.le_of_ble_eq_true rfl) (cmX3_read zq) ?_
    refine g_iconst h 1 (v := 1) (by decide) dX1_takeBack_34 ?_
    obtain rfl := Option.some.inj zf
    exact g_zret h (by decide) rfl ⟨rfl, rfl⟩ (Nat.le_refl _) (Nat.le_refl _) dX1_takeBack_35
  · refine g_iconst h 0 (v := 0) (by decide) dX1_takeBack_7 ?_
    obtain rfl := Option.some.inj zf
    exact g_zret h (by decide) rfl ⟨rfl, rfl⟩ (Nat.le_refl _) (Nat.le_refl _) dX1_takeBack_8

theorem cmX1_takeBack {l : Launch} {w : WX} {M : Mem} {x0 : Nat} {x1 : Nat} {res : (Int32 × Mem)} (zf : fX1_takeBack M x0 x1 = some res) : CM l w yX1_takeBack cX1_takeBack 2 (some .boolean) { frames := 2, cells := 0, slots := 0, locals := 222 } 0 0 [rv w x0, rv w x1] M (Pwi res) := by
  refine CM_of (by decide) (Nat.le_of_ble_eq_true rfl) (fun G hw hl h => ?_)
  subst hw
  exact kX1_takeBack_e0 h zf

-- X7_wayDeed
theorem kX7_wayDeed_e0 {G : GX} (h : OKm G cX7_wayDeed RX7 4 (some .int) { frames := 0, cells := 0, slots := 0, locals := 0 }) {M : Mem} {x1 : Nat} {x2 : Int32} {res : Int32} (zf : fX7_wayDeed M x1 x2 = some res) : GG G (Qm G (Pri res M) 0 0) 0 0 0 [(0, rv G.1 28), (1, rv G.1 x1), (2, .int x2)] [] M := by
  unfold fX7_wayDeed at zf
  have zf1 := pre_ck zf
  clear zf; obtain ⟨zk_x1, zf⟩ := zf1
  refine g_aload_n h 0 rfl dX7_wayDeed_0 ?_
  refine gfX7_12 h (by decide : kd 28 = 6) dX7_wayDeed_1 ?_
  refine g_nmR zf ?_
  clear zf; intro oq1 zf
  have zf1 := pre_ck zf
  clear zf; obtain ⟨zk_oq1, zf⟩ := zf1
  refine gfX7_37 h zk_oq1 dX7_wayDeed_4 ?_
  refine g_iload_n h 2 rfl dX7_wayDeed_7 ?_
  refine g_iald h 2 (kf4_5 zk_oq1) (lf4_5 zk_oq1) zf dX7_wayDeed_8 ?_
  clear zf; intro vq2 zf
  refine g_istore_n h rfl [(3, .int vq2), (0, rv G.1 28), (1, rv G.1 x1), (2, .int x2)] (by decide) rfl dX7_wayDeed_9 ?_
  refine g_iload_n h 0 rfl dX7_wayDeed_10 ?_
  refine g_if_ne h 16 (by decide) zf dX7_wayDeed_11 ?_ ?_ <;> clear zf <;> intro zf
  · refine g_aload_n h 2 rfl dX7_wayDeed_16 ?_
    refine gfX7_40 h zk_x1 dX7_wayDeed_17 ?_
    refine g_iload_n h 3 rfl dX7_wayDeed_20 ?_
    refine g_bipush h 6 (v := 6) (by decide) dX7_wayDeed_21 ?_
    refine g_imul h dX7_wayDeed_23 ?_
    refine g_aload_n h 2 rfl dX7_wayDeed_24 ?_
    refine gfX7_45 h zk_x1 dX7_wayDeed_25 ?_
    refine g_iload_n h 3 rfl dX7_wayDeed_28 ?_
    refine g_iald h 2 (kf2_1 zk_x1) (lf2_1 zk_x1) zf dX7_wayDeed_29 ?_
    clear zf; intro vq3 zf
    refine g_iload_n h 0 rfl dX7_wayDeed_30 ?_
    have zf1 := pre_if zf
    clear zf; obtain ⟨zne, zf⟩ := zf1
    refine g_irem h zne dX7_wayDeed_31 ?_
    refine g_iadd h dX7_wayDeed_32 ?_
    refine g_iald h 12 (kf2_3 zk_x1) (lf2_3 zk_x1) zf dX7_wayDeed_33 ?_
    clear zf; intro vq4 zf
    obtain rfl := Option.some.inj zf
    exact g_iret h rfl ⟨rfl, rfl⟩ (Nat.le_refl _) (Nat.le_refl _) dX7_wayDeed_34
  · refine g_iconst h (-1) (v := (-1)) (by decide) dX7_wayDeed_14 ?_
    obtain rfl := Option.some.inj zf
    exact g_iret h rfl ⟨rfl, rfl⟩ (Nat.le_refl _) (Nat.le_refl _) dX7_wayDeed_15

theorem cmX7_wayDeed {l : Launch} {w : WX} {M : Mem} {x1 : Nat} {x2 : Int32} {res : Int32} (zf : fX7_wayDeed M x1 x2 = some res) : CM l w yX7_wayDeed cX7_wayDeed 4 (some .int) { frames := 0, cells := 0, slots := 0, locals := 0 } 0 0 [rv w 28, rv w x1, .int x2] M (Pri res M) := by
  refine CM_of (by decide) (Nat.le_of_ble_eq_true rfl) (fun G hw hl h => ?_)
  subst hw
  exact kX7_wayDeed_e0 h zf

-- X7_live
theorem kX7_live_e0 {G : GX} (h : OKm G cX7_live RX7 5 (some .boolean) { frames := 7, cells := 0, slots := 0, locals := 182 }) {M : Mem} {x1 : Nat} {x2 : Int32} {x3 : Int32} {res : (Int32 × Mem)} (zf : fX7_live M x1 x2 x3 = some res) : GG G (Qm G (Pwi res) 0 0) 0 0 0 [(0, rv G.1 28), (1, rv G.1 x1), (2, .int x2), (3, .int x3)] [] M := by
  unfold fX7_live at zf
  have zf1 := pre_ck zf
  clear zf; obtain ⟨zk_x1, zf⟩ := zf1
  refine g_aload_n h 0 rfl dX7_live_0 ?_
  refine g_aload_n h 1 rfl dX7_live_1 ?_
  refine g_iload_n h 2 rfl dX7_live_2 ?_
  have zf1 := bd_some zf
  clear zf; obtain ⟨Mq1, zq, zf⟩ := zf1
  refine g_callVwv (As := [rv G.1 x1, .int x2]) (rest := []) h ceX7_reap mlX7_66 imX7_reap seX7_reap (by rfl) (kd_lt (by rw [(by decide : kd 28 = 6)]; decide)) (ent_6 (by decide : kd 28 = 6)) rfl rfl ⟨by decide, by decide⟩ ⟨by decide, by decide⟩ rfl dX7_live_3 rfl (Nat.le_of_ble_eq_true rfl) (cmX7_reap zq) ?_
  refine g_aload_n h 0 rfl dX7_live_6 ?_
  refine g_aload_n h 1 rfl dX7_live_7 ?_
  refine g_iload_n h 3 rfl dX7_live_8 ?_
  have zf1 := b2_some zf
  clear zf; obtain ⟨vq2, Mq3, zq, zf⟩ := zf1
  refine g_callVwi (As := [rv G.1 x1, .int x3]) (rest := []) h ceX7_perform mlX7_70 imX7_perform seX7_perform (by rfl) (kd_lt (by rw [(by decide : kd 28 = 6)]; decide)) (ent_6 (by decide : kd 28 = 6)) rfl rfl ⟨by decide, by decide⟩ ⟨by decide, by decide⟩ rfl dX7_live_9 rfl (Nat.le_of_ble_eq_true rfl) (cmX7_perform zq) ?_
  refine g_istore h [(4, .int vq2), (0, rv G.1 28), (1, rv G.1 x1), (2, .int x2), (3, .int x3)] (by decide) rfl dX7_live_12 ?_
  refine g_aload_n h 1 rfl dX7_live_14 ?_
  refine g_aload_n h 2 rfl dX7_live_15 ?_
  have zf1 := bd_some zf
  clear zf; obtain ⟨Mq4, zq, zf⟩ := zf1
  refine g_callVwv (As := [rv G.1 x1]) (rest := []) h ceX7_age mlX7_74 imX7_age seX7_age (by rfl) (kd_lt (by rw [(by decide : kd 28 = 6)]; decide)) (ent_6 (by decide : kd 28 = 6)) rfl rfl ⟨by decide, by decide⟩ ⟨by decide, by decide⟩ rfl dX7_live_16 rfl (Nat.le_of_ble_eq_true rfl) (cmX7_age zq) ?_
  refine g_aload_n h 1 rfl dX7_live_19 ?_
  refine g_aload_n h 2 rfl dX7_live_20 ?_
  have zf1 := bd_some zf
  clear zf; obtain ⟨Mq5, zq, zf⟩ := zf1
  refine g_callVwv (As := [rv G.1 x1]) (rest := []) h ceX7_turn mlX7_78 imX7_turn seX7_turn (by rfl) (kd_lt (by rw [(by decide : kd 28 = 6)]; decide)) (ent_6 (by decide : kd 28 = 6)) rfl rfl ⟨by decide, by decide⟩ ⟨by decide, by decide⟩ rfl dX7_live_21 rfl (Nat.le_of_ble_eq_true rfl) (cmX7_turn zq) ?_
  refine g_iload h 0 rfl dX7_live_24 ?_
  have zf1 := pre_ck zf
  clear zf; obtain ⟨zz9, zf⟩ := zf1
  obtain rfl := Option.some.inj zf
  exact g_zret h zz9 rfl ⟨rfl, rfl⟩ (Nat.le_refl _) (Nat.le_refl _) dX7_live_26

theorem cmX7_live {l : Launch} {w : WX} {M : Mem} {x1 : Nat} {x2 : Int32} {x3 : Int32} {res : (Int32 × Mem)} (zf : fX7_live M x1 x2 x3 = some res) : CM l w yX7_live cX7_live 5 (some .boolean) { frames := 7, cells := 0, slots := 0, locals := 182 } 0 0 [rv w 28, rv w x1, .int x2, .int x3] M (Pwi res) := by
  refine CM_of (by decide) (Nat.le_of_ble_eq_true rfl) (fun G hw hl h => ?_)
  subst hw
  exact kX7_live_e0 h zf

-- X9_allows
theorem kX9_allows_b32 {G : GX} (h : OKm G cX9_allows RX9 4 (some .boolean) { frames := 0, cells := 0, slots := 0, locals := 0 }) {a2 : Mem → Nat → Int32 → Int32 → Int32 → Option Int32} (zh2 : ∀ (M : Mem) (x0 : Nat) (x1 : Int32) (x2 : Int32) (x3 : Int32) (res : Int32), a2 M x0 x1 x2 x3 = some res → GG G (Qm G (Pri res M) 0 0) 0 0 2 [(0, rv G.1 x0), (1, .int x1), (2, .int x2), (3, .int x3)] [] M) {M : Mem} {x0 : Nat} {x1 : Int32} {x2 : Int32} {x3 : Int32} {res : Int32} (zf : fX9_allows_b32 a2 M x0 x1 x2 x3 = some res) : GG G (Qm G (Pri res M) 0 0) 0 0 32 [(0, rv G.1 x0), (1, .int x1), (2, .int x2), (3, .int x3)] [] M := by
  unfold fX9_allows_b32 at zf
  have zf1 := pre_ck zf
  clear zf; obtain ⟨zk_x0, zf⟩ := zf1
  refine g_iinc h 3 3 rfl (v := x3 + 1) (congrArg (fun z => x3 + z) (by decide : Int32.ofInt (1) = (1 : Int32))) [(3, .int (x3 + 1)), (0, rv G.1 x0), (1, .int x1), (2, .int x2)] (by decide) rfl dX9_allows_32 ?_
  refine g_nmV zf ?_
  clear zf; intro vq3 zf
  refine g_goto h 2 (by decide) dX9_allows_35 ?_
  refine g_sub h [1, 2, 3, 0] rfl ?_
  exact zh2 _ _ _ _ _ _ zf

theorem kX9_allows_l2 {G : GX} (h : OKm G cX9_allows RX9 4 (some .boolean) { frames := 0, cells := 0, slots := 0, locals := 0 }) : ∀ (n : Nat) (M : Mem) (x0 : Nat) (x1 : Int32) (x2 : Int32) (x3 : Int32) (res : Int32), fX9_allows_l2 n M x0 x1 x2 x3 = some res → GG G (Qm G (Pri res M) 0 0) 0 0 2 [(0, rv G.1 x0), (1, .int x1), (2, .int x2), (3, .int x3)] [] M := by
  intro n
  induction n with
  | zero => intro M x0 x1 x2 x3 res zf; rw [fX9_allows_l2] at zf; cases zf
  | succ n ih =>
    intro M x0 x1 x2 x3 res zf
    rw [fX9_allows_l2] at zf
    have zf1 := pre_ck zf
    clear zf; obtain ⟨zk_x0, zf⟩ := zf1
    refine g_iload_n h 3 rfl dX9_allows_2 ?_
    refine g_aload_n h 0 rfl dX9_allows_3 ?_
    refine gfX9_9 h zk_x0 dX9_allows_4 ?_
    refine g_nmI zf ?_
    clear zf; intro vq1 zf
    refine g_ic_ge h 38 (by decide) zf dX9_allows_7 ?_ ?_ <;> clear zf <;> intro zf
    · refine g_iconst h 1 (v := 1) (by decide) dX9_allows_38 ?_
      obtain rfl := Option.some.inj zf
      exact g_zret h (by decide) rfl ⟨rfl, rfl⟩ (Nat.le_refl _) (Nat.le_refl _) dX9_allows_39
    · refine g_aload_n h 0 rfl dX9_allows_10 ?_
      refine gfX9_15 h zk_x0 dX9_allows_11 ?_
      refine g_iload_n h 3 rfl dX9_allows_14 ?_
      refine g_iald h 8 (kf8_1 zk_x0) (lf8_1 zk_x0) zf dX9_allows_15 ?_
      clear zf; intro vq2 zf
      refine g_iload_n h 1 rfl dX9_allows_16 ?_
      refine g_ic_ne h 32 (by decide) zf dX9_allows_17 ?_ ?_ <;> clear zf <;> intro zf
      · refine g_sub h [0, 1, 2, 3] rfl ?_
        exact kX9_allows_b32 h ih zf
      · refine g_aload_n h 0 rfl dX9_allows_20 ?_
        refine gfX9_19 h zk_x0 dX9_allows_21 ?_
        refine g_iload_n h 3 rfl dX9_allows_24 ?_
        refine g_iald h 8 (kf8_2 zk_x0) (lf8_2 zk_x0) zf dX9_allows_25 ?_
        clear zf; intro vq4 zf
        refine g_iload_n h 2 rfl dX9_allows_26 ?_
        refine g_ic_eq h 32 (by decide) zf dX9_allows_27 ?_ ?_ <;> clear zf <;> intro zf
        · refine g_sub h [0, 1, 2, 3] rfl ?_
          exact kX9_allows_b32 h ih zf
        · refine g_iconst h 0 (v := 0) (by decide) dX9_allows_30 ?_
          obtain rfl := Option.some.inj zf
          exact g_zret h (by decide) rfl ⟨rfl, rfl⟩ (Nat.le_refl _) (Nat.le_refl _) dX9_allows_31

theorem kX9_allows_e0 {G : GX} (h : OKm G cX9_allows RX9 4 (some .boolean) { frames := 0, cells := 0, slots := 0, locals := 0 }) {M : Mem} {x0 : Nat} {x1 : Int32} {x2 : Int32} {res : Int32} (zf : fX9_allows M x0 x1 x2 = some res) : GG G (Qm G (Pri res M) 0 0) 0 0 0 [(0, rv G.1 x0), (1, .int x1), (2, .int x2)] [] M := by
  unfold fX9_allows at zf
  have zf1 := pre_ck zf
  clear zf; obtain ⟨zk_x0, zf⟩ := zf1
  refine g_iconst h 0 (v := 0) (by decide) dX9_allows_0 ?_
  refine g_istore_n h rfl [(3, .int 0), (0, rv G.1 x0), (1, .int x1), (2, .int x2)] (by decide) rfl dX9_allows_1 ?_
  refine g_sub h [1, 2, 3, 0] rfl ?_
  exact kX9_allows_l2 h _ _ _ _ _ _ _ zf

theorem cmX9_allows {l : Launch} {w : WX} {M : Mem} {x0 : Nat} {x1 : Int32} {x2 : Int32} {res : Int32} (zf : fX9_allows M x0 x1 x2 = some res) : CM l w yX9_allows cX9_allows 4 (some .boolean) { frames := 0, cells := 0, slots := 0, locals := 0 } 0 0 [rv w x0, .int x1, .int x2] M (Pri res M) := by
  refine CM_of (by decide) (Nat.le_of_ble_eq_true rfl) (fun G hw hl h => ?_)
  subst hw
  exact kX9_allows_e0 h zf

-- X2_fits
theorem kX2_fits_b54 {G : GX} (h : OKm G cX2_fits RX2 8 (some .boolean) { frames := 8, cells := 0, slots := 0, locals := 221 }) {a11 : Mem → Nat → Int32 → Int32 → Int32 → Int32 → Option (Int32 × Mem)} (zh11 : ∀ (M : Mem) (x2 : Nat) (x3 : Int32) (x4 : Int32) (x5 : Int32) (x6 : Int32) (res : (Int32 × Mem)), a11 M x2 x3 x4 x5 x6 = some res → GG G (Qm G (Pwi res) 0 0) 0 0 11 [(0, rv G.1 49), (2, rv G.1 x2), (3, .int x3), (4, .int x4), (5, .int x5), (6, .int x6)] [] M) {M : Mem} {x2 : Nat} {x3 : Int32} {x4 : Int32} {x5 : Int32} {x6 : Int32} {s0 : Int32} {res : (Int32 × Mem)} (zf : fX2_fits_b54 a11 M x2 x3 x4 x5 x6 s0 = some res) : GG G (Qm G (Pwi res) 0 0) 0 0 54 [(0, rv G.1 49), (2, rv G.1 x2), (3, .int x3), (4, .int x4), (5, .int x5), (6, .int x6)] [.int s0] M := by
  unfold fX2_fits_b54 at zf
  have zf1 := pre_ck zf
  clear zf; obtain ⟨zk_x2, zf⟩ := zf1
  refine g_istore h [(7, .int s0), (0, rv G.1 49), (2, rv G.1 x2), (3, .int x3), (4, .int x4), (5, .int x5), (6, .int x6)] (by decide) rfl dX2_fits_54 ?_
  refine g_aload_n h 1 rfl dX2_fits_56 ?_
  refine gfX2_43 h (by decide : kd 49 = 1) dX2_fits_57 ?_
  refine g_aload_n h 1 rfl dX2_fits_60 ?_
  refine gfX2_12 h (by decide : kd 49 = 1) dX2_fits_61 ?_
  refine g_aload_n h 1 rfl dX2_fits_64 ?_
  refine gfX2_43 h (by decide : kd 49 = 1) dX2_fits_65 ?_
  refine g_aload_n h 1 rfl dX2_fits_68 ?_
  refine gfX2_12 h (by decide : kd 49 = 1) dX2_fits_69 ?_
  refine gfX2_61 h (by decide : kd 50 = 2) dX2_fits_72 ?_
  refine g_nmI zf ?_
  clear zf; intro vq4 zf
  have zf1 := bd_some zf
  clear zf; obtain ⟨vq5, zq, zf⟩ := zf1
  refine g_callVri (As := [.int vq4]) (rest := [rv G.1 50, rv G.1 28]) h ceX7_harvestOf mlX2_64 imX7_harvestOf seX7_harvestOf (by rfl) (kd_lt (by rw [(by decide : kd 28 = 6)]; decide)) (ent_6 (by decide : kd 28 = 6)) rfl rfl ⟨by decide, by decide⟩ ⟨by decide, by decide⟩ rfl dX2_fits_75 rfl (Nat.le_of_ble_eq_true rfl) (cmX7_harvestOf zq) ?_
  refine g_iload h 0 rfl dX2_fits_78 ?_
  have zf1 := b2_some zf
  clear zf; obtain ⟨vq6, Mq7, zq, zf⟩ := zf1
  refine g_callVwi (As := [rv G.1 50, .int vq5, .int s0]) (rest := []) h ceX7_live mlX2_107 imX7_live seX7_live (by rfl) (kd_lt (by rw [(by decide : kd 28 = 6)]; decide)) (ent_6 (by decide : kd 28 = 6)) rfl rfl ⟨by decide, by decide⟩ ⟨by decide, by decide⟩ rfl dX2_fits_80 rfl (Nat.le_of_ble_eq_true rfl) (cmX7_live zq) ?_
  refine g_pop h rfl dX2_fits_83 ?_
  refine g_aload_n h 2 rfl dX2_fits_84 ?_
  refine g_iload h 6 rfl dX2_fits_85 ?_
  refine g_aload_n h 1 rfl dX2_fits_87 ?_
  refine gfX2_12 h (by decide : kd 49 = 1) dX2_fits_88 ?_
  refine gfX2_80 h (by decide : kd 50 = 2) dX2_fits_91 ?_
  refine g_nmI zf ?_
  clear zf; intro vq8 zf
  have zf1 := bd_some zf
  clear zf; obtain ⟨vq9, zq, zf⟩ := zf1
  refine g_callVri (As := [.int x6, .int vq8]) (rest := []) h ceX9_allows mlX2_111 imX9_allows seX9_allows (by rfl) (kd_lt (by rw [zk_x2]; decide)) (ent_8 zk_x2) rfl rfl ⟨by decide, by decide⟩ ⟨by decide, by decide⟩ rfl dX2_fits_94 rfl (Nat.le_of_ble_eq_true rfl) (cmX9_allows zq) ?_
  refine g_if_ne h 102 (by decide) zf dX2_fits_97 ?_ ?_ <;> clear zf <;> intro zf
  · refine g_aload_n h 1 rfl dX2_fits_102 ?_
    refine gfX2_26 h (by decide : kd 49 = 1) dX2_fits_103 ?_
    refine g_iload h 6 rfl dX2_fits_106 ?_
    refine g_iconst h 1 (v := 1) (by decide) dX2_fits_108 ?_
    refine g_isub h dX2_fits_109 ?_
    refine g_aload_n h 1 rfl dX2_fits_110 ?_
    refine gfX2_12 h (by decide : kd 49 = 1) dX2_fits_111 ?_
    refine gfX2_80 h (by decide : kd 50 = 2) dX2_fits_114 ?_
    refine g_nmI zf ?_
    clear zf; intro vq10 zf
    refine g_iast h 30 (by decide : kd 56 = 20) (by decide) zf dX2_fits_117 ?_
    clear zf; intro Mq11 zf
    refine g_iinc h 6 6 rfl (v := x6 + 1) (congrArg (fun z => x6 + z) (by decide : Int32.ofInt (1) = (1 : Int32))) [(6, .int (x6 + 1)), (7, .int s0), (0, rv G.1 49), (2, rv G.1 x2), (3, .int x3), (4, .int x4), (5, .int x5)] (by decide) rfl dX2_fits_118 ?_
    refine g_nmV zf ?_
    clear zf; intro vq12 zf
    refine g_goto h 11 (by decide) dX2_fits_121 ?_
    refine g_sub h [2, 3, 4, 5, 6, 0] rfl ?_
    exact zh11 _ _ _ _ _ _ _ zf
  · refine g_iconst h 0 (v := 0) (by decide) dX2_fits_100 ?_
    obtain rfl := Option.some.inj zf
    exact g_zret h (by decide) rfl ⟨rfl, rfl⟩ (Nat.le_refl _) (Nat.le_refl _) dX2_fits_101

theorem kX2_fits_l11 {G : GX} (h : OKm G cX2_fits RX2 8 (some .boolean) { frames := 8, cells := 0, slots := 0, locals := 221 }) : ∀ (n : Nat) (M : Mem) (x2 : Nat) (x3 : Int32) (x4 : Int32) (x5 : Int32) (x6 : Int32) (res : (Int32 × Mem)), fX2_fits_l11 n M x2 x3 x4 x5 x6 = some res → GG G (Qm G (Pwi res) 0 0) 0 0 11 [(0, rv G.1 49), (2, rv G.1 x2), (3, .int x3), (4, .int x4), (5, .int x5), (6, .int x6)] [] M := by
  intro n
  induction n with
  | zero => intro M x2 x3 x4 x5 x6 res zf; rw [fX2_fits_l11] at zf; cases zf
  | succ n ih =>
    intro M x2 x3 x4 x5 x6 res zf
    rw [fX2_fits_l11] at zf
    have zf1 := pre_ck zf
    clear zf; obtain ⟨zk_x2, zf⟩ := zf1
    refine g_iload h 5 rfl dX2_fits_11 ?_
    refine g_iload h 4 rfl dX2_fits_13 ?_
    refine g_ic_gt h 124 (by decide) zf dX2_fits_15 ?_ ?_ <;> clear zf <;> intro zf
    · refine g_iconst h 1 (v := 1) (by decide) dX2_fits_124 ?_
      obtain rfl := Option.some.inj zf
      exact g_zret h (by decide) rfl ⟨rfl, rfl⟩ (Nat.le_refl _) (Nat.le_refl _) dX2_fits_125
    · refine g_iload h 5 rfl dX2_fits_18 ?_
      refine g_bipush h 30 (v := 30) (by decide) dX2_fits_20 ?_
      refine g_ic_gt h 124 (by decide) zf dX2_fits_22 ?_ ?_ <;> clear zf <;> intro zf
      · refine g_iconst h 1 (v := 1) (by decide) dX2_fits_124 ?_
        obtain rfl := Option.some.inj zf
        exact g_zret h (by decide) rfl ⟨rfl, rfl⟩ (Nat.le_refl _) (Nat.le_refl _) dX2_fits_125
      · refine g_iload h 5 rfl dX2_fits_25 ?_
        refine g_iload_n h 2 rfl dX2_fits_27 ?_
        refine g_ic_ne h 36 (by decide) zf dX2_fits_28 ?_ ?_ <;> clear zf <;> intro zf
        · refine g_aload_n h 0 rfl dX2_fits_36 ?_
          refine gfX2_43 h (by decide : kd 49 = 1) dX2_fits_37 ?_
          refine g_aload_n h 0 rfl dX2_fits_40 ?_
          refine gfX2_12 h (by decide : kd 49 = 1) dX2_fits_41 ?_
          refine g_aload_n h 0 rfl dX2_fits_44 ?_
          refine gfX2_12 h (by decide : kd 49 = 1) dX2_fits_45 ?_
          refine gfX2_90 h (by decide : kd 50 = 2) dX2_fits_48 ?_
          refine g_nmI zf ?_
          clear zf; intro vq2 zf
          have zf1 := bd_some zf
          clear zf; obtain ⟨vq3, zq, zf⟩ := zf1
          refine g_callVri (As := [rv G.1 50, .int vq2]) (rest := []) h ceX7_wayDeed mlX2_103 imX7_wayDeed seX7_wayDeed (by rfl) (kd_lt (by rw [(by decide : kd 28 = 6)]; decide)) (ent_6 (by decide : kd 28 = 6)) rfl rfl ⟨by decide, by decide⟩ ⟨by decide, by decide⟩ rfl dX2_fits_51 rfl (Nat.le_of_ble_eq_true rfl) (cmX7_wayDeed zq) ?_
          refine g_sub h [0, 1, 2, 3, 4, 5] rfl ?_
          exact kX2_fits_b54 h ih zf
        · refine g_iload h 3 rfl dX2_fits_31 ?_
          refine g_goto h 54 (by decide) dX2_fits_33 ?_
          refine g_sub h [0, 1, 2, 3, 4, 5] rfl ?_
          exact kX2_fits_b54 h ih zf

theorem kX2_fits_e0 {G : GX} (h : OKm G cX2_fits RX2 8 (some .boolean) { frames := 8, cells := 0, slots := 0, locals := 221 }) {M : Mem} {x1 : Nat} {x2 : Nat} {x3 : Int32} {x4 : Int32} {x5 : Int32} {res : (Int32 × Mem)} (zf : fX2_fits M x1 x2 x3 x4 x5 = some res) : GG G (Qm G (Pwi res) 0 0) 0 0 0 [(0, rv G.1 49), (1, rv G.1 x1), (2, rv G.1 x2), (3, .int x3), (4, .int x4), (5, .int x5)] [] M := by
  unfold fX2_fits at zf
  have zf1 := pre_ck zf
  clear zf; obtain ⟨zk_x1, zf⟩ := zf1
  have zf1 := pre_ck zf
  clear zf; obtain ⟨zk_x2, zf⟩ := zf1
  refine g_aload_n h 0 rfl dX2_fits_0 ?_
  refine gfX2_12 h (by decide : kd 49 = 1) dX2_fits_1 ?_
  refine g_aload_n h 1 rfl dX2_fits_4 ?_
  have zf1 := bd_some zf
  clear zf; obtain ⟨Mq1, zq, zf⟩ := zf1
  refine g_callVwv (As := [rv G.1 x1]) (rest := []) h ceX3_become mlX2_47 imX3_become seX3_become (by rfl) (kd_lt (by rw [(by decide : kd 50 = 2)]; decide)) (ent_2 (by decide : kd 50 = 2)) rfl rfl ⟨by decide, by decide⟩ ⟨by decide, by decide⟩ rfl dX2_fits_5 rfl (Nat.le_of_ble_eq_true rfl) (cmX3_become zq) ?_
  refine g_iconst h 1 (v := 1) (by decide) dX2_fits_8 ?_
  refine g_istore h [(6, .int 1), (0, rv G.1 49), (1, rv G.1 x1), (2, rv G.1 x2), (3, .int x3), (4, .int x4), (5, .int x5)] (by decide) rfl dX2_fits_9 ?_
  refine g_sub h [1, 3, 4, 5, 6, 0] rfl ?_
  exact kX2_fits_l11 h _ _ _ _ _ _ _ _ zf

theorem cmX2_fits {l : Launch} {w : WX} {M : Mem} {x1 : Nat} {x2 : Nat} {x3 : Int32} {x4 : Int32} {x5 : Int32} {res : (Int32 × Mem)} (zf : fX2_fits M x1 x2 x3 x4 x5 = some res) : CM l w yX2_fits cX2_fits 8 (some .boolean) { frames := 8, cells := 0, slots := 0, locals := 221 } 0 0 [rv w 49, rv w x1, rv w x2, .int x3, .int x4, .int x5] M (Pwi res) := by
  refine CM_of (by decide) (Nat.le_of_ble_eq_true rfl) (fun G hw hl h => ?_)
  subst hw
  exact kX2_fits_e0 h zf

-- X3_clearRow
theorem kX3_clearRow_l2 {G : GX} (h : OKm G cX3_clearRow RX3 2 none { frames := 0, cells := 0, slots := 0, locals := 0 }) : ∀ (n : Nat) (M : Mem) (x0 : Nat) (x1 : Int32) (res : Mem), fX3_clearRow_l2 n M x0 x1 = some res → GG G (Qm G (Pwv res) 0 0) 0 0 2 [(0, rv G.1 x0), (1, .int x1)] [] M := by
  intro n
  induction n with
  | zero => intro M x0 x1 res zf; rw [fX3_clearRow_l2] at zf; cases zf
  | succ n ih =>
    intro M x0 x1 res zf
    rw [fX3_clearRow_l2] at zf
    have zf1 := pre_ck zf
    clear zf; obtain ⟨zk_x0, zf⟩ := zf1
    refine g_iload_n h 1 rfl dX3_clearRow_2 ?_
    refine g_aload_n h 0 rfl dX3_clearRow_3 ?_
    refine g_ilen h (ln x0) (z := Int32.ofNat (ln x0)) zk_x0 rfl rfl dX3_clearRow_4 ?_
    refine g_ic_ge h 18 (by decide) zf dX3_clearRow_5 ?_ ?_ <;> clear zf <;> intro zf
    · obtain rfl := Option.some.inj zf
      exact g_vret h rfl ⟨rfl, rfl⟩ (Nat.le_refl _) (Nat.le_refl _) dX3_clearRow_18
    · refine g_aload_n h 0 rfl dX3_clearRow_8 ?_
      refine g_iload_n h 1 rfl dX3_clearRow_9 ?_
      refine g_iconst h 0 (v := 0) (by decide) dX3_clearRow_10 ?_
      refine g_iast h (ln x0) zk_x0 rfl zf dX3_clearRow_11 ?_
      clear zf; intro Mq1 zf
      refine g_iinc h 1 1 rfl (v := x1 + 1) (congrArg (fun z => x1 + z) (by decide : Int32.ofInt (1) = (1 : Int32))) [(1, .int (x1 + 1)), (0, rv G.1 x0)] (by decide) rfl dX3_clearRow_12 ?_
      refine g_nmV zf ?_
      clear zf; intro vq2 zf
      refine g_goto h 2 (by decide) dX3_clearRow_15 ?_
      refine g_sub h [1, 0] rfl ?_
      exact ih _ _ _ _ zf

theorem kX3_clearRow_e0 {G : GX} (h : OKm G cX3_clearRow RX3 2 none { frames := 0, cells := 0, slots := 0, locals := 0 }) {M : Mem} {x0 : Nat} {res : Mem} (zf : fX3_clearRow M x0 = some res) : GG G (Qm G (Pwv res) 0 0) 0 0 0 [(0, rv G.1 x0)] [] M := by
  unfold fX3_clearRow at zf
  have zf1 := pre_ck zf
  clear zf; obtain ⟨zk_x0, zf⟩ := zf1
  refine g_iconst h 0 (v := 0) (by decide) dX3_clearRow_0 ?_
  refine g_istore_n h rfl [(1, .int 0), (0, rv G.1 x0)] (by decide) rfl dX3_clearRow_1 ?_
  refine g_sub h [1, 0] rfl ?_
  exact kX3_clearRow_l2 h _ _ _ _ _ zf

theorem cmX3_clearRow {l : Launch} {w : WX} {M : Mem} {x0 : Nat} {res : Mem} (zf : fX3_clearRow M x0 = some res) : CM l w yX3_clearRow cX3_clearRow 2 none { frames := 0, cells := 0, slots := 0, locals := 0 } 0 0 [rv w x0] M (Pwv res) := by
  refine CM_of (by decide) (Nat.le_of_ble_eq_true rfl) (fun G hw hl h => ?_)
  subst hw
  exact kX3_clearRow_e0 h zf

-- X3_found
theorem kX3_found_e0 {G : GX} (h : OKm G cX3_found RX3 1 none { frames := 1, cells := 0, slots := 0, locals := 21 }) {M : Mem} {x0 : Nat} {res : Mem} (zf : fX3_found M x0 = some res) : GG G (Qm G (Pwv res) 0 0) 0 0 0 [(0, rv G.1 x0)] [] M := by
  unfold fX3_found at zf
  have zf1 := pre_ck zf
  clear zf; obtain ⟨zk_x0, zf⟩ := zf1
  refine g_aload_n h 0 rfl dX3_found_0 ?_
  refine g_bipush h 50 (v := 50) (by decide) dX3_found_1 ?_
  refine pfX3_27 h zk_x0 dX3_found_3 ?_
  refine g_nmM zf ?_
  clear zf; intro Mq1 zf
  refine g_aload_n h 0 rfl dX3_found_6 ?_
  refine g_bipush h 20 (v := 20) (by decide) dX3_found_7 ?_
  refine pfX3_31 h zk_x0 dX3_found_9 ?_
  refine g_nmM zf ?_
  clear zf; intro Mq2 zf
  refine g_aload_n h 0 rfl dX3_found_12 ?_
  refine g_iconst h 0 (v := 0) (by decide) dX3_found_13 ?_
  refine pfX3_34 h zk_x0 dX3_found_14 ?_
  refine g_nmM zf ?_
  clear zf; intro Mq3 zf
  refine g_aload_n h 0 rfl dX3_found_17 ?_
  refine g_iconst h 0 (v := 0) (by decide) dX3_found_18 ?_
  refine pfX3_37 h zk_x0 dX3_found_19 ?_
  refine g_nmM zf ?_
  clear zf; intro Mq4 zf
  refine g_aload_n h 0 rfl dX3_found_22 ?_
  refine g_iconst h 0 (v := 0) (by decide) dX3_found_23 ?_
  refine pfX3_40 h zk_x0 dX3_found_24 ?_
  refine g_nmM zf ?_
  clear zf; intro Mq5 zf
  refine g_aload_n h 0 rfl dX3_found_27 ?_
  refine g_iconst h 0 (v := 0) (by decide) dX3_found_28 ?_
  refine pfX3_43 h zk_x0 dX3_found_29 ?_
  refine g_nmM zf ?_
  clear zf; intro Mq6 zf
  refine g_aload_n h 0 rfl dX3_found_32 ?_
  refine g_iconst h 0 (v := 0) (by decide) dX3_found_33 ?_
  refine pfX3_46 h zk_x0 dX3_found_34 ?_
  refine g_nmM zf ?_
  clear zf; intro Mq7 zf
  refine g_aload_n h 0 rfl dX3_found_37 ?_
  refine g_iconst h 0 (v := 0) (by decide) dX3_found_38 ?_
  refine pfX3_49 h zk_x0 dX3_found_39 ?_
  refine g_nmM zf ?_
  clear zf; intro Mq8 zf
  refine g_aload_n h 0 rfl dX3_found_42 ?_
  refine g_iconst h 1 (v := 1) (by decide) dX3_found_43 ?_
  refine pfX3_52 h zk_x0 dX3_found_44 ?_
  refine g_nmM zf ?_
  clear zf; intro Mq9 zf
  refine g_aload_n h 0 rfl dX3_found_47 ?_
  refine gfX3_9 h zk_x0 dX3_found_48 ?_
  have zf1 := bd_some zf
  clear zf; obtain ⟨Mq10, zq, zf⟩ := zf1
  refine g_callSwv (As := [rv G.1 (x0 + 1)]) (rest := []) h ceX3_clearRow mlX3_55 smX3_clearRow rfl rfl ⟨by decide, by decide⟩ ⟨by decide, by decide⟩ rfl dX3_found_51 rfl (Nat.le_of_ble_eq_true rfl) (cmX3_clearRow zq) ?_
  refine g_aload_n h 0 rfl dX3_found_54 ?_
  refine gfX3_15 h zk_x0 dX3_found_55 ?_
  have zf1 := bd_some zf
  clear zf; obtain ⟨Mq11, zq, zf⟩ := zf1
  refine g_callSwv (As := [rv G.1 (x0 + 2)]) (rest := []) h ceX3_clearRow mlX3_55 smX3_clearRow rfl rfl ⟨by decide, by decide⟩ ⟨by decide, by decide⟩ rfl dX3_found_58 rfl (Nat.le_of_ble_eq_true rfl) (cmX3_clearRow zq) ?_
  refine g_aload_n h 0 rfl dX3_found_61 ?_
  refine gfX3_18 h zk_x0 dX3_found_62 ?_
  have zf1 := bd_some zf
  clear zf; obtain ⟨Mq12, zq, zf⟩ := zf1
  refine g_callSwv (As := [rv G.1 (x0 + 3)]) (rest := []) h ceX3_clearRow mlX3_55 smX3_clearRow rfl rfl ⟨by decide, by decide⟩ ⟨by decide, by decide⟩ rfl dX3_found_65 rfl (Nat.le_of_ble_eq_true rfl) (cmX3_clearRow zq) ?_
  refine g_aload_n h 0 rfl dX3_found_68 ?_
  refine gfX3_21 h zk_x0 dX3_found_69 ?_
  have zf1 := bd_some zf
  clear zf; obtain ⟨Mq13, zq, zf⟩ := zf1
  refine g_callSwv (As := [rv G.1 (x0 + 4)]) (rest := []) h ceX3_clearRow mlX3_55 smX3_clearRow rfl rfl ⟨by decide, by decide⟩ ⟨by decide, by decide⟩ rfl dX3_found_72 rfl (Nat.le_of_ble_eq_true rfl) (cmX3_clearRow zq) ?_
  obtain rfl := Option.some.inj zf
  exact g_vret h rfl ⟨rfl, rfl⟩ (Nat.le_refl _) (Nat.le_refl _) dX3_found_75

theorem cmX3_found {l : Launch} {w : WX} {M : Mem} {x0 : Nat} {res : Mem} (zf : fX3_found M x0 = some res) : CM l w yX3_found cX3_found 1 none { frames := 1, cells := 0, slots := 0, locals := 21 } 0 0 [rv w x0] M (Pwv res) := by
  refine CM_of (by decide) (Nat.le_of_ble_eq_true rfl) (fun G hw hl h => ?_)
  subst hw
  exact kX3_found_e0 h zf

-- X2_isAtRest
theorem kX2_isAtRest_e0 {G : GX} (h : OKm G cX2_isAtRest RX2 2 (some .boolean) { frames := 0, cells := 0, slots := 0, locals := 0 }) {M : Mem} {x1 : Int32} {res : Int32} (zf : fX2_isAtRest M x1 = some res) : GG G (Qm G (Pri res M) 0 0) 0 0 0 [(0, rv G.1 49), (1, .int x1)] [] M := by
  unfold fX2_isAtRest at zf
  refine g_aload_n h 0 rfl dX2_isAtRest_0 ?_
  refine gfX2_37 h (by decide : kd 49 = 1) dX2_isAtRest_1 ?_
  refine g_iload_n h 1 rfl dX2_isAtRest_4 ?_
  refine g_iald h 4 (by decide : kd 59 = 20) (by decide) zf dX2_isAtRest_5 ?_
  clear zf; intro vq1 zf
  refine g_aload_n h 0 rfl dX2_isAtRest_6 ?_
  refine gfX2_37 h (by decide : kd 49 = 1) dX2_isAtRest_7 ?_
  refine g_iload_n h 1 rfl dX2_isAtRest_10 ?_
  refine g_iconst h 2 (v := 2) (by decide) dX2_isAtRest_11 ?_
  refine g_ixor h dX2_isAtRest_12 ?_
  refine g_iald h 4 (by decide : kd 59 = 20) (by decide) zf dX2_isAtRest_13 ?_
  clear zf; intro vq2 zf
  refine g_ic_lt h 38 (by decide) zf dX2_isAtRest_14 ?_ ?_ <;> clear zf <;> intro zf
  · refine g_iconst h 0 (v := 0) (by decide) dX2_isAtRest_38 ?_
    obtain rfl := Option.some.inj zf
    exact g_zret h (by decide) rfl ⟨rfl, rfl⟩ (Nat.le_refl _) (Nat.le_refl _) dX2_isAtRest_39
  · refine g_aload_n h 0 rfl dX2_isAtRest_17 ?_
    refine gfX2_40 h (by decide : kd 49 = 1) dX2_isAtRest_18 ?_
    refine g_iload_n h 1 rfl dX2_isAtRest_21 ?_
    refine g_iald h 4 (by decide : kd 60 = 20) (by decide) zf dX2_isAtRest_22 ?_
    clear zf; intro vq3 zf
    refine g_aload_n h 0 rfl dX2_isAtRest_23 ?_
    refine gfX2_40 h (by decide : kd 49 = 1) dX2_isAtRest_24 ?_
    refine g_iload_n h 1 rfl dX2_isAtRest_27 ?_
    refine g_iconst h 1 (v := 1) (by decide) dX2_isAtRest_28 ?_
    refine g_ixor h dX2_isAtRest_29 ?_
    refine g_iald h 4 (by decide : kd 60 = 20) (by decide) zf dX2_isAtRest_30 ?_
    clear zf; intro vq4 zf
    refine g_ic_lt h 38 (by decide) zf dX2_isAtRest_31 ?_ ?_ <;> clear zf <;> intro zf
    · refine g_iconst h 0 (v := 0) (by decide) dX2_isAtRest_38 ?_
      obtain rfl := Option.some.inj zf
      exact g_zret h (by decide) rfl ⟨rfl, rfl⟩ (Nat.le_refl _) (Nat.le_refl _) dX2_isAtRest_39
    · refine g_iconst h 1 (v := 1) (by decide) dX2_isAtRest_34 ?_
      refine g_goto h 39 (by decide) dX2_isAtRest_35 ?_
      obtain rfl := Option.some.inj zf
      exact g_zret h (by decide) rfl ⟨rfl, rfl⟩ (Nat.le_refl _) (Nat.le_refl _) dX2_isAtRest_39

theorem cmX2_isAtRest {l : Launch} {w : WX} {M : Mem} {x1 : Int32} {res : Int32} (zf : fX2_isAtRest M x1 = some res) : CM l w yX2_isAtRest cX2_isAtRest 2 (some .boolean) { frames := 0, cells := 0, slots := 0, locals := 0 } 0 0 [rv w 49, .int x1] M (Pri res M) := by
  refine CM_of (by decide) (Nat.le_of_ble_eq_true rfl) (fun G hw hl h => ?_)
  subst hw
  exact kX2_isAtRest_e0 h zf

-- X2_markStores
theorem kX2_markStores_b81 {G : GX} (h : OKm G cX2_markStores RX2 6 none { frames := 0, cells := 0, slots := 0, locals := 0 }) {a2 : Mem → Int32 → Option Mem} (zh2 : ∀ (M : Mem) (x1 : Int32) (res : Mem), a2 M x1 = some res → GG G (Qm G (Pwv res) 0 0) 0 0 2 [(0, rv G.1 49), (1, .int x1)] [] M) {M : Mem} {x1 : Int32} {res : Mem} (zf : fX2_markStores_b81 a2 M x1 = some res) : GG G (Qm G (Pwv res) 0 0) 0 0 81 [(0, rv G.1 49), (1, .int x1)] [] M := by
  unfold fX2_markStores_b81 at zf
  refine g_iinc h 1 1 rfl (v := x1 + 1) (congrArg (fun z => x1 + z) (by decide : Int32.ofInt (1) = (1 : Int32))) [(1, .int (x1 + 1)), (0, rv G.1 49)] (by decide) rfl dX2_markStores_81 ?_
  refine g_nmV zf ?_
  clear zf; intro vq4 zf
  refine g_goto h 2 (by decide) dX2_markStores_84 ?_
  refine g_sub h [1, 0] rfl ?_
  exact zh2 _ _ _ zf

theorem kX2_markStores_l2 {G : GX} (h : OKm G cX2_markStores RX2 6 none { frames := 0, cells := 0, slots := 0, locals := 0 }) : ∀ (n : Nat) (M : Mem) (x1 : Int32) (res : Mem), fX2_markStores_l2 n M x1 = some res → GG G (Qm G (Pwv res) 0 0) 0 0 2 [(0, rv G.1 49), (1, .int x1)] [] M := by
  intro n
  induction n with
  | zero => intro M x1 res zf; rw [fX2_markStores_l2] at zf; cases zf
  | succ n ih =>
    intro M x1 res zf
    rw [fX2_markStores_l2] at zf
    refine g_iload_n h 1 rfl dX2_markStores_2 ?_
    refine g_bipush h 30 (v := 30) (by decide) dX2_markStores_3 ?_
    refine g_ic_ge h 87 (by decide) zf dX2_markStores_5 ?_ ?_ <;> clear zf <;> intro zf
    · obtain rfl := Option.some.inj zf
      exact g_vret h rfl ⟨rfl, rfl⟩ (Nat.le_refl _) (Nat.le_refl _) dX2_markStores_87
    · refine g_aload_n h 0 rfl dX2_markStores_8 ?_
      refine gfX2_26 h (by decide : kd 49 = 1) dX2_markStores_9 ?_
      refine g_iload_n h 1 rfl dX2_markStores_12 ?_
      refine g_iald h 30 (by decide : kd 56 = 20) (by decide) zf dX2_markStores_13 ?_
      clear zf; intro vq1 zf
      refine g_istore_n h rfl [(2, .int vq1), (0, rv G.1 49), (1, .int x1)] (by decide) rfl dX2_markStores_14 ?_
      refine g_iload_n h 2 rfl dX2_markStores_15 ?_
      refine g_bipush h 16 (v := 16) (by decide) dX2_markStores_16 ?_
      refine g_imul h dX2_markStores_18 ?_
      refine g_iload_n h 0 rfl dX2_markStores_19 ?_
      refine g_bipush h 64 (v := 64) (by decide) dX2_markStores_20 ?_
      refine g_idiv h (by decide) dX2_markStores_22 ?_
      refine g_iadd h dX2_markStores_23 ?_
      refine g_nmI zf ?_
      clear zf; intro vq2 zf
      refine g_istore_n h rfl [(3, .int vq2), (2, .int vq1), (0, rv G.1 49), (1, .int x1)] (by decide) rfl dX2_markStores_24 ?_
      refine g_lconst h 1 (v := 1) (by decide) dX2_markStores_25 ?_
      refine g_iload_n h 1 rfl dX2_markStores_26 ?_
      refine g_bipush h 64 (v := 64) (by decide) dX2_markStores_27 ?_
      refine g_irem h (by decide) dX2_markStores_29 ?_
      refine g_lshl h dX2_markStores_30 ?_
      refine g_nmL zf ?_
      clear zf; intro vq3 zf
      refine g_lstore h [(4, .long vq3), (3, .int vq2), (2, .int vq1), (0, rv G.1 49), (1, .int x1)] (by decide) rfl dX2_markStores_31 ?_
      refine g_iload_n h 2 rfl dX2_markStores_33 ?_
      refine g_if_lt h 81 (by decide) zf dX2_markStores_34 ?_ ?_ <;> clear zf <;> intro zf
      · refine g_sub h [3, 4] rfl ?_
        exact kX2_markStores_b81 h ih zf
      · refine g_iload_n h 1 rfl dX2_markStores_37 ?_
        refine g_aload_n h 3 rfl dX2_markStores_38 ?_
        refine gfX2_30 h (by decide : kd 49 = 1) dX2_markStores_39 ?_
        refine g_llen h 480 (z := 480) (by decide : kd 57 = 22) (by decide) (by decide) dX2_markStores_42 ?_
        refine g_ic_ge h 81 (by decide) zf dX2_markStores_43 ?_ ?_ <;> clear zf <;> intro zf
        · refine g_sub h [3, 4] rfl ?_
          exact kX2_markStores_b81 h ih zf
        · refine g_aload_n h 3 rfl dX2_markStores_46 ?_
          refine gfX2_30 h (by decide : kd 49 = 1) dX2_markStores_47 ?_
          refine g_iload_n h 1 rfl dX2_markStores_50 ?_
          refine g_lald h 480 (by decide : kd 57 = 22) (by decide) zf dX2_markStores_51 ?_
          clear zf; intro vq5 zf
          refine g_lload h 0 rfl dX2_markStores_52 ?_
          refine g_land h dX2_markStores_54 ?_
          refine g_lconst h 0 (v := 0) (by decide) dX2_markStores_55 ?_
          refine g_lcmp h dX2_markStores_56 ?_
          refine g_if_ne h 81 (by decide) zf dX2_markStores_57 ?_ ?_ <;> clear zf <;> intro zf
          · refine g_sub h [3, 4] rfl ?_
            exact kX2_markStores_b81 h ih zf
          · refine g_aload_n h 3 rfl dX2_markStores_60 ?_
            refine gfX2_30 h (by decide : kd 49 = 1) dX2_markStores_61 ?_
            refine g_iload_n h 1 rfl dX2_markStores_64 ?_
            refine g_dup2 h rfl rfl dX2_markStores_65 ?_
            refine g_lald h 480 (by decide : kd 57 = 22) (by decide) zf dX2_markStores_66 ?_
            clear zf; intro vq6 zf
            refine g_lload h 0 rfl dX2_markStores_67 ?_
            refine g_lor h dX2_markStores_69 ?_
            refine g_last h 480 (by decide : kd 57 = 22) (by decide) zf dX2_markStores_70 ?_
            clear zf; intro Mq7 zf
            refine g_aload_n h 3 rfl dX2_markStores_71 ?_
            refine gfX2_34 h (by decide : kd 49 = 1) dX2_markStores_72 ?_
            refine g_iload_n h 4 rfl dX2_markStores_75 ?_
            refine g_dup2 h rfl rfl dX2_markStores_76 ?_
            refine g_iald h 30 (by decide : kd 58 = 20) (by decide) zf dX2_markStores_77 ?_
            clear zf; intro vq8 zf
            refine g_iconst h 1 (v := 1) (by decide) dX2_markStores_78 ?_
            refine g_iadd h dX2_markStores_79 ?_
            refine g_iast h 30 (by decide : kd 58 = 20) (by decide) zf dX2_markStores_80 ?_
            clear zf; intro Mq9 zf
            refine g_sub h [3, 4] rfl ?_
            exact kX2_markStores_b81 h ih zf

theorem kX2_markStores_e0 {G : GX} (h : OKm G cX2_markStores RX2 6 none { frames := 0, cells := 0, slots := 0, locals := 0 }) {M : Mem} {res : Mem} (zf : fX2_markStores M = some res) : GG G (Qm G (Pwv res) 0 0) 0 0 0 [(0, rv G.1 49)] [] M := by
  unfold fX2_markStores at zf
  refine g_iconst h 0 (v := 0) (by decide) dX2_markStores_0 ?_
  refine g_istore_n h rfl [(1, .int 0), (0, rv G.1 49)] (by decide) rfl dX2_markStores_1 ?_
  refine g_sub h [1, 0] rfl ?_
  exact kX2_markStores_l2 h _ _ _ _ zf

theorem cmX2_markStores {l : Launch} {w : WX} {M : Mem} {res : Mem} (zf : fX2_markStores M = some res) : CM l w yX2_markStores cX2_markStores 6 none { frames := 0, cells := 0, slots := 0, locals := 0 } 0 0 [rv w 49] M (Pwv res) := by
  refine CM_of (by decide) (Nat.le_of_ble_eq_true rfl) (fun G hw hl h => ?_)
  subst hw
  exact kX2_markStores_e0 h zf

-- X2_planned
theorem kX2_planned_e0 {G : GX} (h : OKm G cX2_planned RX2 3 (some .int) { frames := 41, cells := 0, slots := 0, locals := 1270 }) {M : Mem} {x1 : Nat} {x2 : Int32} {res : (Int32 × Mem)} (zf : fX2_planned M x1 x2 = some res) : GG G (Qm G (Pwi res) 0 0) 0 0 0 [(0, rv G.1 49), (1, rv G.1 x1), (2, .int x2)] [] M := by
  unfold fX2_planned at zf
  have zf1 := pre_ck zf
  clear zf; obtain ⟨zk_x1, zf⟩ := zf1
  refine g_aload_n h 0 rfl dX2_planned_0 ?_
  refine gfX2_18 h (by decide : kd 49 = 1) dX2_planned_1 ?_
  refine g_iconst h 0 (v := 0) (by decide) dX2_planned_4 ?_
  refine g_aald h (by decide : kd 55 = 24) (by decide) zf dX2_planned_5 ?_
  clear zf; intro oq1 zf
  have zf1 := pre_ck zf
  clear zf; obtain ⟨zk_oq1, zf⟩ := zf1
  refine g_aload_n h 1 rfl dX2_planned_6 ?_
  have zf1 := bd_some zf
  clear zf; obtain ⟨Mq2, zq, zf⟩ := zf1
  refine g_callVwv (As := [rv G.1 x1]) (rest := []) h ceX3_become mlX2_47 imX3_become seX3_become (by rfl) (kd_lt (by rw [zk_oq1]; decide)) (ent_2 zk_oq1) rfl rfl ⟨by decide, by decide⟩ ⟨by decide, by decide⟩ rfl dX2_planned_7 rfl (Nat.le_of_ble_eq_true rfl) (cmX3_become zq) ?_
  refine g_aload_n h 0 rfl dX2_planned_10 ?_
  refine g_iconst h 0 (v := 0) (by decide) dX2_planned_11 ?_
  refine g_iload_n h 2 rfl dX2_planned_12 ?_
  have zf1 := b2_some zf
  clear zf; obtain ⟨vq3, Mq4, zq, zf⟩ := zf1
  refine g_callVwi (As := [.int 0, .int x2]) (rest := []) h ceX2_bestGain mlX2_51 imX2_bestGain seX2_bestGain (by rfl) (kd_lt (by rw [(by decide : kd 49 = 1)]; decide)) (ent_1 (by decide : kd 49 = 1)) rfl rfl ⟨by decide, by decide⟩ ⟨by decide, by decide⟩ rfl dX2_planned_13 rfl (Nat.le_of_ble_eq_true rfl) (cmX2_bestGain 5 zq) ?_
  obtain rfl := Option.some.inj zf
  exact g_iret h rfl ⟨rfl, rfl⟩ (Nat.le_refl _) (Nat.le_refl _) dX2_planned_16

theorem cmX2_planned {l : Launch} {w : WX} {M : Mem} {x1 : Nat} {x2 : Int32} {res : (Int32 × Mem)} (zf : fX2_planned M x1 x2 = some res) : CM l w yX2_planned cX2_planned 3 (some .int) { frames := 41, cells := 0, slots := 0, locals := 1270 } 0 0 [rv w 49, rv w x1, .int x2] M (Pwi res) := by
  refine CM_of (by decide) (Nat.le_of_ble_eq_true rfl) (fun G hw hl h => ?_)
  subst hw
  exact kX2_planned_e0 h zf

-- X2_playOut
theorem kX2_playOut_b175 {G : GX} (h : OKm G cX2_playOut RX2 10 none { frames := 8, cells := 0, slots := 0, locals := 221 }) {a12 : Mem → Nat → Int32 → Int32 → Nat → Int32 → Option Mem} (zh12 : ∀ (M : Mem) (x1 : Nat) (x2 : Int32) (x3 : Int32) (x4 : Nat) (x5 : Int32) (res : Mem), a12 M x1 x2 x3 x4 x5 = some res → GG G (Qm G (Pwv res) 0 0) 0 0 12 [(0, rv G.1 49), (1, rv G.1 x1), (2, .int x2), (3, .int x3), (4, rv G.1 x4), (5, .int x5)] [] M) {M : Mem} {x1 : Nat} {x2 : Int32} {x3 : Int32} {x4 : Nat} {x5 : Int32} {x8 : Int32} {s0 : Int32} {s1 : Int32} {res : Mem} (zf : fX2_playOut_b175 a12 M x1 x2 x3 x4 x5 x8 s0 s1 = some res) : GG G (Qm G (Pwv res) 0 0) 0 0 175 [(0, rv G.1 49), (1, rv G.1 x1), (2, .int x2), (3, .int x3), (4, rv G.1 x4), (5, .int x5), (8, .int x8)] [.int s0, .int s1, rv G.1 60] M := by
  unfold fX2_playOut_b175 at zf
  have zf1 := pre_ck zf
  clear zf; obtain ⟨zk_x1, zf⟩ := zf1
  have zf1 := pre_ck zf
  clear zf; obtain ⟨zk_x4, zf⟩ := zf1
  refine g_iload h 6 rfl dX2_playOut_175 ?_
  refine g_isub h dX2_playOut_177 ?_
  refine g_iast h 4 (by decide : kd 60 = 20) (by decide) zf dX2_playOut_178 ?_
  clear zf; intro Mq12 zf
  refine g_iinc h 5 5 rfl (v := x5 + 1) (congrArg (fun z => x5 + z) (by decide : Int32.ofInt (1) = (1 : Int32))) [(5, .int (x5 + 1)), (0, rv G.1 49), (1, rv G.1 x1), (2, .int x2), (3, .int x3), (4, rv G.1 x4), (8, .int x8)] (by decide) rfl dX2_playOut_179 ?_
  refine g_nmV zf ?_
  clear zf; intro vq13 zf
  refine g_goto h 12 (by decide) dX2_playOut_182 ?_
  refine g_sub h [1, 2, 3, 4, 5, 0] rfl ?_
  exact zh12 _ _ _ _ _ _ _ zf

theorem kX2_playOut_b119 {G : GX} (h : OKm G cX2_playOut RX2 10 none { frames := 8, cells := 0, slots := 0, locals := 221 }) {a12 : Mem → Nat → Int32 → Int32 → Nat → Int32 → Option Mem} (zh12 : ∀ (M : Mem) (x1 : Nat) (x2 : Int32) (x3 : Int32) (x4 : Nat) (x5 : Int32) (res : Mem), a12 M x1 x2 x3 x4 x5 = some res → GG G (Qm G (Pwv res) 0 0) 0 0 12 [(0, rv G.1 49), (1, rv G.1 x1), (2, .int x2), (3, .int x3), (4, rv G.1 x4), (5, .int x5)] [] M) {M : Mem} {x1 : Nat} {x2 : Int32} {x3 : Int32} {x4 : Nat} {x5 : Int32} {x7 : Int32} {x8 : Int32} {s0 : Int32} {s1 : Int32} {res : Mem} (zf : fX2_playOut_b119 a12 M x1 x2 x3 x4 x5 x7 x8 s0 s1 = some res) : GG G (Qm G (Pwv res) 0 0) 0 0 119 [(0, rv G.1 49), (1, rv G.1 x1), (2, .int x2), (3, .int x3), (4, rv G.1 x4), (5, .int x5), (7, .int x7), (8, .int x8)] [.int s0, .int s1, rv G.1 59] M := by
  unfold fX2_playOut_b119 at zf
  have zf1 := pre_ck zf
  clear zf; obtain ⟨zk_x1, zf⟩ := zf1
  have zf1 := pre_ck zf
  clear zf; obtain ⟨zk_x4, zf⟩ := zf1
  refine g_iload h 7 rfl dX2_playOut_119 ?_
  refine g_isub h dX2_playOut_121 ?_
  refine g_iast h 4 (by decide : kd 59 = 20) (by decide) zf dX2_playOut_122 ?_
  clear zf; intro Mq7 zf
  refine g_aload_n h 0 rfl dX2_playOut_123 ?_
  refine gfX2_43 h (by decide : kd 49 = 1) dX2_playOut_124 ?_
  refine g_aload_n h 0 rfl dX2_playOut_127 ?_
  refine gfX2_12 h (by decide : kd 49 = 1) dX2_playOut_128 ?_
  refine g_aload_n h 0 rfl dX2_playOut_131 ?_
  refine gfX2_43 h (by decide : kd 49 = 1) dX2_playOut_132 ?_
  refine g_aload_n h 0 rfl dX2_playOut_135 ?_
  refine gfX2_12 h (by decide : kd 49 = 1) dX2_playOut_136 ?_
  refine gfX2_61 h (by decide : kd 50 = 2) dX2_playOut_139 ?_
  refine g_nmI zf ?_
  clear zf; intro vq8 zf
  have zf1 := bd_some zf
  clear zf; obtain ⟨vq9, zq, zf⟩ := zf1
  refine g_callVri (As := [.int vq8]) (rest := [rv G.1 50, rv G.1 28]) h ceX7_harvestOf mlX2_64 imX7_harvestOf seX7_harvestOf (by rfl) (kd_lt (by rw [(by decide : kd 28 = 6)]; decide)) (ent_6 (by decide : kd 28 = 6)) rfl rfl ⟨by decide, by decide⟩ ⟨by decide, by decide⟩ rfl dX2_playOut_142 rfl (Nat.le_of_ble_eq_true rfl) (cmX7_harvestOf zq) ?_
  refine g_iload h 6 rfl dX2_playOut_145 ?_
  have zf1 := b2_some zf
  clear zf; obtain ⟨vq10, Mq11, zq, zf⟩ := zf1
  refine g_callVwi (As := [rv G.1 50, .int vq9, .int x7]) (rest := []) h ceX7_live mlX2_107 imX7_live seX7_live (by rfl) (kd_lt (by rw [(by decide : kd 28 = 6)]; decide)) (ent_6 (by decide : kd 28 = 6)) rfl rfl ⟨by decide, by decide⟩ ⟨by decide, by decide⟩ rfl dX2_playOut_147 rfl (Nat.le_of_ble_eq_true rfl) (cmX7_live zq) ?_
  refine g_istore h [(9, .int vq10), (0, rv G.1 49), (1, rv G.1 x1), (2, .int x2), (3, .int x3), (4, rv G.1 x4), (5, .int x5), (7, .int x7), (8, .int x8)] (by decide) rfl dX2_playOut_150 ?_
  refine g_aload_n h 1 rfl dX2_playOut_152 ?_
  refine gfX2_40 h (by decide : kd 49 = 1) dX2_playOut_153 ?_
  refine g_iload h 6 rfl dX2_playOut_156 ?_
  refine g_iload h 0 rfl dX2_playOut_158 ?_
  refine g_if_eq h 174 (by decide) zf dX2_playOut_160 ?_ ?_ <;> clear zf <;> intro zf
  · refine g_iconst h 0 (v := 0) (by decide) dX2_playOut_174 ?_
    refine g_sub h [1, 2, 3, 4, 5, 6, 8] rfl ?_
    exact kX2_playOut_b175 h zh12 zf
  · refine g_aload h 5 rfl dX2_playOut_163 ?_
    refine gfX2_83 h zk_x4 dX2_playOut_165 ?_
    refine g_iload h 7 rfl dX2_playOut_168 ?_
    refine g_iald h 7 (kf4_4 zk_x4) (lf4_4 zk_x4) zf dX2_playOut_170 ?_
    clear zf; intro vq14 zf
    refine g_goto h 175 (by decide) dX2_playOut_171 ?_
    refine g_sub h [1, 2, 3, 4, 5, 6, 8] rfl ?_
    exact kX2_playOut_b175 h zh12 zf

theorem kX2_playOut_b57 {G : GX} (h : OKm G cX2_playOut RX2 10 none { frames := 8, cells := 0, slots := 0, locals := 221 }) {a12 : Mem → Nat → Int32 → Int32 → Nat → Int32 → Option Mem} (zh12 : ∀ (M : Mem) (x1 : Nat) (x2 : Int32) (x3 : Int32) (x4 : Nat) (x5 : Int32) (res : Mem), a12 M x1 x2 x3 x4 x5 = some res → GG G (Qm G (Pwv res) 0 0) 0 0 12 [(0, rv G.1 49), (1, rv G.1 x1), (2, .int x2), (3, .int x3), (4, rv G.1 x4), (5, .int x5)] [] M) {M : Mem} {x1 : Nat} {x2 : Int32} {x3 : Int32} {x4 : Nat} {x5 : Int32} {x6 : Int32} {x7 : Int32} {s0 : Int32} {res : Mem} (zf : fX2_playOut_b57 a12 M x1 x2 x3 x4 x5 x6 x7 s0 = some res) : GG G (Qm G (Pwv res) 0 0) 0 0 57 [(0, rv G.1 49), (1, rv G.1 x1), (2, .int x2), (3, .int x3), (4, rv G.1 x4), (5, .int x5), (6, .int x6), (7, .int x7)] [.int s0] M := by
  unfold fX2_playOut_b57 at zf
  have zf1 := pre_ck zf
  clear zf; obtain ⟨zk_x1, zf⟩ := zf1
  have zf1 := pre_ck zf
  clear zf; obtain ⟨zk_x4, zf⟩ := zf1
  refine g_istore h [(8, .int s0), (0, rv G.1 49), (1, rv G.1 x1), (2, .int x2), (3, .int x3), (4, rv G.1 x4), (5, .int x5), (6, .int x6), (7, .int x7)] (by decide) rfl dX2_playOut_57 ?_
  refine g_aload_n h 1 rfl dX2_playOut_59 ?_
  refine gfX2_12 h (by decide : kd 49 = 1) dX2_playOut_60 ?_
  refine g_aload_n h 2 rfl dX2_playOut_63 ?_
  have zf1 := bd_some zf
  clear zf; obtain ⟨Mq2, zq, zf⟩ := zf1
  refine g_callVwv (As := [rv G.1 x1]) (rest := []) h ceX3_become mlX2_47 imX3_become seX3_become (by rfl) (kd_lt (by rw [(by decide : kd 50 = 2)]; decide)) (ent_2 (by decide : kd 50 = 2)) rfl rfl ⟨by decide, by decide⟩ ⟨by decide, by decide⟩ rfl dX2_playOut_64 rfl (Nat.le_of_ble_eq_true rfl) (cmX3_become zq) ?_
  refine g_aload_n h 1 rfl dX2_playOut_67 ?_
  refine gfX2_43 h (by decide : kd 49 = 1) dX2_playOut_68 ?_
  refine g_aload_n h 1 rfl dX2_playOut_71 ?_
  refine gfX2_12 h (by decide : kd 49 = 1) dX2_playOut_72 ?_
  refine g_aload_n h 1 rfl dX2_playOut_75 ?_
  refine gfX2_43 h (by decide : kd 49 = 1) dX2_playOut_76 ?_
  refine g_aload_n h 1 rfl dX2_playOut_79 ?_
  refine gfX2_12 h (by decide : kd 49 = 1) dX2_playOut_80 ?_
  refine gfX2_61 h (by decide : kd 50 = 2) dX2_playOut_83 ?_
  refine g_nmI zf ?_
  clear zf; intro vq3 zf
  have zf1 := bd_some zf
  clear zf; obtain ⟨vq4, zq, zf⟩ := zf1
  refine g_callVri (As := [.int vq3]) (rest := [rv G.1 50, rv G.1 28]) h ceX7_harvestOf mlX2_64 imX7_harvestOf seX7_harvestOf (by rfl) (kd_lt (by rw [(by decide : kd 28 = 6)]; decide)) (ent_6 (by decide : kd 28 = 6)) rfl rfl ⟨by decide, by decide⟩ ⟨by decide, by decide⟩ rfl dX2_playOut_86 rfl (Nat.le_of_ble_eq_true rfl) (cmX7_harvestOf zq) ?_
  refine g_iload h 7 rfl dX2_playOut_89 ?_
  have zf1 := b2_some zf
  clear zf; obtain ⟨vq5, Mq6, zq, zf⟩ := zf1
  refine g_callVwi (As := [rv G.1 50, .int vq4, .int x6]) (rest := []) h ceX7_live mlX2_107 imX7_live seX7_live (by rfl) (kd_lt (by rw [(by decide : kd 28 = 6)]; decide)) (ent_6 (by decide : kd 28 = 6)) rfl rfl ⟨by decide, by decide⟩ ⟨by decide, by decide⟩ rfl dX2_playOut_91 rfl (Nat.le_of_ble_eq_true rfl) (cmX7_live zq) ?_
  refine g_istore h [(9, .int vq5), (8, .int s0), (0, rv G.1 49), (1, rv G.1 x1), (2, .int x2), (3, .int x3), (4, rv G.1 x4), (5, .int x5), (6, .int x6), (7, .int x7)] (by decide) rfl dX2_playOut_94 ?_
  refine g_aload_n h 2 rfl dX2_playOut_96 ?_
  refine gfX2_37 h (by decide : kd 49 = 1) dX2_playOut_97 ?_
  refine g_iload h 7 rfl dX2_playOut_100 ?_
  refine g_iload h 0 rfl dX2_playOut_102 ?_
  refine g_if_eq h 118 (by decide) zf dX2_playOut_104 ?_ ?_ <;> clear zf <;> intro zf
  · refine g_iconst h 0 (v := 0) (by decide) dX2_playOut_118 ?_
    refine g_sub h [2, 3, 4, 5, 6, 7, 9, 1] rfl ?_
    exact kX2_playOut_b119 h zh12 zf
  · refine g_aload h 6 rfl dX2_playOut_107 ?_
    refine gfX2_83 h zk_x4 dX2_playOut_109 ?_
    refine g_iload h 8 rfl dX2_playOut_112 ?_
    refine g_iald h 7 (kf4_4 zk_x4) (lf4_4 zk_x4) zf dX2_playOut_114 ?_
    clear zf; intro vq15 zf
    refine g_goto h 119 (by decide) dX2_playOut_115 ?_
    refine g_sub h [2, 3, 4, 5, 6, 7, 9, 1] rfl ?_
    exact kX2_playOut_b119 h zh12 zf

theorem kX2_playOut_b43 {G : GX} (h : OKm G cX2_playOut RX2 10 none { frames := 8, cells := 0, slots := 0, locals := 221 }) {a12 : Mem → Nat → Int32 → Int32 → Nat → Int32 → Option Mem} (zh12 : ∀ (M : Mem) (x1 : Nat) (x2 : Int32) (x3 : Int32) (x4 : Nat) (x5 : Int32) (res : Mem), a12 M x1 x2 x3 x4 x5 = some res → GG G (Qm G (Pwv res) 0 0) 0 0 12 [(0, rv G.1 49), (1, rv G.1 x1), (2, .int x2), (3, .int x3), (4, rv G.1 x4), (5, .int x5)] [] M) {M : Mem} {x1 : Nat} {x2 : Int32} {x3 : Int32} {x4 : Nat} {x5 : Int32} {x6 : Int32} {s0 : Int32} {res : Mem} (zf : fX2_playOut_b43 a12 M x1 x2 x3 x4 x5 x6 s0 = some res) : GG G (Qm G (Pwv res) 0 0) 0 0 43 [(0, rv G.1 49), (1, rv G.1 x1), (2, .int x2), (3, .int x3), (4, rv G.1 x4), (5, .int x5), (6, .int x6)] [.int s0] M := by
  unfold fX2_playOut_b43 at zf
  have zf1 := pre_ck zf
  clear zf; obtain ⟨zk_x1, zf⟩ := zf1
  have zf1 := pre_ck zf
  clear zf; obtain ⟨zk_x4, zf⟩ := zf1
  refine g_istore h [(7, .int s0), (0, rv G.1 49), (1, rv G.1 x1), (2, .int x2), (3, .int x3), (4, rv G.1 x4), (5, .int x5), (6, .int x6)] (by decide) rfl dX2_playOut_43 ?_
  refine g_iload h 7 rfl dX2_playOut_45 ?_
  refine g_iload h 0 rfl dX2_playOut_47 ?_
  refine g_ic_ne h 56 (by decide) zf dX2_playOut_49 ?_ ?_ <;> clear zf <;> intro zf
  · refine g_iconst h 0 (v := 0) (by decide) dX2_playOut_56 ?_
    refine g_sub h [1, 2, 3, 4, 5, 6, 7, 0] rfl ?_
    exact kX2_playOut_b57 h zh12 zf
  · refine g_iconst h 3 (v := 3) (by decide) dX2_playOut_52 ?_
    refine g_goto h 57 (by decide) dX2_playOut_53 ?_
    refine g_sub h [1, 2, 3, 4, 5, 6, 7, 0] rfl ?_
    exact kX2_playOut_b57 h zh12 zf

theorem kX2_playOut_b29 {G : GX} (h : OKm G cX2_playOut RX2 10 none { frames := 8, cells := 0, slots := 0, locals := 221 }) {a12 : Mem → Nat → Int32 → Int32 → Nat → Int32 → Option Mem} (zh12 : ∀ (M : Mem) (x1 : Nat) (x2 : Int32) (x3 : Int32) (x4 : Nat) (x5 : Int32) (res : Mem), a12 M x1 x2 x3 x4 x5 = some res → GG G (Qm G (Pwv res) 0 0) 0 0 12 [(0, rv G.1 49), (1, rv G.1 x1), (2, .int x2), (3, .int x3), (4, rv G.1 x4), (5, .int x5)] [] M) {M : Mem} {x1 : Nat} {x2 : Int32} {x3 : Int32} {x4 : Nat} {x5 : Int32} {s0 : Int32} {res : Mem} (zf : fX2_playOut_b29 a12 M x1 x2 x3 x4 x5 s0 = some res) : GG G (Qm G (Pwv res) 0 0) 0 0 29 [(0, rv G.1 49), (1, rv G.1 x1), (2, .int x2), (3, .int x3), (4, rv G.1 x4), (5, .int x5)] [.int s0] M := by
  unfold fX2_playOut_b29 at zf
  have zf1 := pre_ck zf
  clear zf; obtain ⟨zk_x1, zf⟩ := zf1
  have zf1 := pre_ck zf
  clear zf; obtain ⟨zk_x4, zf⟩ := zf1
  refine g_istore h [(6, .int s0), (0, rv G.1 49), (1, rv G.1 x1), (2, .int x2), (3, .int x3), (4, rv G.1 x4), (5, .int x5)] (by decide) rfl dX2_playOut_29 ?_
  refine g_iload h 6 rfl dX2_playOut_31 ?_
  refine g_iconst h 2 (v := 2) (by decide) dX2_playOut_33 ?_
  refine g_irem h (by decide) dX2_playOut_34 ?_
  refine g_if_ne h 42 (by decide) zf dX2_playOut_35 ?_ ?_ <;> clear zf <;> intro zf
  · refine g_iload_n h 4 rfl dX2_playOut_42 ?_
    refine g_sub h [1, 2, 3, 4, 5, 6, 0] rfl ?_
    exact kX2_playOut_b43 h zh12 zf
  · refine g_iload_n h 3 rfl dX2_playOut_38 ?_
    refine g_goto h 43 (by decide) dX2_playOut_39 ?_
    refine g_sub h [1, 2, 3, 4, 5, 6, 0] rfl ?_
    exact kX2_playOut_b43 h zh12 zf

theorem kX2_playOut_l12 {G : GX} (h : OKm G cX2_playOut RX2 10 none { frames := 8, cells := 0, slots := 0, locals := 221 }) : ∀ (n : Nat) (M : Mem) (x1 : Nat) (x2 : Int32) (x3 : Int32) (x4 : Nat) (x5 : Int32) (res : Mem), fX2_playOut_l12 n M x1 x2 x3 x4 x5 = some res → GG G (Qm G (Pwv res) 0 0) 0 0 12 [(0, rv G.1 49), (1, rv G.1 x1), (2, .int x2), (3, .int x3), (4, rv G.1 x4), (5, .int x5)] [] M := by
  intro n
  induction n with
  | zero => intro M x1 x2 x3 x4 x5 res zf; rw [fX2_playOut_l12] at zf; cases zf
  | succ n ih =>
    intro M x1 x2 x3 x4 x5 res zf
    rw [fX2_playOut_l12] at zf
    have zf1 := pre_ck zf
    clear zf; obtain ⟨zk_x1, zf⟩ := zf1
    have zf1 := pre_ck zf
    clear zf; obtain ⟨zk_x4, zf⟩ := zf1
    refine g_iload h 5 rfl dX2_playOut_12 ?_
    refine g_iconst h 4 (v := 4) (by decide) dX2_playOut_14 ?_
    refine g_ic_ge h 185 (by decide) zf dX2_playOut_15 ?_ ?_ <;> clear zf <;> intro zf
    · obtain rfl := Option.some.inj zf
      exact g_vret h rfl ⟨rfl, rfl⟩ (Nat.le_refl _) (Nat.le_refl _) dX2_playOut_185
    · refine g_iload h 5 rfl dX2_playOut_18 ?_
      refine g_iconst h 2 (v := 2) (by decide) dX2_playOut_20 ?_
      refine g_ic_ge h 28 (by decide) zf dX2_playOut_21 ?_ ?_ <;> clear zf <;> intro zf
      · refine g_iload_n h 3 rfl dX2_playOut_28 ?_
        refine g_sub h [0, 1, 2, 3, 4, 5] rfl ?_
        exact kX2_playOut_b29 h ih zf
      · refine g_iload_n h 2 rfl dX2_playOut_24 ?_
        refine g_goto h 29 (by decide) dX2_playOut_25 ?_
        refine g_sub h [0, 1, 2, 3, 4, 5] rfl ?_
        exact kX2_playOut_b29 h ih zf

theorem kX2_playOut_e0 {G : GX} (h : OKm G cX2_playOut RX2 10 none { frames := 8, cells := 0, slots := 0, locals := 221 }) {M : Mem} {x1 : Nat} {x2 : Int32} {x3 : Int32} {res : Mem} (zf : fX2_playOut M x1 x2 x3 = some res) : GG G (Qm G (Pwv res) 0 0) 0 0 0 [(0, rv G.1 49), (1, rv G.1 x1), (2, .int x2), (3, .int x3)] [] M := by
  unfold fX2_playOut at zf
  have zf1 := pre_ck zf
  clear zf; obtain ⟨zk_x1, zf⟩ := zf1
  refine g_aload_n h 0 rfl dX2_playOut_0 ?_
  refine gfX2_43 h (by decide : kd 49 = 1) dX2_playOut_1 ?_
  refine gfX2_55 h (by decide : kd 28 = 6) dX2_playOut_4 ?_
  refine g_nmR zf ?_
  clear zf; intro oq1 zf
  have zf1 := pre_ck zf
  clear zf; obtain ⟨zk_oq1, zf⟩ := zf1
  refine g_astore h [(4, rv G.1 oq1), (0, rv G.1 49), (1, rv G.1 x1), (2, .int x2), (3, .int x3)] (by decide) rfl dX2_playOut_7 ?_
  refine g_iconst h 0 (v := 0) (by decide) dX2_playOut_9 ?_
  refine g_istore h [(5, .int 0), (4, rv G.1 oq1), (0, rv G.1 49), (1, rv G.1 x1), (2, .int x2), (3, .int x3)] (by decide) rfl dX2_playOut_10 ?_
  refine g_sub h [2, 3, 4, 5, 1, 0] rfl ?_
  exact kX2_playOut_l12 h _ _ _ _ _ _ _ _ zf

theorem cmX2_playOut {l : Launch} {w : WX} {M : Mem} {x1 : Nat} {x2 : Int32} {x3 : Int32} {res : Mem} (zf : fX2_playOut M x1 x2 x3 = some res) : CM l w yX2_playOut cX2_playOut 10 none { frames := 8, cells := 0, slots := 0, locals := 221 } 0 0 [rv w 49, rv w x1, .int x2, .int x3] M (Pwv res) := by
  refine CM_of (by decide) (Nat.le_of_ble_eq_true rfl) (fun G hw hl h => ?_)
  subst hw
  exact kX2_playOut_e0 h zf

-- X2_survey
theorem kX2_survey_b92 {G : GX} (h : OKm G cX2_survey RX2 5 none { frames := 9, cells := 0, slots := 0, locals := 248 }) {a50 : Mem → Nat → Nat → Int32 → Option Mem} (zh50 : ∀ (M : Mem) (x1 : Nat) (x2 : Nat) (x3 : Int32) (res : Mem), a50 M x1 x2 x3 = some res → GG G (Qm G (Pwv res) 0 0) 0 0 50 [(0, rv G.1 49), (1, rv G.1 x1), (2, rv G.1 x2), (3, .int x3)] [] M) {a59 : Mem → Nat → Nat → Int32 → Int32 → Option Mem} (zh59 : ∀ (M : Mem) (x1 : Nat) (x2 : Nat) (x3 : Int32) (x4 : Int32) (res : Mem), a59 M x1 x2 x3 x4 = some res → GG G (Qm G (Pwv res) 0 0) 0 0 59 [(0, rv G.1 49), (1, rv G.1 x1), (2, rv G.1 x2), (3, .int x3), (4, .int x4)] [] M) {M : Mem} {x1 : Nat} {x2 : Nat} {x3 : Int32} {x4 : Int32} {res : Mem} (zf : fX2_survey_b92 a50 a59 M x1 x2 x3 x4 = some res) : GG G (Qm G (Pwv res) 0 0) 0 0 92 [(0, rv G.1 49), (1, rv G.1 x1), (2, rv G.1 x2), (3, .int x3), (4, .int x4)] [] M := by
  unfold fX2_survey_b92 at zf
  have zf1 := pre_ck zf
  clear zf; obtain ⟨zk_x1, zf⟩ := zf1
  have zf1 := pre_ck zf
  clear zf; obtain ⟨zk_x2, zf⟩ := zf1
  refine g_iinc h 4 4 rfl (v := x4 + 1) (congrArg (fun z => x4 + z) (by decide : Int32.ofInt (1) = (1 : Int32))) [(4, .int (x4 + 1)), (0, rv G.1 49), (1, rv G.1 x1), (2, rv G.1 x2), (3, .int x3)] (by decide) rfl dX2_survey_92 ?_
  refine g_nmV zf ?_
  clear zf; intro vq6 zf
  refine g_goto h 59 (by decide) dX2_survey_95 ?_
  refine g_sub h [1, 2, 3, 4, 0] rfl ?_
  exact zh59 _ _ _ _ _ _ zf

theorem kX2_survey_l59 {G : GX} (h : OKm G cX2_survey RX2 5 none { frames := 9, cells := 0, slots := 0, locals := 248 }) {a50 : Mem → Nat → Nat → Int32 → Option Mem} (zh50 : ∀ (M : Mem) (x1 : Nat) (x2 : Nat) (x3 : Int32) (res : Mem), a50 M x1 x2 x3 = some res → GG G (Qm G (Pwv res) 0 0) 0 0 50 [(0, rv G.1 49), (1, rv G.1 x1), (2, rv G.1 x2), (3, .int x3)] [] M) : ∀ (n : Nat) (M : Mem) (x1 : Nat) (x2 : Nat) (x3 : Int32) (x4 : Int32) (res : Mem), fX2_survey_l59 a50 n M x1 x2 x3 x4 = some res → GG G (Qm G (Pwv res) 0 0) 0 0 59 [(0, rv G.1 49), (1, rv G.1 x1), (2, rv G.1 x2), (3, .int x3), (4, .int x4)] [] M := by
  intro n
  induction n with
  | zero => intro M x1 x2 x3 x4 res zf; rw [fX2_survey_l59] at zf; cases zf
  | succ n ih =>
    intro M x1 x2 x3 x4 res zf
    rw [fX2_survey_l59] at zf
    have zf1 := pre_ck zf
    clear zf; obtain ⟨zk_x1, zf⟩ := zf1
    have zf1 := pre_ck zf
    clear zf; obtain ⟨zk_x2, zf⟩ := zf1
    refine g_iload h 4 rfl dX2_survey_59 ?_
    refine g_aload_n h 0 rfl dX2_survey_61 ?_
    refine gfX2_43 h (by decide : kd 49 = 1) dX2_survey_62 ?_
    refine gfX2_55 h (by decide : kd 28 = 6) dX2_survey_65 ?_
    refine g_nmR zf ?_
    clear zf; intro oq1 zf
    have zf1 := pre_ck zf
    clear zf; obtain ⟨zk_oq1, zf⟩ := zf1
    refine gfX2_72 h zk_oq1 dX2_survey_68 ?_
    refine g_nmI zf ?_
    clear zf; intro vq2 zf
    refine g_ic_ge h 98 (by decide) zf dX2_survey_71 ?_ ?_ <;> clear zf <;> intro zf
    · refine g_iinc h 3 3 rfl (v := x3 + 1) (congrArg (fun z => x3 + z) (by decide : Int32.ofInt (1) = (1 : Int32))) [(3, .int (x3 + 1)), (0, rv G.1 49), (1, rv G.1 x1), (2, rv G.1 x2), (4, .int x4)] (by decide) rfl dX2_survey_98 ?_
      refine g_nmV zf ?_
      clear zf; intro vq3 zf
      refine g_goto h 50 (by decide) dX2_survey_101 ?_
      refine g_sub h [1, 2, 3, 0] rfl ?_
      exact zh50 _ _ _ _ _ zf
    · refine g_aload_n h 0 rfl dX2_survey_74 ?_
      refine g_aload_n h 1 rfl dX2_survey_75 ?_
      refine g_aload_n h 2 rfl dX2_survey_76 ?_
      refine g_iload_n h 3 rfl dX2_survey_77 ?_
      refine g_iload h 4 rfl dX2_survey_78 ?_
      refine g_bipush h 30 (v := 30) (by decide) dX2_survey_80 ?_
      have zf1 := b2_some zf
      clear zf; obtain ⟨vq4, Mq5, zq, zf⟩ := zf1
      refine g_callVwi (As := [rv G.1 x1, rv G.1 x2, .int x3, .int x4, .int 30]) (rest := []) h ceX2_fits mlX2_117 imX2_fits seX2_fits (by rfl) (kd_lt (by rw [(by decide : kd 49 = 1)]; decide)) (ent_1 (by decide : kd 49 = 1)) rfl rfl ⟨by decide, by decide⟩ ⟨by decide, by decide⟩ rfl dX2_survey_82 rfl (Nat.le_of_ble_eq_true rfl) (cmX2_fits zq) ?_
      refine g_if_eq h 92 (by decide) zf dX2_survey_85 ?_ ?_ <;> clear zf <;> intro zf
      · refine g_sub h [0, 1, 2, 3, 4] rfl ?_
        exact kX2_survey_b92 h zh50 ih zf
      · refine g_aload_n h 0 rfl dX2_survey_88 ?_
        have zf1 := bd_some zf
        clear zf; obtain ⟨Mq7, zq, zf⟩ := zf1
        refine g_callVwv (As := []) (rest := []) h ceX2_markStores mlX2_121 imX2_markStores seX2_markStores (by rfl) (kd_lt (by rw [(by decide : kd 49 = 1)]; decide)) (ent_1 (by decide : kd 49 = 1)) rfl rfl ⟨by decide, by decide⟩ ⟨by decide, by decide⟩ rfl dX2_survey_89 rfl (Nat.le_of_ble_eq_true rfl) (cmX2_markStores zq) ?_
        refine g_sub h [0, 1, 2, 3, 4] rfl ?_
        exact kX2_survey_b92 h zh50 ih zf

theorem kX2_survey_l50 {G : GX} (h : OKm G cX2_survey RX2 5 none { frames := 9, cells := 0, slots := 0, locals := 248 }) : ∀ (n : Nat) (M : Mem) (x1 : Nat) (x2 : Nat) (x3 : Int32) (res : Mem), fX2_survey_l50 n M x1 x2 x3 = some res → GG G (Qm G (Pwv res) 0 0) 0 0 50 [(0, rv G.1 49), (1, rv G.1 x1), (2, rv G.1 x2), (3, .int x3)] [] M := by
  intro n
  induction n with
  | zero => intro M x1 x2 x3 res zf; rw [fX2_survey_l50] at zf; cases zf
  | succ n ih =>
    intro M x1 x2 x3 res zf
    rw [fX2_survey_l50] at zf
    have zf1 := pre_ck zf
    clear zf; obtain ⟨zk_x1, zf⟩ := zf1
    have zf1 := pre_ck zf
    clear zf; obtain ⟨zk_x2, zf⟩ := zf1
    refine g_iload_n h 3 rfl dX2_survey_50 ?_
    refine g_bipush h 12 (v := 12) (by decide) dX2_survey_51 ?_
    refine g_ic_gt h 104 (by decide) zf dX2_survey_53 ?_ ?_ <;> clear zf <;> intro zf
    · obtain rfl := Option.some.inj zf
      exact g_vret h rfl ⟨rfl, rfl⟩ (Nat.le_refl _) (Nat.le_refl _) dX2_survey_104
    · refine g_iconst h 0 (v := 0) (by decide) dX2_survey_56 ?_
      refine g_istore h [(4, .int 0), (0, rv G.1 49), (1, rv G.1 x1), (2, rv G.1 x2), (3, .int x3)] (by decide) rfl dX2_survey_57 ?_
      refine g_sub h [1, 2, 3, 4, 0] rfl ?_
      exact kX2_survey_l59 h ih _ _ _ _ _ _ _ zf

theorem kX2_survey_l26 {G : GX} (h : OKm G cX2_survey RX2 5 none { frames := 9, cells := 0, slots := 0, locals := 248 }) : ∀ (n : Nat) (M : Mem) (x1 : Nat) (x2 : Nat) (x3 : Int32) (res : Mem), fX2_survey_l26 n M x1 x2 x3 = some res → GG G (Qm G (Pwv res) 0 0) 0 0 26 [(0, rv G.1 49), (1, rv G.1 x1), (2, rv G.1 x2), (3, .int x3)] [] M := by
  intro n
  induction n with
  | zero => intro M x1 x2 x3 res zf; rw [fX2_survey_l26] at zf; cases zf
  | succ n ih =>
    intro M x1 x2 x3 res zf
    rw [fX2_survey_l26] at zf
    have zf1 := pre_ck zf
    clear zf; obtain ⟨zk_x1, zf⟩ := zf1
    have zf1 := pre_ck zf
    clear zf; obtain ⟨zk_x2, zf⟩ := zf1
    refine g_iload_n h 3 rfl dX2_survey_26 ?_
    refine g_aload_n h 0 rfl dX2_survey_27 ?_
    refine gfX2_34 h (by decide : kd 49 = 1) dX2_survey_28 ?_
    refine g_ilen h 30 (z := 30) (by decide : kd 58 = 20) (by decide) (by decide) dX2_survey_31 ?_
    refine g_ic_ge h 48 (by decide) zf dX2_survey_32 ?_ ?_ <;> clear zf <;> intro zf
    · refine g_iconst h 1 (v := 1) (by decide) dX2_survey_48 ?_
      refine g_istore_n h rfl [(3, .int 1), (0, rv G.1 49), (1, rv G.1 x1), (2, rv G.1 x2)] (by decide) rfl dX2_survey_49 ?_
      refine g_sub h [1, 2, 3, 0] rfl ?_
      exact kX2_survey_l50 h _ _ _ _ _ _ zf
    · refine g_aload_n h 0 rfl dX2_survey_35 ?_
      refine gfX2_34 h (by decide : kd 49 = 1) dX2_survey_36 ?_
      refine g_iload_n h 3 rfl dX2_survey_39 ?_
      refine g_iconst h 0 (v := 0) (by decide) dX2_survey_40 ?_
      refine g_iast h 30 (by decide : kd 58 = 20) (by decide) zf dX2_survey_41 ?_
      clear zf; intro Mq8 zf
      refine g_iinc h 3 3 rfl (v := x3 + 1) (congrArg (fun z => x3 + z) (by decide : Int32.ofInt (1) = (1 : Int32))) [(3, .int (x3 + 1)), (0, rv G.1 49), (1, rv G.1 x1), (2, rv G.1 x2)] (by decide) rfl dX2_survey_42 ?_
      refine g_nmV zf ?_
      clear zf; intro vq9 zf
      refine g_goto h 26 (by decide) dX2_survey_45 ?_
      refine g_sub h [1, 2, 3, 0] rfl ?_
      exact ih _ _ _ _ _ zf

theorem kX2_survey_l2 {G : GX} (h : OKm G cX2_survey RX2 5 none { frames := 9, cells := 0, slots := 0, locals := 248 }) : ∀ (n : Nat) (M : Mem) (x1 : Nat) (x2 : Nat) (x3 : Int32) (res : Mem), fX2_survey_l2 n M x1 x2 x3 = some res → GG G (Qm G (Pwv res) 0 0) 0 0 2 [(0, rv G.1 49), (1, rv G.1 x1), (2, rv G.1 x2), (3, .int x3)] [] M := by
  intro n
  induction n with
  | zero => intro M x1 x2 x3 res zf; rw [fX2_survey_l2] at zf; cases zf
  | succ n ih =>
    intro M x1 x2 x3 res zf
    rw [fX2_survey_l2] at zf
    have zf1 := pre_ck zf
    clear zf; obtain ⟨zk_x1, zf⟩ := zf1
    have zf1 := pre_ck zf
    clear zf; obtain ⟨zk_x2, zf⟩ := zf1
    refine g_iload_n h 3 rfl dX2_survey_2 ?_
    refine g_aload_n h 0 rfl dX2_survey_3 ?_
    refine gfX2_30 h (by decide : kd 49 = 1) dX2_survey_4 ?_
    refine g_llen h 480 (z := 480) (by decide : kd 57 = 22) (by decide) (by decide) dX2_survey_7 ?_
    refine g_ic_ge h 24 (by decide) zf dX2_survey_8 ?_ ?_ <;> clear zf <;> intro zf
    · refine g_iconst h 0 (v := 0) (by decide) dX2_survey_24 ?_
      refine g_istore_n h rfl [(3, .int 0), (0, rv G.1 49), (1, rv G.1 x1), (2, rv G.1 x2)] (by decide) rfl dX2_survey_25 ?_
      refine g_sub h [1, 2, 3, 0] rfl ?_
      exact kX2_survey_l26 h _ _ _ _ _ _ zf
    · refine g_aload_n h 0 rfl dX2_survey_11 ?_
      refine gfX2_30 h (by decide : kd 49 = 1) dX2_survey_12 ?_
      refine g_iload_n h 3 rfl dX2_survey_15 ?_
      refine g_lconst h 0 (v := 0) (by decide) dX2_survey_16 ?_
      refine g_last h 480 (by decide : kd 57 = 22) (by decide) zf dX2_survey_17 ?_
      clear zf; intro Mq10 zf
      refine g_iinc h 3 3 rfl (v := x3 + 1) (congrArg (fun z => x3 + z) (by decide : Int32.ofInt (1) = (1 : Int32))) [(3, .int (x3 + 1)), (0, rv G.1 49), (1, rv G.1 x1), (2, rv G.1 x2)] (by decide) rfl dX2_survey_18 ?_
      refine g_nmV zf ?_
      clear zf; intro vq11 zf
      refine g_goto h 2 (by decide) dX2_survey_21 ?_
      refine g_sub h [1, 2, 3, 0] rfl ?_
      exact ih _ _ _ _ _ zf

theorem kX2_survey_e0 {G : GX} (h : OKm G cX2_survey RX2 5 none { frames := 9, cells := 0, slots := 0, locals := 248 }) {M : Mem} {x1 : Nat} {x2 : Nat} {res : Mem} (zf : fX2_survey M x1 x2 = some res) : GG G (Qm G (Pwv res) 0 0) 0 0 0 [(0, rv G.1 49), (1, rv G.1 x1), (2, rv G.1 x2)] [] M := by
  unfold fX2_survey at zf
  have zf1 := pre_ck zf
  clear zf; obtain ⟨zk_x1, zf⟩ := zf1
  have zf1 := pre_ck zf
  clear zf; obtain ⟨zk_x2, zf⟩ := zf1
  refine g_iconst h 0 (v := 0) (by decide) dX2_survey_0 ?_
  refine g_istore_n h rfl [(3, .int 0), (0, rv G.1 49), (1, rv G.1 x1), (2, rv G.1 x2)] (by decide) rfl dX2_survey_1 ?_
  refine g_sub h [1, 2, 3, 0] rfl ?_
  exact kX2_survey_l2 h _ _ _ _ _ _ zf

theorem cmX2_survey {l : Launch} {w : WX} {M : Mem} {x1 : Nat} {x2 : Nat} {res : Mem} (zf : fX2_survey M x1 x2 = some res) : CM l w yX2_survey cX2_survey 5 none { frames := 9, cells := 0, slots := 0, locals := 248 } 0 0 [rv w 49, rv w x1, rv w x2] M (Pwv res) := by
  refine CM_of (by decide) (Nat.le_of_ble_eq_true rfl) (fun G hw hl h => ?_)
  subst hw
  exact kX2_survey_e0 h zf

-- X3_wealth
theorem kX3_wealth_e0 {G : GX} (h : OKm G cX3_wealth RX3 1 (some .int) { frames := 0, cells := 0, slots := 0, locals := 0 }) {M : Mem} {x0 : Nat} {res : Int32} (zf : fX3_wealth M x0 = some res) : GG G (Qm G (Pri res M) 0 0) 0 0 0 [(0, rv G.1 x0)] [] M := by
  unfold fX3_wealth at zf
  have zf1 := pre_ck zf
  clear zf; obtain ⟨zk_x0, zf⟩ := zf1
  refine g_aload_n h 0 rfl dX3_wealth_0 ?_
  refine gfX3_27 h zk_x0 dX3_wealth_1 ?_
  refine g_nmI zf ?_
  clear zf; intro vq1 zf
  refine g_aload_n h 0 rfl dX3_wealth_4 ?_
  refine gfX3_34 h zk_x0 dX3_wealth_5 ?_
  refine g_nmI zf ?_
  clear zf; intro vq2 zf
  refine g_isub h dX3_wealth_8 ?_
  obtain rfl := Option.some.inj zf
  exact g_iret h rfl ⟨rfl, rfl⟩ (Nat.le_refl _) (Nat.le_refl _) dX3_wealth_9

theorem cmX3_wealth {l : Launch} {w : WX} {M : Mem} {x0 : Nat} {res : Int32} (zf : fX3_wealth M x0 = some res) : CM l w yX3_wealth cX3_wealth 1 (some .int) { frames := 0, cells := 0, slots := 0, locals := 0 } 0 0 [rv w x0] M (Pri res M) := by
  refine CM_of (by decide) (Nat.le_of_ble_eq_true rfl) (fun G hw hl h => ?_)
  subst hw
  exact kX3_wealth_e0 h zf

-- X8_begin
theorem kX8_begin_e0 {G : GX} (h : OKm G cX8_begin RX8 2 none { frames := 0, cells := 0, slots := 0, locals := 0 }) {M : Mem} {x0 : Nat} {x1 : Int32} {res : Mem} (zf : fX8_begin M x0 x1 = some res) : GG G (Qm G (Pwv res) 0 0) 0 0 0 [(0, rv G.1 x0), (1, .int x1)] [] M := by
  unfold fX8_begin at zf
  have zf1 := pre_ck zf
  clear zf; obtain ⟨zk_x0, zf⟩ := zf1
  refine g_aload_n h 0 rfl dX8_begin_0 ?_
  refine g_iload_n h 1 rfl dX8_begin_1 ?_
  refine pfX8_7 h zk_x0 dX8_begin_2 ?_
  refine g_nmM zf ?_
  clear zf; intro Mq1 zf
  refine g_aload_n h 0 rfl dX8_begin_5 ?_
  refine g_iload_n h 1 rfl dX8_begin_6 ?_
  refine pfX8_13 h zk_x0 dX8_begin_7 ?_
  refine g_nmM zf ?_
  clear zf; intro Mq2 zf
  refine g_aload_n h 0 rfl dX8_begin_10 ?_
  refine g_iconst h 0 (v := 0) (by decide) dX8_begin_11 ?_
  refine pfX8_16 h zk_x0 (by decide) dX8_begin_12 ?_
  refine g_nmM zf ?_
  clear zf; intro Mq3 zf
  obtain rfl := Option.some.inj zf
  exact g_vret h rfl ⟨rfl, rfl⟩ (Nat.le_refl _) (Nat.le_refl _) dX8_begin_15

theorem cmX8_begin {l : Launch} {w : WX} {M : Mem} {x0 : Nat} {x1 : Int32} {res : Mem} (zf : fX8_begin M x0 x1 = some res) : CM l w yX8_begin cX8_begin 2 none { frames := 0, cells := 0, slots := 0, locals := 0 } 0 0 [rv w x0, .int x1] M (Pwv res) := by
  refine CM_of (by decide) (Nat.le_of_ble_eq_true rfl) (fun G hw hl h => ?_)
  subst hw
  exact kX8_begin_e0 h zf

-- X5_clear
theorem kX5_clear_e0 {G : GX} (h : OKm G cX5_clear RX5 1 none { frames := 1, cells := 0, slots := 0, locals := 21 }) {M : Mem} {x0 : Nat} {res : Mem} (zf : fX5_clear M x0 = some res) : GG G (Qm G (Pwv res) 0 0) 0 0 0 [(0, rv G.1 x0)] [] M := by
  unfold fX5_clear at zf
  have zf1 := pre_ck zf
  clear zf; obtain ⟨zk_x0, zf⟩ := zf1
  refine g_aload_n h 0 rfl dX5_clear_0 ?_
  refine g_iconst h 0 (v := 0) (by decide) dX5_clear_1 ?_
  refine pfX5_9 h zk_x0 dX5_clear_2 ?_
  refine g_nmM zf ?_
  clear zf; intro Mq1 zf
  refine g_aload_n h 0 rfl dX5_clear_5 ?_
  refine gfX5_28 h zk_x0 dX5_clear_6 ?_
  refine g_iconst h 0 (v := 0) (by decide) dX5_clear_9 ?_
  refine g_iconst h 0 (v := 0) (by decide) dX5_clear_10 ?_
  refine g_iast h 2 (kf4_5 zk_x0) (lf4_5 zk_x0) zf dX5_clear_11 ?_
  clear zf; intro Mq2 zf
  refine g_aload_n h 0 rfl dX5_clear_12 ?_
  refine gfX5_28 h zk_x0 dX5_clear_13 ?_
  refine g_iconst h 1 (v := 1) (by decide) dX5_clear_16 ?_
  refine g_iconst h 0 (v := 0) (by decide) dX5_clear_17 ?_
  refine g_iast h 2 (kf4_5 zk_x0) (lf4_5 zk_x0) zf dX5_clear_18 ?_
  clear zf; intro Mq3 zf
  refine g_aload_n h 0 rfl dX5_clear_19 ?_
  refine g_iconst h 0 (v := 0) (by decide) dX5_clear_20 ?_
  refine pfX5_31 h zk_x0 dX5_clear_21 ?_
  refine g_nmM zf ?_
  clear zf; intro Mq4 zf
  refine g_aload_n h 0 rfl dX5_clear_24 ?_
  refine g_iconst h 0 (v := 0) (by decide) dX5_clear_25 ?_
  refine pfX5_37 h zk_x0 dX5_clear_26 ?_
  refine g_nmM zf ?_
  clear zf; intro Mq5 zf
  refine g_aload_n h 0 rfl dX5_clear_29 ?_
  refine gfX5_46 h zk_x0 dX5_clear_30 ?_
  refine g_iconst h 0 (v := 0) (by decide) dX5_clear_33 ?_
  refine pfX5_65 h (kf4_8 zk_x0) dX5_clear_34 ?_
  refine g_nmM zf ?_
  clear zf; intro Mq6 zf
  refine g_aload_n h 0 rfl dX5_clear_37 ?_
  refine gfX5_50 h zk_x0 dX5_clear_38 ?_
  refine g_iconst h 0 (v := 0) (by decide) dX5_clear_41 ?_
  refine pfX5_65 h (kf4_11 zk_x0) dX5_clear_42 ?_
  refine g_nmM zf ?_
  clear zf; intro Mq7 zf
  refine g_aload_n h 0 rfl dX5_clear_45 ?_
  refine gfX5_58 h zk_x0 dX5_clear_46 ?_
  refine g_iconst h 0 (v := 0) (by decide) dX5_clear_49 ?_
  have zf1 := bd_some zf
  clear zf; obtain ⟨Mq8, zq, zf⟩ := zf1
  refine g_callVwv (As := [.int 0]) (rest := []) h ceX8_begin mlX5_68 imX8_begin seX8_begin (by rfl) (kd_lt (by rw [(kf4_15 zk_x0)]; decide)) (ent_7 (kf4_15 zk_x0)) rfl rfl ⟨by decide, by decide⟩ ⟨by decide, by decide⟩ rfl dX5_clear_50 rfl (Nat.le_of_ble_eq_true rfl) (cmX8_begin zq) ?_
  refine g_aload_n h 0 rfl dX5_clear_53 ?_
  refine gfX5_62 h zk_x0 dX5_clear_54 ?_
  refine g_iconst h 0 (v := 0) (by decide) dX5_clear_57 ?_
  have zf1 := bd_some zf
  clear zf; obtain ⟨Mq9, zq, zf⟩ := zf1
  refine g_callVwv (As := [.int 0]) (rest := []) h ceX8_begin mlX5_68 imX8_begin seX8_begin (by rfl) (kd_lt (by rw [(kf4_16 zk_x0)]; decide)) (ent_7 (kf4_16 zk_x0)) rfl rfl ⟨by decide, by decide⟩ ⟨by decide, by decide⟩ rfl dX5_clear_58 rfl (Nat.le_of_ble_eq_true rfl) (cmX8_begin zq) ?_
  obtain rfl := Option.some.inj zf
  exact g_vret h rfl ⟨rfl, rfl⟩ (Nat.le_refl _) (Nat.le_refl _) dX5_clear_61

theorem cmX5_clear {l : Launch} {w : WX} {M : Mem} {x0 : Nat} {res : Mem} (zf : fX5_clear M x0 = some res) : CM l w yX5_clear cX5_clear 1 none { frames := 1, cells := 0, slots := 0, locals := 21 } 0 0 [rv w x0] M (Pwv res) := by
  refine CM_of (by decide) (Nat.le_of_ble_eq_true rfl) (fun G hw hl h => ?_)
  subst hw
  exact kX5_clear_e0 h zf

-- X6_below
theorem kX6_below_e0 {G : GX} (h : OKm G cX6_below RX6 3 (some .boolean) { frames := 8, cells := 0, slots := 0, locals := 204 }) {M : Mem} {x1 : Int32} {x2 : Int32} {res : (Int32 × Mem)} (zf : fX6_below M x1 x2 = some res) : GG G (Qm G (Pwi res) 0 0) 0 0 0 [(0, rv G.1 3), (1, .int x1), (2, .int x2)] [] M := by
  unfold fX6_below at zf
  refine g_iload_n h 1 rfl dX6_below_0 ?_
  refine g_iload_n h 2 rfl dX6_below_1 ?_
  refine g_ic_lt h 11 (by decide) zf dX6_below_2 ?_ ?_ <;> clear zf <;> intro zf
  · refine g_aload_n h 0 rfl dX6_below_11 ?_
    refine gfX6_44 h (by decide : kd 3 = 5) dX6_below_12 ?_
    have zf1 := bd_some zf
    clear zf; obtain ⟨Mq1, zq, zf⟩ := zf1
    refine g_callVwv (As := []) (rest := []) h ceX10_step mlX6_146 imX10_step seX10_step (by rfl) (kd_lt (by rw [(by decide : kd 27 = 9)]; decide)) (ent_9 (by decide : kd 27 = 9)) rfl rfl ⟨by decide, by decide⟩ ⟨by decide, by decide⟩ rfl dX6_below_15 rfl (Nat.le_of_ble_eq_true rfl) (cmX10_step zq) ?_
    refine g_iconst h 1 (v := 1) (by decide) dX6_below_18 ?_
    obtain rfl := Option.some.inj zf
    exact g_zret h (by decide) rfl ⟨rfl, rfl⟩ (Nat.le_refl _) (Nat.le_refl _) dX6_below_19
  · refine g_aload_n h 0 rfl dX6_below_5 ?_
    refine g_iconst h 2 (v := 2) (by decide) dX6_below_6 ?_
    have zf1 := b2_some zf
    clear zf; obtain ⟨vq2, Mq3, zq, zf⟩ := zf1
    refine g_callVwi (As := [.int 2]) (rest := []) h ceX6_refuse mlX6_143 imX6_refuse seX6_refuse (by rfl) (kd_lt (by rw [(by decide : kd 3 = 5)]; decide)) (ent_5 (by decide : kd 3 = 5)) rfl rfl ⟨by decide, by decide⟩ ⟨by decide, by decide⟩ rfl dX6_below_7 rfl (Nat.le_of_ble_eq_true rfl) (cmX6_refuse zq) ?_
    have zf1 := pre_ck zf
    clear zf; obtain ⟨zz9, zf⟩ := zf1
    obtain rfl := Option.some.inj zf
    exact g_zret h zz9 rfl ⟨rfl, rfl⟩ (Nat.le_refl _) (Nat.le_refl _) dX6_below_10

theorem cmX6_below {l : Launch} {w : WX} {M : Mem} {x1 : Int32} {x2 : Int32} {res : (Int32 × Mem)} (zf : fX6_below M x1 x2 = some res) : CM l w yX6_below cX6_below 3 (some .boolean) { frames := 8, cells := 0, slots := 0, locals := 204 } 0 0 [rv w 3, .int x1, .int x2] M (Pwi res) := by
  refine CM_of (by decide) (Nat.le_of_ble_eq_true rfl) (fun G hw hl h => ?_)
  subst hw
  exact kX6_below_e0 h zf

-- X6_hear
theorem kX6_hear_b89 {G : GX} (h : OKm G cX6_hear RX6 6 (some .boolean) { frames := 8, cells := 0, slots := 0, locals := 204 }) {M : Mem} {res : (Int32 × Mem)} (zf : fX6_hear_b89 M = some res) : GG G (Qm G (Pwi res) 0 0) 0 0 89 [(0, rv G.1 3)] [] M := by
  unfold fX6_hear_b89 at zf
  refine g_aload_n h 0 rfl dX6_hear_89 ?_
  refine g_iconst h 2 (v := 2) (by decide) dX6_hear_90 ?_
  have zf1 := b2_some zf
  clear zf; obtain ⟨vq3, Mq4, zq, zf⟩ := zf1
  refine g_callVwi (As := [.int 2]) (rest := []) h ceX6_refuse mlX6_143 imX6_refuse seX6_refuse (by rfl) (kd_lt (by rw [(by decide : kd 3 = 5)]; decide)) (ent_5 (by decide : kd 3 = 5)) rfl rfl ⟨by decide, by decide⟩ ⟨by decide, by decide⟩ rfl dX6_hear_91 rfl (Nat.le_of_ble_eq_true rfl) (cmX6_refuse zq) ?_
  have zf1 := pre_ck zf
  clear zf; obtain ⟨zz9, zf⟩ := zf1
  obtain rfl := Option.some.inj zf
  exact g_zret h zz9 rfl ⟨rfl, rfl⟩ (Nat.le_refl _) (Nat.le_refl _) dX6_hear_94

theorem kX6_hear_b116 {G : GX} (h : OKm G cX6_hear RX6 6 (some .boolean) { frames := 8, cells := 0, slots := 0, locals := 204 }) {M : Mem} {res : (Int32 × Mem)} (zf : fX6_hear_b116 M = some res) : GG G (Qm G (Pwi res) 0 0) 0 0 116 [(0, rv G.1 3)] [] M := by
  unfold fX6_hear_b116 at zf
  refine g_aload_n h 0 rfl dX6_hear_116 ?_
  refine gfX6_44 h (by decide : kd 3 = 5) dX6_hear_117 ?_
  have zf1 := bd_some zf
  clear zf; obtain ⟨Mq5, zq, zf⟩ := zf1
  refine g_callVwv (As := []) (rest := []) h ceX10_step mlX6_146 imX10_step seX10_step (by rfl) (kd_lt (by rw [(by decide : kd 27 = 9)]; decide)) (ent_9 (by decide : kd 27 = 9)) rfl rfl ⟨by decide, by decide⟩ ⟨by decide, by decide⟩ rfl dX6_hear_120 rfl (Nat.le_of_ble_eq_true rfl) (cmX10_step zq) ?_
  refine g_iconst h 1 (v := 1) (by decide) dX6_hear_123 ?_
  obtain rfl := Option.some.inj zf
  exact g_zret h (by decide) rfl ⟨rfl, rfl⟩ (Nat.le_refl _) (Nat.le_refl _) dX6_hear_124

theorem kX6_hear_b75 {G : GX} (h : OKm G cX6_hear RX6 6 (some .boolean) { frames := 8, cells := 0, slots := 0, locals := 204 }) {M : Mem} {x1 : Int32} {x2 : Int32} {x3 : Int32} {s0 : Int32} {res : (Int32 × Mem)} (zf : fX6_hear_b75 M x1 x2 x3 s0 = some res) : GG G (Qm G (Pwi res) 0 0) 0 0 75 [(0, rv G.1 3), (1, .int x1), (2, .int x2), (3, .int x3)] [.int s0] M := by
  unfold fX6_hear_b75 at zf
  refine g_istore h [(5, .int s0), (0, rv G.1 3), (1, .int x1), (2, .int x2), (3, .int x3)] (by decide) rfl dX6_hear_75 ?_
  refine g_iload h 0 rfl dX6_hear_77 ?_
  refine g_iload_n h 3 rfl dX6_hear_79 ?_
  refine g_ic_lt h 89 (by decide) zf dX6_hear_80 ?_ ?_ <;> clear zf <;> intro zf
  · refine g_sub h [1] rfl ?_
    exact kX6_hear_b89 h zf
  · refine g_iload h 0 rfl dX6_hear_83 ?_
    refine g_iload_n h 4 rfl dX6_hear_85 ?_
    refine g_ic_le h 95 (by decide) zf dX6_hear_86 ?_ ?_ <;> clear zf <;> intro zf
    · refine g_iload_n h 2 rfl dX6_hear_95 ?_
      refine g_if_lt h 116 (by decide) zf dX6_hear_96 ?_ ?_ <;> clear zf <;> intro zf
      · refine g_sub h [1] rfl ?_
        exact kX6_hear_b116 h zf
      · refine g_iload_n h 2 rfl dX6_hear_99 ?_
        refine g_aload_n h 1 rfl dX6_hear_100 ?_
        refine gfX6_35 h (by decide : kd 3 = 5) dX6_hear_101 ?_
        refine g_ilen h 4 (z := 4) (by decide : kd 26 = 20) (by decide) (by decide) dX6_hear_104 ?_
        refine g_ic_ge h 116 (by decide) zf dX6_hear_105 ?_ ?_ <;> clear zf <;> intro zf
        · refine g_sub h [1] rfl ?_
          exact kX6_hear_b116 h zf
        · refine g_aload_n h 1 rfl dX6_hear_108 ?_
          refine gfX6_35 h (by decide : kd 3 = 5) dX6_hear_109 ?_
          refine g_iload_n h 2 rfl dX6_hear_112 ?_
          refine g_iload h 0 rfl dX6_hear_113 ?_
          refine g_iast h 4 (by decide : kd 26 = 20) (by decide) zf dX6_hear_115 ?_
          clear zf; intro Mq6 zf
          refine g_sub h [1] rfl ?_
          exact kX6_hear_b116 h zf
    · refine g_sub h [1] rfl ?_
      exact kX6_hear_b89 h zf

theorem kX6_hear_b35 {G : GX} (h : OKm G cX6_hear RX6 6 (some .boolean) { frames := 8, cells := 0, slots := 0, locals := 204 }) {M : Mem} {x1 : Int32} {x2 : Int32} {x3 : Int32} {x4 : Int32} {res : (Int32 × Mem)} (zf : fX6_hear_b35 M x1 x2 x3 x4 = some res) : GG G (Qm G (Pwi res) 0 0) 0 0 35 [(0, rv G.1 3), (1, .int x1), (2, .int x2), (3, .int x3), (4, .int x4)] [] M := by
  unfold fX6_hear_b35 at zf
  refine g_aload_n h 0 rfl dX6_hear_35 ?_
  refine gfX6_44 h (by decide : kd 3 = 5) dX6_hear_36 ?_
  refine gfX6_65 h (by decide : kd 27 = 9) dX6_hear_39 ?_
  refine g_nmI zf ?_
  clear zf; intro vq1 zf
  refine g_iconst h 2 (v := 2) (by decide) dX6_hear_42 ?_
  refine g_ic_eq h 52 (by decide) zf dX6_hear_43 ?_ ?_ <;> clear zf <;> intro zf
  · refine g_iload h 4 rfl dX6_hear_52 ?_
    refine g_if_eq h 68 (by decide) zf dX6_hear_54 ?_ ?_ <;> clear zf <;> intro zf
    · refine g_aload_n h 0 rfl dX6_hear_68 ?_
      refine gfX6_44 h (by decide : kd 3 = 5) dX6_hear_69 ?_
      refine gfX6_149 h (by decide : kd 27 = 9) dX6_hear_72 ?_
      refine g_nmI zf ?_
      clear zf; intro vq2 zf
      refine g_sub h [0, 1, 2, 3] rfl ?_
      exact kX6_hear_b75 h zf
    · refine g_aload_n h 0 rfl dX6_hear_57 ?_
      refine gfX6_44 h (by decide : kd 3 = 5) dX6_hear_58 ?_
      refine gfX6_149 h (by decide : kd 27 = 9) dX6_hear_61 ?_
      refine g_nmI zf ?_
      clear zf; intro vq7 zf
      refine g_ineg h dX6_hear_64 ?_
      refine g_goto h 75 (by decide) dX6_hear_65 ?_
      refine g_sub h [0, 1, 2, 3] rfl ?_
      exact kX6_hear_b75 h zf
  · refine g_aload_n h 0 rfl dX6_hear_46 ?_
    refine g_iconst h 1 (v := 1) (by decide) dX6_hear_47 ?_
    have zf1 := b2_some zf
    clear zf; obtain ⟨vq8, Mq9, zq, zf⟩ := zf1
    refine g_callVwi (As := [.int 1]) (rest := []) h ceX6_refuse mlX6_143 imX6_refuse seX6_refuse (by rfl) (kd_lt (by rw [(by decide : kd 3 = 5)]; decide)) (ent_5 (by decide : kd 3 = 5)) rfl rfl ⟨by decide, by decide⟩ ⟨by decide, by decide⟩ rfl dX6_hear_48 rfl (Nat.le_of_ble_eq_true rfl) (cmX6_refuse zq) ?_
    have zf1 := pre_ck zf
    clear zf; obtain ⟨zz9, zf⟩ := zf1
    obtain rfl := Option.some.inj zf
    exact g_zret h zz9 rfl ⟨rfl, rfl⟩ (Nat.le_refl _) (Nat.le_refl _) dX6_hear_51

theorem kX6_hear_b21 {G : GX} (h : OKm G cX6_hear RX6 6 (some .boolean) { frames := 8, cells := 0, slots := 0, locals := 204 }) {M : Mem} {x1 : Int32} {x2 : Int32} {x3 : Int32} {s0 : Int32} {res : (Int32 × Mem)} (zf : fX6_hear_b21 M x1 x2 x3 s0 = some res) : GG G (Qm G (Pwi res) 0 0) 0 0 21 [(0, rv G.1 3), (1, .int x1), (2, .int x2), (3, .int x3)] [.int s0] M := by
  unfold fX6_hear_b21 at zf
  refine g_istore h [(4, .int s0), (0, rv G.1 3), (1, .int x1), (2, .int x2), (3, .int x3)] (by decide) rfl dX6_hear_21 ?_
  refine g_iload h 0 rfl dX6_hear_23 ?_
  refine g_if_eq h 35 (by decide) zf dX6_hear_25 ?_ ?_ <;> clear zf <;> intro zf
  · refine g_sub h [1, 2, 3, 4, 0] rfl ?_
    exact kX6_hear_b35 h zf
  · refine g_aload_n h 1 rfl dX6_hear_28 ?_
    refine gfX6_44 h (by decide : kd 3 = 5) dX6_hear_29 ?_
    have zf1 := bd_some zf
    clear zf; obtain ⟨Mq10, zq, zf⟩ := zf1
    refine g_callVwv (As := []) (rest := []) h ceX10_step mlX6_146 imX10_step seX10_step (by rfl) (kd_lt (by rw [(by decide : kd 27 = 9)]; decide)) (ent_9 (by decide : kd 27 = 9)) rfl rfl ⟨by decide, by decide⟩ ⟨by decide, by decide⟩ rfl dX6_hear_32 rfl (Nat.le_of_ble_eq_true rfl) (cmX10_step zq) ?_
    refine g_sub h [1, 2, 3, 4, 0] rfl ?_
    exact kX6_hear_b35 h zf

theorem kX6_hear_b20 {G : GX} (h : OKm G cX6_hear RX6 6 (some .boolean) { frames := 8, cells := 0, slots := 0, locals := 204 }) {M : Mem} {x1 : Int32} {x2 : Int32} {x3 : Int32} {res : (Int32 × Mem)} (zf : fX6_hear_b20 M x1 x2 x3 = some res) : GG G (Qm G (Pwi res) 0 0) 0 0 20 [(0, rv G.1 3), (1, .int x1), (2, .int x2), (3, .int x3)] [] M := by
  unfold fX6_hear_b20 at zf
  refine g_iconst h 0 (v := 0) (by decide) dX6_hear_20 ?_
  refine g_sub h [0, 1, 2, 3] rfl ?_
  exact kX6_hear_b21 h zf

theorem kX6_hear_e0 {G : GX} (h : OKm G cX6_hear RX6 6 (some .boolean) { frames := 8, cells := 0, slots := 0, locals := 204 }) {M : Mem} {x1 : Int32} {x2 : Int32} {x3 : Int32} {res : (Int32 × Mem)} (zf : fX6_hear M x1 x2 x3 = some res) : GG G (Qm G (Pwi res) 0 0) 0 0 0 [(0, rv G.1 3), (1, .int x1), (2, .int x2), (3, .int x3)] [] M := by
  unfold fX6_hear at zf
  refine g_iload_n h 2 rfl dX6_hear_0 ?_
  refine g_if_ge h 20 (by decide) zf dX6_hear_1 ?_ ?_ <;> clear zf <;> intro zf
  · refine g_sub h [0, 1, 2, 3] rfl ?_
    exact kX6_hear_b20 h zf
  · refine g_aload_n h 0 rfl dX6_hear_4 ?_
    refine gfX6_44 h (by decide : kd 3 = 5) dX6_hear_5 ?_
    refine gfX6_65 h (by decide : kd 27 = 9) dX6_hear_8 ?_
    refine g_nmI zf ?_
    clear zf; intro vq11 zf
    refine g_bipush h 45 (v := 45) (by decide) dX6_hear_11 ?_
    refine g_ic_ne h 20 (by decide) zf dX6_hear_13 ?_ ?_ <;> clear zf <;> intro zf
    · refine g_sub h [0, 1, 2, 3] rfl ?_
      exact kX6_hear_b20 h zf
    · refine g_iconst h 1 (v := 1) (by decide) dX6_hear_16 ?_
      refine g_goto h 21 (by decide) dX6_hear_17 ?_
      refine g_sub h [0, 1, 2, 3] rfl ?_
      exact kX6_hear_b21 h zf

theorem cmX6_hear {l : Launch} {w : WX} {M : Mem} {x1 : Int32} {x2 : Int32} {x3 : Int32} {res : (Int32 × Mem)} (zf : fX6_hear M x1 x2 x3 = some res) : CM l w yX6_hear cX6_hear 6 (some .boolean) { frames := 8, cells := 0, slots := 0, locals := 204 } 0 0 [rv w 3, .int x1, .int x2, .int x3] M (Pwi res) := by
  refine CM_of (by decide) (Nat.le_of_ble_eq_true rfl) (fun G hw hl h => ?_)
  subst hw
  exact kX6_hear_e0 h zf

-- X6_close
theorem kX6_close_e0 {G : GX} (h : OKm G cX6_close RX6 1 (some .boolean) { frames := 8, cells := 0, slots := 0, locals := 204 }) {M : Mem} {res : (Int32 × Mem)} (zf : fX6_close M = some res) : GG G (Qm G (Pwi res) 0 0) 0 0 0 [(0, rv G.1 3)] [] M := by
  unfold fX6_close at zf
  refine g_aload_n h 0 rfl dX6_close_0 ?_
  refine gfX6_44 h (by decide : kd 3 = 5) dX6_close_1 ?_
  refine gfX6_65 h (by decide : kd 27 = 9) dX6_close_4 ?_
  refine g_nmI zf ?_
  clear zf; intro vq1 zf
  refine g_bipush h 59 (v := 59) (by decide) dX6_close_7 ?_
  refine g_ic_eq h 18 (by decide) zf dX6_close_9 ?_ ?_ <;> clear zf <;> intro zf
  · refine g_aload_n h 0 rfl dX6_close_18 ?_
    refine gfX6_44 h (by decide : kd 3 = 5) dX6_close_19 ?_
    have zf1 := bd_some zf
    clear zf; obtain ⟨Mq2, zq, zf⟩ := zf1
    refine g_callVwv (As := []) (rest := []) h ceX10_step mlX6_146 imX10_step seX10_step (by rfl) (kd_lt (by rw [(by decide : kd 27 = 9)]; decide)) (ent_9 (by decide : kd 27 = 9)) rfl rfl ⟨by decide, by decide⟩ ⟨by decide, by decide⟩ rfl dX6_close_22 rfl (Nat.le_of_ble_eq_true rfl) (cmX10_step zq) ?_
    refine g_iconst h 1 (v := 1) (by decide) dX6_close_25 ?_
    obtain rfl := Option.some.inj zf
    exact g_zret h (by decide) rfl ⟨rfl, rfl⟩ (Nat.le_refl _) (Nat.le_refl _) dX6_close_26
  · refine g_aload_n h 0 rfl dX6_close_12 ?_
    refine g_iconst h 1 (v := 1) (by decide) dX6_close_13 ?_
    have zf1 := b2_some zf
    clear zf; obtain ⟨vq3, Mq4, zq, zf⟩ := zf1
    refine g_callVwi (As := [.int 1]) (rest := []) h ceX6_refuse mlX6_143 imX6_refuse seX6_refuse (by rfl) (kd_lt (by rw [(by decide : kd 3 = 5)]; decide)) (ent_5 (by decide : kd 3 = 5)) rfl rfl ⟨by decide, by decide⟩ ⟨by decide, by decide⟩ rfl dX6_close_14 rfl (Nat.le_of_ble_eq_true rfl) (cmX6_refuse zq) ?_
    have zf1 := pre_ck zf
    clear zf; obtain ⟨zz9, zf⟩ := zf1
    obtain rfl := Option.some.inj zf
    exact g_zret h zz9 rfl ⟨rfl, rfl⟩ (Nat.le_refl _) (Nat.le_refl _) dX6_close_17

theorem cmX6_close {l : Launch} {w : WX} {M : Mem} {res : (Int32 × Mem)} (zf : fX6_close M = some res) : CM l w yX6_close cX6_close 1 (some .boolean) { frames := 8, cells := 0, slots := 0, locals := 204 } 0 0 [rv w 3] M (Pwi res) := by
  refine CM_of (by decide) (Nat.le_of_ble_eq_true rfl) (fun G hw hl h => ?_)
  subst hw
  exact kX6_close_e0 h zf

-- X6_cityLine
theorem kX6_cityLine_e0 {G : GX} (h : OKm G cX6_cityLine RX6 1 (some .boolean) { frames := 9, cells := 0, slots := 0, locals := 229 }) {M : Mem} {res : (Int32 × Mem)} (zf : fX6_cityLine M = some res) : GG G (Qm G (Pwi res) 0 0) 0 0 0 [(0, rv G.1 3)] [] M := by
  unfold fX6_cityLine at zf
  refine g_aload_n h 0 rfl dX6_cityLine_0 ?_
  refine g_iconst h 0 (v := 0) (by decide) dX6_cityLine_1 ?_
  refine g_iconst h 0 (v := 0) (by decide) dX6_cityLine_2 ?_
  refine g_sipush h 999 (v := 999) (by decide) dX6_cityLine_3 ?_
  have zf1 := b2_some zf
  clear zf; obtain ⟨vq1, Mq2, zq, zf⟩ := zf1
  refine g_callVwi (As := [.int 0, .int 0, .int 999]) (rest := []) h ceX6_hear mlX6_152 imX6_hear seX6_hear (by rfl) (kd_lt (by rw [(by decide : kd 3 = 5)]; decide)) (ent_5 (by decide : kd 3 = 5)) rfl rfl ⟨by decide, by decide⟩ ⟨by decide, by decide⟩ rfl dX6_cityLine_6 rfl (Nat.le_of_ble_eq_true rfl) (cmX6_hear zq) ?_
  refine g_if_eq h 35 (by decide) zf dX6_cityLine_9 ?_ ?_ <;> clear zf <;> intro zf
  · refine g_iconst h 0 (v := 0) (by decide) dX6_cityLine_35 ?_
    obtain rfl := Option.some.inj zf
    exact g_zret h (by decide) rfl ⟨rfl, rfl⟩ (Nat.le_refl _) (Nat.le_refl _) dX6_cityLine_36
  · refine g_aload_n h 0 rfl dX6_cityLine_12 ?_
    refine g_iconst h 1 (v := 1) (by decide) dX6_cityLine_13 ?_
    refine g_iconst h 0 (v := 0) (by decide) dX6_cityLine_14 ?_
    refine g_bipush h 99 (v := 99) (by decide) dX6_cityLine_15 ?_
    have zf1 := b2_some zf
    clear zf; obtain ⟨vq3, Mq4, zq, zf⟩ := zf1
    refine g_callVwi (As := [.int 1, .int 0, .int 99]) (rest := []) h ceX6_hear mlX6_152 imX6_hear seX6_hear (by rfl) (kd_lt (by rw [(by decide : kd 3 = 5)]; decide)) (ent_5 (by decide : kd 3 = 5)) rfl rfl ⟨by decide, by decide⟩ ⟨by decide, by decide⟩ rfl dX6_cityLine_17 rfl (Nat.le_of_ble_eq_true rfl) (cmX6_hear zq) ?_
    refine g_if_eq h 35 (by decide) zf dX6_cityLine_20 ?_ ?_ <;> clear zf <;> intro zf
    · refine g_iconst h 0 (v := 0) (by decide) dX6_cityLine_35 ?_
      obtain rfl := Option.some.inj zf
      exact g_zret h (by decide) rfl ⟨rfl, rfl⟩ (Nat.le_refl _) (Nat.le_refl _) dX6_cityLine_36
    · refine g_aload_n h 0 rfl dX6_cityLine_23 ?_
      refine g_iconst h 2 (v := 2) (by decide) dX6_cityLine_24 ?_
      refine g_iconst h 0 (v := 0) (by decide) dX6_cityLine_25 ?_
      refine g_sipush h 999 (v := 999) (by decide) dX6_cityLine_26 ?_
      have zf1 := b2_some zf
      clear zf; obtain ⟨vq5, Mq6, zq, zf⟩ := zf1
      refine g_callVwi (As := [.int 2, .int 0, .int 999]) (rest := []) h ceX6_hear mlX6_152 imX6_hear seX6_hear (by rfl) (kd_lt (by rw [(by decide : kd 3 = 5)]; decide)) (ent_5 (by decide : kd 3 = 5)) rfl rfl ⟨by decide, by decide⟩ ⟨by decide, by decide⟩ rfl dX6_cityLine_29 rfl (Nat.le_of_ble_eq_true rfl) (cmX6_hear zq) ?_
      refine g_if_ne h 37 (by decide) zf dX6_cityLine_32 ?_ ?_ <;> clear zf <;> intro zf
      · refine g_aload_n h 0 rfl dX6_cityLine_37 ?_
        refine gfX6_21 h (by decide : kd 3 = 5) dX6_cityLine_38 ?_
        refine g_aload_n h 0 rfl dX6_cityLine_41 ?_
        refine gfX6_35 h (by decide : kd 3 = 5) dX6_cityLine_42 ?_
        refine g_iconst h 0 (v := 0) (by decide) dX6_cityLine_45 ?_
        refine g_iald h 4 (by decide : kd 26 = 20) (by decide) zf dX6_cityLine_46 ?_
        clear zf; intro vq7 zf
        refine pfX6_156 h (by decide : kd 21 = 2) dX6_cityLine_47 ?_
        refine g_nmM zf ?_
        clear zf; intro Mq8 zf
        refine g_aload_n h 0 rfl dX6_cityLine_50 ?_
        refine gfX6_21 h (by decide : kd 3 = 5) dX6_cityLine_51 ?_
        refine g_aload_n h 0 rfl dX6_cityLine_54 ?_
        refine gfX6_35 h (by decide : kd 3 = 5) dX6_cityLine_55 ?_
        refine g_iconst h 1 (v := 1) (by decide) dX6_cityLine_58 ?_
        refine g_iald h 4 (by decide : kd 26 = 20) (by decide) zf dX6_cityLine_59 ?_
        clear zf; intro vq9 zf
        refine pfX6_159 h (by decide : kd 21 = 2) dX6_cityLine_60 ?_
        refine g_nmM zf ?_
        clear zf; intro Mq10 zf
        refine g_aload_n h 0 rfl dX6_cityLine_63 ?_
        refine gfX6_21 h (by decide : kd 3 = 5) dX6_cityLine_64 ?_
        refine g_aload_n h 0 rfl dX6_cityLine_67 ?_
        refine gfX6_35 h (by decide : kd 3 = 5) dX6_cityLine_68 ?_
        refine g_iconst h 2 (v := 2) (by decide) dX6_cityLine_71 ?_
        refine g_iald h 4 (by decide : kd 26 = 20) (by decide) zf dX6_cityLine_72 ?_
        clear zf; intro vq11 zf
        refine pfX6_162 h (by decide : kd 21 = 2) dX6_cityLine_73 ?_
        refine g_nmM zf ?_
        clear zf; intro Mq12 zf
        refine g_aload_n h 0 rfl dX6_cityLine_76 ?_
        have zf1 := b2_some zf
        clear zf; obtain ⟨vq13, Mq14, zq, zf⟩ := zf1
        refine g_callVwi (As := []) (rest := []) h ceX6_close mlX6_165 imX6_close seX6_close (by rfl) (kd_lt (by rw [(by decide : kd 3 = 5)]; decide)) (ent_5 (by decide : kd 3 = 5)) rfl rfl ⟨by decide, by decide⟩ ⟨by decide, by decide⟩ rfl dX6_cityLine_77 rfl (Nat.le_of_ble_eq_true rfl) (cmX6_close zq) ?_
        have zf1 := pre_ck zf
        clear zf; obtain ⟨zz9, zf⟩ := zf1
        obtain rfl := Option.some.inj zf
        exact g_zret h zz9 rfl ⟨rfl, rfl⟩ (Nat.le_refl _) (Nat.le_refl _) dX6_cityLine_80
      · refine g_iconst h 0 (v := 0) (by decide) dX6_cityLine_35 ?_
        obtain rfl := Option.some.inj zf
        exact g_zret h (by decide) rfl ⟨rfl, rfl⟩ (Nat.le_refl _) (Nat.le_refl _) dX6_cityLine_36

theorem cmX6_cityLine {l : Launch} {w : WX} {M : Mem} {res : (Int32 × Mem)} (zf : fX6_cityLine M = some res) : CM l w yX6_cityLine cX6_cityLine 1 (some .boolean) { frames := 9, cells := 0, slots := 0, locals := 229 } 0 0 [rv w 3] M (Pwi res) := by
  refine CM_of (by decide) (Nat.le_of_ble_eq_true rfl) (fun G hw hl h => ?_)
  subst hw
  exact kX6_cityLine_e0 h zf

-- X6_deedLine
theorem kX6_deedLine_b158 {G : GX} (h : OKm G cX6_deedLine RX6 1 (some .boolean) { frames := 9, cells := 0, slots := 0, locals := 229 }) {M : Mem} {res : (Int32 × Mem)} (zf : fX6_deedLine_b158 M = some res) : GG G (Qm G (Pwi res) 0 0) 0 0 158 [(0, rv G.1 3)] [] M := by
  unfold fX6_deedLine_b158 at zf
  refine g_aload_n h 0 rfl dX6_deedLine_158 ?_
  have zf1 := b2_some zf
  clear zf; obtain ⟨vq11, Mq12, zq, zf⟩ := zf1
  refine g_callVwi (As := []) (rest := []) h ceX6_close mlX6_165 imX6_close seX6_close (by rfl) (kd_lt (by rw [(by decide : kd 3 = 5)]; decide)) (ent_5 (by decide : kd 3 = 5)) rfl rfl ⟨by decide, by decide⟩ ⟨by decide, by decide⟩ rfl dX6_deedLine_159 rfl (Nat.le_of_ble_eq_true rfl) (cmX6_close zq) ?_
  have zf1 := pre_ck zf
  clear zf; obtain ⟨zz9, zf⟩ := zf1
  obtain rfl := Option.some.inj zf
  exact g_zret h zz9 rfl ⟨rfl, rfl⟩ (Nat.le_refl _) (Nat.le_refl _) dX6_deedLine_162

theorem kX6_deedLine_e0 {G : GX} (h : OKm G cX6_deedLine RX6 1 (some .boolean) { frames := 9, cells := 0, slots := 0, locals := 229 }) {M : Mem} {res : (Int32 × Mem)} (zf : fX6_deedLine M = some res) : GG G (Qm G (Pwi res) 0 0) 0 0 0 [(0, rv G.1 3)] [] M := by
  unfold fX6_deedLine at zf
  refine g_aload_n h 0 rfl dX6_deedLine_0 ?_
  refine g_iconst h 0 (v := 0) (by decide) dX6_deedLine_1 ?_
  refine g_iconst h 0 (v := 0) (by decide) dX6_deedLine_2 ?_
  refine g_bipush h 99 (v := 99) (by decide) dX6_deedLine_3 ?_
  have zf1 := b2_some zf
  clear zf; obtain ⟨vq1, Mq2, zq, zf⟩ := zf1
  refine g_callVwi (As := [.int 0, .int 0, .int 99]) (rest := []) h ceX6_hear mlX6_152 imX6_hear seX6_hear (by rfl) (kd_lt (by rw [(by decide : kd 3 = 5)]; decide)) (ent_5 (by decide : kd 3 = 5)) rfl rfl ⟨by decide, by decide⟩ ⟨by decide, by decide⟩ rfl dX6_deedLine_5 rfl (Nat.le_of_ble_eq_true rfl) (cmX6_hear zq) ?_
  refine g_if_eq h 47 (by decide) zf dX6_deedLine_8 ?_ ?_ <;> clear zf <;> intro zf
  · refine g_iconst h 0 (v := 0) (by decide) dX6_deedLine_47 ?_
    obtain rfl := Option.some.inj zf
    exact g_zret h (by decide) rfl ⟨rfl, rfl⟩ (Nat.le_refl _) (Nat.le_refl _) dX6_deedLine_48
  · refine g_aload_n h 0 rfl dX6_deedLine_11 ?_
    refine g_iconst h 1 (v := 1) (by decide) dX6_deedLine_12 ?_
    refine g_bipush h (-20) (v := (-20)) (by decide) dX6_deedLine_13 ?_
    refine g_bipush h 20 (v := 20) (by decide) dX6_deedLine_15 ?_
    have zf1 := b2_some zf
    clear zf; obtain ⟨vq3, Mq4, zq, zf⟩ := zf1
    refine g_callVwi (As := [.int 1, .int (-20), .int 20]) (rest := []) h ceX6_hear mlX6_152 imX6_hear seX6_hear (by rfl) (kd_lt (by rw [(by decide : kd 3 = 5)]; decide)) (ent_5 (by decide : kd 3 = 5)) rfl rfl ⟨by decide, by decide⟩ ⟨by decide, by decide⟩ rfl dX6_deedLine_17 rfl (Nat.le_of_ble_eq_true rfl) (cmX6_hear zq) ?_
    refine g_if_eq h 47 (by decide) zf dX6_deedLine_20 ?_ ?_ <;> clear zf <;> intro zf
    · refine g_iconst h 0 (v := 0) (by decide) dX6_deedLine_47 ?_
      obtain rfl := Option.some.inj zf
      exact g_zret h (by decide) rfl ⟨rfl, rfl⟩ (Nat.le_refl _) (Nat.le_refl _) dX6_deedLine_48
    · refine g_aload_n h 0 rfl dX6_deedLine_23 ?_
      refine g_iconst h 2 (v := 2) (by decide) dX6_deedLine_24 ?_
      refine g_bipush h (-99) (v := (-99)) (by decide) dX6_deedLine_25 ?_
      refine g_bipush h 99 (v := 99) (by decide) dX6_deedLine_27 ?_
      have zf1 := b2_some zf
      clear zf; obtain ⟨vq5, Mq6, zq, zf⟩ := zf1
      refine g_callVwi (As := [.int 2, .int (-99), .int 99]) (rest := []) h ceX6_hear mlX6_152 imX6_hear seX6_hear (by rfl) (kd_lt (by rw [(by decide : kd 3 = 5)]; decide)) (ent_5 (by decide : kd 3 = 5)) rfl rfl ⟨by decide, by decide⟩ ⟨by decide, by decide⟩ rfl dX6_deedLine_29 rfl (Nat.le_of_ble_eq_true rfl) (cmX6_hear zq) ?_
      refine g_if_eq h 47 (by decide) zf dX6_deedLine_32 ?_ ?_ <;> clear zf <;> intro zf
      · refine g_iconst h 0 (v := 0) (by decide) dX6_deedLine_47 ?_
        obtain rfl := Option.some.inj zf
        exact g_zret h (by decide) rfl ⟨rfl, rfl⟩ (Nat.le_refl _) (Nat.le_refl _) dX6_deedLine_48
      · refine g_aload_n h 0 rfl dX6_deedLine_35 ?_
        refine g_iconst h 3 (v := 3) (by decide) dX6_deedLine_36 ?_
        refine g_bipush h (-20) (v := (-20)) (by decide) dX6_deedLine_37 ?_
        refine g_bipush h 20 (v := 20) (by decide) dX6_deedLine_39 ?_
        have zf1 := b2_some zf
        clear zf; obtain ⟨vq7, Mq8, zq, zf⟩ := zf1
        refine g_callVwi (As := [.int 3, .int (-20), .int 20]) (rest := []) h ceX6_hear mlX6_152 imX6_hear seX6_hear (by rfl) (kd_lt (by rw [(by decide : kd 3 = 5)]; decide)) (ent_5 (by decide : kd 3 = 5)) rfl rfl ⟨by decide, by decide⟩ ⟨by decide, by decide⟩ rfl dX6_deedLine_41 rfl (Nat.le_of_ble_eq_true rfl) (cmX6_hear zq) ?_
        refine g_if_ne h 49 (by decide) zf dX6_deedLine_44 ?_ ?_ <;> clear zf <;> intro zf
        · refine g_aload_n h 0 rfl dX6_deedLine_49 ?_
          refine gfX6_12 h (by decide : kd 3 = 5) dX6_deedLine_50 ?_
          refine g_nmR zf ?_
          clear zf; intro oq9 zf
          have zf1 := pre_ck zf
          clear zf; obtain ⟨zk_oq9, zf⟩ := zf1
          refine gfX6_95 h zk_oq9 dX6_deedLine_53 ?_
          refine g_nmI zf ?_
          clear zf; intro vq10 zf
          refine g_bipush h 7 (v := 7) (by decide) dX6_deedLine_56 ?_
          refine g_ic_ge h 158 (by decide) zf dX6_deedLine_58 ?_ ?_ <;> clear zf <;> intro zf
          · refine g_sub h [0] rfl ?_
            exact kX6_deedLine_b158 h zf
          · refine g_aload_n h 0 rfl dX6_deedLine_61 ?_
            refine gfX6_12 h (by decide : kd 3 = 5) dX6_deedLine_62 ?_
            refine g_nmR zf ?_
            clear zf; intro oq13 zf
            have zf1 := pre_ck zf
            clear zf; obtain ⟨zk_oq13, zf⟩ := zf1
            refine gfX6_168 h zk_oq13 dX6_deedLine_65 ?_
            refine g_aload_n h 0 rfl dX6_deedLine_68 ?_
            refine gfX6_12 h (by decide : kd 3 = 5) dX6_deedLine_69 ?_
            refine g_nmR zf ?_
            clear zf; intro oq14 zf
            have zf1 := pre_ck zf
            clear zf; obtain ⟨zk_oq14, zf⟩ := zf1
            refine gfX6_95 h zk_oq14 dX6_deedLine_72 ?_
            refine g_nmI zf ?_
            clear zf; intro vq15 zf
            refine g_aload_n h 0 rfl dX6_deedLine_75 ?_
            refine gfX6_35 h (by decide : kd 3 = 5) dX6_deedLine_76 ?_
            refine g_iconst h 0 (v := 0) (by decide) dX6_deedLine_79 ?_
            refine g_iald h 4 (by decide : kd 26 = 20) (by decide) zf dX6_deedLine_80 ?_
            clear zf; intro vq16 zf
            refine g_iast h 7 (kf4_1 zk_oq13) (lf4_1 zk_oq13) zf dX6_deedLine_81 ?_
            clear zf; intro Mq17 zf
            refine g_aload_n h 0 rfl dX6_deedLine_82 ?_
            refine gfX6_12 h (by decide : kd 3 = 5) dX6_deedLine_83 ?_
            refine g_nmR zf ?_
            clear zf; intro oq18 zf
            have zf1 := pre_ck zf
            clear zf; obtain ⟨zk_oq18, zf⟩ := zf1
            refine gfX6_171 h zk_oq18 dX6_deedLine_86 ?_
            refine g_aload_n h 0 rfl dX6_deedLine_89 ?_
            refine gfX6_12 h (by decide : kd 3 = 5) dX6_deedLine_90 ?_
            refine g_nmR zf ?_
            clear zf; intro oq19 zf
            have zf1 := pre_ck zf
            clear zf; obtain ⟨zk_oq19, zf⟩ := zf1
            refine gfX6_95 h zk_oq19 dX6_deedLine_93 ?_
            refine g_nmI zf ?_
            clear zf; intro vq20 zf
            refine g_aload_n h 0 rfl dX6_deedLine_96 ?_
            refine gfX6_35 h (by decide : kd 3 = 5) dX6_deedLine_97 ?_
            refine g_iconst h 1 (v := 1) (by decide) dX6_deedLine_100 ?_
            refine g_iald h 4 (by decide : kd 26 = 20) (by decide) zf dX6_deedLine_101 ?_
            clear zf; intro vq21 zf
            refine g_iast h 7 (kf4_2 zk_oq18) (lf4_2 zk_oq18) zf dX6_deedLine_102 ?_
            clear zf; intro Mq22 zf
            refine g_aload_n h 0 rfl dX6_deedLine_103 ?_
            refine gfX6_12 h (by decide : kd 3 = 5) dX6_deedLine_104 ?_
            refine g_nmR zf ?_
            clear zf; intro oq23 zf
            have zf1 := pre_ck zf
            clear zf; obtain ⟨zk_oq23, zf⟩ := zf1
            refine gfX6_174 h zk_oq23 dX6_deedLine_107 ?_
            refine g_aload_n h 0 rfl dX6_deedLine_110 ?_
            refine gfX6_12 h (by decide : kd 3 = 5) dX6_deedLine_111 ?_
            refine g_nmR zf ?_
            clear zf; intro oq24 zf
            have zf1 := pre_ck zf
            clear zf; obtain ⟨zk_oq24, zf⟩ := zf1
            refine gfX6_95 h zk_oq24 dX6_deedLine_114 ?_
            refine g_nmI zf ?_
            clear zf; intro vq25 zf
            refine g_aload_n h 0 rfl dX6_deedLine_117 ?_
            refine gfX6_35 h (by decide : kd 3 = 5) dX6_deedLine_118 ?_
            refine g_iconst h 2 (v := 2) (by decide) dX6_deedLine_121 ?_
            refine g_iald h 4 (by decide : kd 26 = 20) (by decide) zf dX6_deedLine_122 ?_
            clear zf; intro vq26 zf
            refine g_iast h 7 (kf4_3 zk_oq23) (lf4_3 zk_oq23) zf dX6_deedLine_123 ?_
            clear zf; intro Mq27 zf
            refine g_aload_n h 0 rfl dX6_deedLine_124 ?_
            refine gfX6_12 h (by decide : kd 3 = 5) dX6_deedLine_125 ?_
            refine g_nmR zf ?_
            clear zf; intro oq28 zf
            have zf1 := pre_ck zf
            clear zf; obtain ⟨zk_oq28, zf⟩ := zf1
            refine gfX6_177 h zk_oq28 dX6_deedLine_128 ?_
            refine g_aload_n h 0 rfl dX6_deedLine_131 ?_
            refine gfX6_12 h (by decide : kd 3 = 5) dX6_deedLine_132 ?_
            refine g_nmR zf ?_
            clear zf; intro oq29 zf
            have zf1 := pre_ck zf
            clear zf; obtain ⟨zk_oq29, zf⟩ := zf1
            refine gfX6_95 h zk_oq29 dX6_deedLine_135 ?_
            refine g_nmI zf ?_
            clear zf; intro vq30 zf
            refine g_aload_n h 0 rfl dX6_deedLine_138 ?_
            refine gfX6_35 h (by decide : kd 3 = 5) dX6_deedLine_139 ?_
            refine g_iconst h 3 (v := 3) (by decide) dX6_deedLine_142 ?_
            refine g_iald h 4 (by decide : kd 26 = 20) (by decide) zf dX6_deedLine_143 ?_
            clear zf; intro vq31 zf
            refine g_iast h 7 (kf4_4 zk_oq28) (lf4_4 zk_oq28) zf dX6_deedLine_144 ?_
            clear zf; intro Mq32 zf
            refine g_aload_n h 0 rfl dX6_deedLine_145 ?_
            refine gfX6_12 h (by decide : kd 3 = 5) dX6_deedLine_146 ?_
            refine g_nmR zf ?_
            clear zf; intro oq33 zf
            have zf1 := pre_ck zf
            clear zf; obtain ⟨zk_oq33, zf⟩ := zf1
            refine g_dup h rfl dX6_deedLine_149 ?_
            refine gfX6_95 h zk_oq33 dX6_deedLine_150 ?_
            refine g_nmI zf ?_
            clear zf; intro vq34 zf
            refine g_iconst h 1 (v := 1) (by decide) dX6_deedLine_153 ?_
            refine g_iadd h dX6_deedLine_154 ?_
            refine pfX6_95 h zk_oq33 dX6_deedLine_155 ?_
            refine g_nmM zf ?_
            clear zf; intro Mq35 zf
            refine g_sub h [0] rfl ?_
            exact kX6_deedLine_b158 h zf
        · refine g_iconst h 0 (v := 0) (by decide) dX6_deedLine_47 ?_
          obtain rfl := Option.some.inj zf
          exact g_zret h (by decide) rfl ⟨rfl, rfl⟩ (Nat.le_refl _) (Nat.le_refl _) dX6_deedLine_48

theorem cmX6_deedLine {l : Launch} {w : WX} {M : Mem} {res : (Int32 × Mem)} (zf : fX6_deedLine M = some res) : CM l w yX6_deedLine cX6_deedLine 1 (some .boolean) { frames := 9, cells := 0, slots := 0, locals := 229 } 0 0 [rv w 3] M (Pwi res) := by
  refine CM_of (by decide) (Nat.le_of_ble_eq_true rfl) (fun G hw hl h => ?_)
  subst hw
  exact kX6_deedLine_e0 h zf

-- X6_fighterLine
theorem kX6_fighterLine_b72 {G : GX} (h : OKm G cX6_fighterLine RX6 2 (some .boolean) { frames := 9, cells := 0, slots := 0, locals := 229 }) {M : Mem} {res : (Int32 × Mem)} (zf : fX6_fighterLine_b72 M = some res) : GG G (Qm G (Pwi res) 0 0) 0 0 72 [(0, rv G.1 3)] [] M := by
  unfold fX6_fighterLine_b72 at zf
  refine g_aload_n h 0 rfl dX6_fighterLine_72 ?_
  have zf1 := b2_some zf
  clear zf; obtain ⟨vq6, Mq7, zq, zf⟩ := zf1
  refine g_callVwi (As := []) (rest := []) h ceX6_close mlX6_165 imX6_close seX6_close (by rfl) (kd_lt (by rw [(by decide : kd 3 = 5)]; decide)) (ent_5 (by decide : kd 3 = 5)) rfl rfl ⟨by decide, by decide⟩ ⟨by decide, by decide⟩ rfl dX6_fighterLine_73 rfl (Nat.le_of_ble_eq_true rfl) (cmX6_close zq) ?_
  have zf1 := pre_ck zf
  clear zf; obtain ⟨zz9, zf⟩ := zf1
  obtain rfl := Option.some.inj zf
  exact g_zret h zz9 rfl ⟨rfl, rfl⟩ (Nat.le_refl _) (Nat.le_refl _) dX6_fighterLine_76

theorem kX6_fighterLine_e0 {G : GX} (h : OKm G cX6_fighterLine RX6 2 (some .boolean) { frames := 9, cells := 0, slots := 0, locals := 229 }) {M : Mem} {x1 : Nat} {res : (Int32 × Mem)} (zf : fX6_fighterLine M x1 = some res) : GG G (Qm G (Pwi res) 0 0) 0 0 0 [(0, rv G.1 3), (1, rv G.1 x1)] [] M := by
  unfold fX6_fighterLine at zf
  have zf1 := pre_ck zf
  clear zf; obtain ⟨zk_x1, zf⟩ := zf1
  refine g_aload_n h 0 rfl dX6_fighterLine_0 ?_
  refine g_iconst h 0 (v := 0) (by decide) dX6_fighterLine_1 ?_
  refine g_iconst h 0 (v := 0) (by decide) dX6_fighterLine_2 ?_
  refine g_bipush h 20 (v := 20) (by decide) dX6_fighterLine_3 ?_
  have zf1 := b2_some zf
  clear zf; obtain ⟨vq1, Mq2, zq, zf⟩ := zf1
  refine g_callVwi (As := [.int 0, .int 0, .int 20]) (rest := []) h ceX6_hear mlX6_152 imX6_hear seX6_hear (by rfl) (kd_lt (by rw [(by decide : kd 3 = 5)]; decide)) (ent_5 (by decide : kd 3 = 5)) rfl rfl ⟨by decide, by decide⟩ ⟨by decide, by decide⟩ rfl dX6_fighterLine_5 rfl (Nat.le_of_ble_eq_true rfl) (cmX6_hear zq) ?_
  refine g_if_eq h 21 (by decide) zf dX6_fighterLine_8 ?_ ?_ <;> clear zf <;> intro zf
  · refine g_iconst h 0 (v := 0) (by decide) dX6_fighterLine_21 ?_
    obtain rfl := Option.some.inj zf
    exact g_zret h (by decide) rfl ⟨rfl, rfl⟩ (Nat.le_refl _) (Nat.le_refl _) dX6_fighterLine_22
  · refine g_aload_n h 0 rfl dX6_fighterLine_11 ?_
    refine g_iconst h 1 (v := 1) (by decide) dX6_fighterLine_12 ?_
    refine g_iconst h 0 (v := 0) (by decide) dX6_fighterLine_13 ?_
    refine g_iconst h 3 (v := 3) (by decide) dX6_fighterLine_14 ?_
    have zf1 := b2_some zf
    clear zf; obtain ⟨vq3, Mq4, zq, zf⟩ := zf1
    refine g_callVwi (As := [.int 1, .int 0, .int 3]) (rest := []) h ceX6_hear mlX6_152 imX6_hear seX6_hear (by rfl) (kd_lt (by rw [(by decide : kd 3 = 5)]; decide)) (ent_5 (by decide : kd 3 = 5)) rfl rfl ⟨by decide, by decide⟩ ⟨by decide, by decide⟩ rfl dX6_fighterLine_15 rfl (Nat.le_of_ble_eq_true rfl) (cmX6_hear zq) ?_
    refine g_if_ne h 23 (by decide) zf dX6_fighterLine_18 ?_ ?_ <;> clear zf <;> intro zf
    · refine g_aload_n h 1 rfl dX6_fighterLine_23 ?_
      refine gfX6_124 h zk_x1 dX6_fighterLine_24 ?_
      refine g_nmI zf ?_
      clear zf; intro vq5 zf
      refine g_bipush h 7 (v := 7) (by decide) dX6_fighterLine_27 ?_
      refine g_ic_ge h 72 (by decide) zf dX6_fighterLine_29 ?_ ?_ <;> clear zf <;> intro zf
      · refine g_sub h [0] rfl ?_
        exact kX6_fighterLine_b72 h zf
      · refine g_aload_n h 1 rfl dX6_fighterLine_32 ?_
        refine gfX6_201 h zk_x1 dX6_fighterLine_33 ?_
        refine g_aload_n h 1 rfl dX6_fighterLine_36 ?_
        refine gfX6_124 h zk_x1 dX6_fighterLine_37 ?_
        refine g_nmI zf ?_
        clear zf; intro vq8 zf
        refine g_aload_n h 0 rfl dX6_fighterLine_40 ?_
        refine gfX6_35 h (by decide : kd 3 = 5) dX6_fighterLine_41 ?_
        refine g_iconst h 0 (v := 0) (by decide) dX6_fighterLine_44 ?_
        refine g_iald h 4 (by decide : kd 26 = 20) (by decide) zf dX6_fighterLine_45 ?_
        clear zf; intro vq9 zf
        refine g_iast h 7 (kf3_1 zk_x1) (lf3_1 zk_x1) zf dX6_fighterLine_46 ?_
        clear zf; intro Mq10 zf
        refine g_aload_n h 1 rfl dX6_fighterLine_47 ?_
        refine gfX6_204 h zk_x1 dX6_fighterLine_48 ?_
        refine g_aload_n h 1 rfl dX6_fighterLine_51 ?_
        refine gfX6_124 h zk_x1 dX6_fighterLine_52 ?_
        refine g_nmI zf ?_
        clear zf; intro vq11 zf
        refine g_aload_n h 0 rfl dX6_fighterLine_55 ?_
        refine gfX6_35 h (by decide : kd 3 = 5) dX6_fighterLine_56 ?_
        refine g_iconst h 1 (v := 1) (by decide) dX6_fighterLine_59 ?_
        refine g_iald h 4 (by decide : kd 26 = 20) (by decide) zf dX6_fighterLine_60 ?_
        clear zf; intro vq12 zf
        refine g_iast h 7 (kf3_2 zk_x1) (lf3_2 zk_x1) zf dX6_fighterLine_61 ?_
        clear zf; intro Mq13 zf
        refine g_aload_n h 1 rfl dX6_fighterLine_62 ?_
        refine g_dup h rfl dX6_fighterLine_63 ?_
        refine gfX6_124 h zk_x1 dX6_fighterLine_64 ?_
        refine g_nmI zf ?_
        clear zf; intro vq14 zf
        refine g_iconst h 1 (v := 1) (by decide) dX6_fighterLine_67 ?_
        refine g_iadd h dX6_fighterLine_68 ?_
        refine pfX6_124 h zk_x1 dX6_fighterLine_69 ?_
        refine g_nmM zf ?_
        clear zf; intro Mq15 zf
        refine g_sub h [0] rfl ?_
        exact kX6_fighterLine_b72 h zf
    · refine g_iconst h 0 (v := 0) (by decide) dX6_fighterLine_21 ?_
      obtain rfl := Option.some.inj zf
      exact g_zret h (by decide) rfl ⟨rfl, rfl⟩ (Nat.le_refl _) (Nat.le_refl _) dX6_fighterLine_22

theorem cmX6_fighterLine {l : Launch} {w : WX} {M : Mem} {x1 : Nat} {res : (Int32 × Mem)} (zf : fX6_fighterLine M x1 = some res) : CM l w yX6_fighterLine cX6_fighterLine 2 (some .boolean) { frames := 9, cells := 0, slots := 0, locals := 229 } 0 0 [rv w 3, rv w x1] M (Pwi res) := by
  refine CM_of (by decide) (Nat.le_of_ble_eq_true rfl) (fun G hw hl h => ?_)
  subst hw
  exact kX6_fighterLine_e0 h zf

-- X6_friendLine
theorem kX6_friendLine_b92 {G : GX} (h : OKm G cX6_friendLine RX6 1 (some .boolean) { frames := 9, cells := 0, slots := 0, locals := 229 }) {M : Mem} {res : (Int32 × Mem)} (zf : fX6_friendLine_b92 M = some res) : GG G (Qm G (Pwi res) 0 0) 0 0 92 [(0, rv G.1 3)] [] M := by
  unfold fX6_friendLine_b92 at zf
  refine g_aload_n h 0 rfl dX6_friendLine_92 ?_
  have zf1 := b2_some zf
  clear zf; obtain ⟨vq7, Mq8, zq, zf⟩ := zf1
  refine g_callVwi (As := []) (rest := []) h ceX6_close mlX6_165 imX6_close seX6_close (by rfl) (kd_lt (by rw [(by decide : kd 3 = 5)]; decide)) (ent_5 (by decide : kd 3 = 5)) rfl rfl ⟨by decide, by decide⟩ ⟨by decide, by decide⟩ rfl dX6_friendLine_93 rfl (Nat.le_of_ble_eq_true rfl) (cmX6_close zq) ?_
  have zf1 := pre_ck zf
  clear zf; obtain ⟨zz9, zf⟩ := zf1
  obtain rfl := Option.some.inj zf
  exact g_zret h zz9 rfl ⟨rfl, rfl⟩ (Nat.le_refl _) (Nat.le_refl _) dX6_friendLine_96

theorem kX6_friendLine_e0 {G : GX} (h : OKm G cX6_friendLine RX6 1 (some .boolean) { frames := 9, cells := 0, slots := 0, locals := 229 }) {M : Mem} {res : (Int32 × Mem)} (zf : fX6_friendLine M = some res) : GG G (Qm G (Pwi res) 0 0) 0 0 0 [(0, rv G.1 3)] [] M := by
  unfold fX6_friendLine at zf
  refine g_aload_n h 0 rfl dX6_friendLine_0 ?_
  refine g_iconst h 0 (v := 0) (by decide) dX6_friendLine_1 ?_
  refine g_bipush h (-9) (v := (-9)) (by decide) dX6_friendLine_2 ?_
  refine g_bipush h 9 (v := 9) (by decide) dX6_friendLine_4 ?_
  have zf1 := b2_some zf
  clear zf; obtain ⟨vq1, Mq2, zq, zf⟩ := zf1
  refine g_callVwi (As := [.int 0, .int (-9), .int 9]) (rest := []) h ceX6_hear mlX6_152 imX6_hear seX6_hear (by rfl) (kd_lt (by rw [(by decide : kd 3 = 5)]; decide)) (ent_5 (by decide : kd 3 = 5)) rfl rfl ⟨by decide, by decide⟩ ⟨by decide, by decide⟩ rfl dX6_friendLine_6 rfl (Nat.le_of_ble_eq_true rfl) (cmX6_hear zq) ?_
  refine g_if_eq h 23 (by decide) zf dX6_friendLine_9 ?_ ?_ <;> clear zf <;> intro zf
  · refine g_iconst h 0 (v := 0) (by decide) dX6_friendLine_23 ?_
    obtain rfl := Option.some.inj zf
    exact g_zret h (by decide) rfl ⟨rfl, rfl⟩ (Nat.le_refl _) (Nat.le_refl _) dX6_friendLine_24
  · refine g_aload_n h 0 rfl dX6_friendLine_12 ?_
    refine g_iconst h 1 (v := 1) (by decide) dX6_friendLine_13 ?_
    refine g_iconst h 0 (v := 0) (by decide) dX6_friendLine_14 ?_
    refine g_bipush h 9 (v := 9) (by decide) dX6_friendLine_15 ?_
    have zf1 := b2_some zf
    clear zf; obtain ⟨vq3, Mq4, zq, zf⟩ := zf1
    refine g_callVwi (As := [.int 1, .int 0, .int 9]) (rest := []) h ceX6_hear mlX6_152 imX6_hear seX6_hear (by rfl) (kd_lt (by rw [(by decide : kd 3 = 5)]; decide)) (ent_5 (by decide : kd 3 = 5)) rfl rfl ⟨by decide, by decide⟩ ⟨by decide, by decide⟩ rfl dX6_friendLine_17 rfl (Nat.le_of_ble_eq_true rfl) (cmX6_hear zq) ?_
    refine g_if_ne h 25 (by decide) zf dX6_friendLine_20 ?_ ?_ <;> clear zf <;> intro zf
    · refine g_aload_n h 0 rfl dX6_friendLine_25 ?_
      refine gfX6_12 h (by decide : kd 3 = 5) dX6_friendLine_26 ?_
      refine g_nmR zf ?_
      clear zf; intro oq5 zf
      have zf1 := pre_ck zf
      clear zf; obtain ⟨zk_oq5, zf⟩ := zf1
      refine gfX6_114 h zk_oq5 dX6_friendLine_29 ?_
      refine g_nmI zf ?_
      clear zf; intro vq6 zf
      refine g_bipush h 6 (v := 6) (by decide) dX6_friendLine_32 ?_
      refine g_ic_ge h 92 (by decide) zf dX6_friendLine_34 ?_ ?_ <;> clear zf <;> intro zf
      · refine g_sub h [0] rfl ?_
        exact kX6_friendLine_b92 h zf
      · refine g_aload_n h 0 rfl dX6_friendLine_37 ?_
        refine gfX6_21 h (by decide : kd 3 = 5) dX6_friendLine_38 ?_
        refine gfX6_195 h (by decide : kd 21 = 2) dX6_friendLine_41 ?_
        change GG G _ _ _ _ _ (rv G.1 25 :: _) _
        refine g_aload_n h 0 rfl dX6_friendLine_44 ?_
        refine gfX6_12 h (by decide : kd 3 = 5) dX6_friendLine_45 ?_
        refine g_nmR zf ?_
        clear zf; intro oq9 zf
        have zf1 := pre_ck zf
        clear zf; obtain ⟨zk_oq9, zf⟩ := zf1
        refine gfX6_114 h zk_oq9 dX6_friendLine_48 ?_
        refine g_nmI zf ?_
        clear zf; intro vq10 zf
        refine g_aload_n h 0 rfl dX6_friendLine_51 ?_
        refine gfX6_35 h (by decide : kd 3 = 5) dX6_friendLine_52 ?_
        refine g_iconst h 0 (v := 0) (by decide) dX6_friendLine_55 ?_
        refine g_iald h 4 (by decide : kd 26 = 20) (by decide) zf dX6_friendLine_56 ?_
        clear zf; intro vq11 zf
        refine g_iast h 6 (by decide : kd 25 = 20) (by decide) zf dX6_friendLine_57 ?_
        clear zf; intro Mq12 zf
        refine g_aload_n h 0 rfl dX6_friendLine_58 ?_
        refine gfX6_12 h (by decide : kd 3 = 5) dX6_friendLine_59 ?_
        refine g_nmR zf ?_
        clear zf; intro oq13 zf
        have zf1 := pre_ck zf
        clear zf; obtain ⟨zk_oq13, zf⟩ := zf1
        refine gfX6_198 h zk_oq13 dX6_friendLine_62 ?_
        refine g_aload_n h 0 rfl dX6_friendLine_65 ?_
        refine gfX6_12 h (by decide : kd 3 = 5) dX6_friendLine_66 ?_
        refine g_nmR zf ?_
        clear zf; intro oq14 zf
        have zf1 := pre_ck zf
        clear zf; obtain ⟨zk_oq14, zf⟩ := zf1
        refine gfX6_114 h zk_oq14 dX6_friendLine_69 ?_
        refine g_nmI zf ?_
        clear zf; intro vq15 zf
        refine g_aload_n h 0 rfl dX6_friendLine_72 ?_
        refine gfX6_35 h (by decide : kd 3 = 5) dX6_friendLine_73 ?_
        refine g_iconst h 1 (v := 1) (by decide) dX6_friendLine_76 ?_
        refine g_iald h 4 (by decide : kd 26 = 20) (by decide) zf dX6_friendLine_77 ?_
        clear zf; intro vq16 zf
        refine g_iast h 6 (kf4_7 zk_oq13) (lf4_7 zk_oq13) zf dX6_friendLine_78 ?_
        clear zf; intro Mq17 zf
        refine g_aload_n h 0 rfl dX6_friendLine_79 ?_
        refine gfX6_12 h (by decide : kd 3 = 5) dX6_friendLine_80 ?_
        refine g_nmR zf ?_
        clear zf; intro oq18 zf
        have zf1 := pre_ck zf
        clear zf; obtain ⟨zk_oq18, zf⟩ := zf1
        refine g_dup h rfl dX6_friendLine_83 ?_
        refine gfX6_114 h zk_oq18 dX6_friendLine_84 ?_
        refine g_nmI zf ?_
        clear zf; intro vq19 zf
        refine g_iconst h 1 (v := 1) (by decide) dX6_friendLine_87 ?_
        refine g_iadd h dX6_friendLine_88 ?_
        refine pfX6_114 h zk_oq18 dX6_friendLine_89 ?_
        refine g_nmM zf ?_
        clear zf; intro Mq20 zf
        refine g_sub h [0] rfl ?_
        exact kX6_friendLine_b92 h zf
    · refine g_iconst h 0 (v := 0) (by decide) dX6_friendLine_23 ?_
      obtain rfl := Option.some.inj zf
      exact g_zret h (by decide) rfl ⟨rfl, rfl⟩ (Nat.le_refl _) (Nat.le_refl _) dX6_friendLine_24

theorem cmX6_friendLine {l : Launch} {w : WX} {M : Mem} {res : (Int32 × Mem)} (zf : fX6_friendLine M = some res) : CM l w yX6_friendLine cX6_friendLine 1 (some .boolean) { frames := 9, cells := 0, slots := 0, locals := 229 } 0 0 [rv w 3] M (Pwi res) := by
  refine CM_of (by decide) (Nat.le_of_ble_eq_true rfl) (fun G hw hl h => ?_)
  subst hw
  exact kX6_friendLine_e0 h zf

-- X6_harvestsLine
theorem kX6_harvestsLine_b97 {G : GX} (h : OKm G cX6_harvestsLine RX6 2 (some .boolean) { frames := 9, cells := 0, slots := 0, locals := 229 }) {M : Mem} {res : (Int32 × Mem)} (zf : fX6_harvestsLine_b97 M = some res) : GG G (Qm G (Pwi res) 0 0) 0 0 97 [(0, rv G.1 3)] [] M := by
  unfold fX6_harvestsLine_b97 at zf
  refine g_aload_n h 0 rfl dX6_harvestsLine_97 ?_
  have zf1 := b2_some zf
  clear zf; obtain ⟨vq1, Mq2, zq, zf⟩ := zf1
  refine g_callVwi (As := []) (rest := []) h ceX6_close mlX6_165 imX6_close seX6_close (by rfl) (kd_lt (by rw [(by decide : kd 3 = 5)]; decide)) (ent_5 (by decide : kd 3 = 5)) rfl rfl ⟨by decide, by decide⟩ ⟨by decide, by decide⟩ rfl dX6_harvestsLine_98 rfl (Nat.le_of_ble_eq_true rfl) (cmX6_close zq) ?_
  have zf1 := pre_ck zf
  clear zf; obtain ⟨zz9, zf⟩ := zf1
  obtain rfl := Option.some.inj zf
  exact g_zret h zz9 rfl ⟨rfl, rfl⟩ (Nat.le_refl _) (Nat.le_refl _) dX6_harvestsLine_101

theorem kX6_harvestsLine_b91 {G : GX} (h : OKm G cX6_harvestsLine RX6 2 (some .boolean) { frames := 9, cells := 0, slots := 0, locals := 229 }) {a2 : Mem → Int32 → Option (Int32 × Mem)} (zh2 : ∀ (M : Mem) (x1 : Int32) (res : (Int32 × Mem)), a2 M x1 = some res → GG G (Qm G (Pwi res) 0 0) 0 0 2 [(0, rv G.1 3), (1, .int x1)] [] M) {M : Mem} {x1 : Int32} {res : (Int32 × Mem)} (zf : fX6_harvestsLine_b91 a2 M x1 = some res) : GG G (Qm G (Pwi res) 0 0) 0 0 91 [(0, rv G.1 3), (1, .int x1)] [] M := by
  unfold fX6_harvestsLine_b91 at zf
  refine g_iinc h 1 1 rfl (v := x1 + 1) (congrArg (fun z => x1 + z) (by decide : Int32.ofInt (1) = (1 : Int32))) [(1, .int (x1 + 1)), (0, rv G.1 3)] (by decide) rfl dX6_harvestsLine_91 ?_
  refine g_nmV zf ?_
  clear zf; intro vq5 zf
  refine g_goto h 2 (by decide) dX6_harvestsLine_94 ?_
  refine g_sub h [1, 0] rfl ?_
  exact zh2 _ _ _ zf

theorem kX6_harvestsLine_b47 {G : GX} (h : OKm G cX6_harvestsLine RX6 2 (some .boolean) { frames := 9, cells := 0, slots := 0, locals := 229 }) {a2 : Mem → Int32 → Option (Int32 × Mem)} (zh2 : ∀ (M : Mem) (x1 : Int32) (res : (Int32 × Mem)), a2 M x1 = some res → GG G (Qm G (Pwi res) 0 0) 0 0 2 [(0, rv G.1 3), (1, .int x1)] [] M) {M : Mem} {x1 : Int32} {res : (Int32 × Mem)} (zf : fX6_harvestsLine_b47 a2 M x1 = some res) : GG G (Qm G (Pwi res) 0 0) 0 0 47 [(0, rv G.1 3), (1, .int x1)] [] M := by
  unfold fX6_harvestsLine_b47 at zf
  refine g_aload_n h 0 rfl dX6_harvestsLine_47 ?_
  refine g_iconst h 0 (v := 0) (by decide) dX6_harvestsLine_48 ?_
  refine g_iconst h 0 (v := 0) (by decide) dX6_harvestsLine_49 ?_
  refine g_bipush h 99 (v := 99) (by decide) dX6_harvestsLine_50 ?_
  have zf1 := b2_some zf
  clear zf; obtain ⟨vq3, Mq4, zq, zf⟩ := zf1
  refine g_callVwi (As := [.int 0, .int 0, .int 99]) (rest := []) h ceX6_hear mlX6_152 imX6_hear seX6_hear (by rfl) (kd_lt (by rw [(by decide : kd 3 = 5)]; decide)) (ent_5 (by decide : kd 3 = 5)) rfl rfl ⟨by decide, by decide⟩ ⟨by decide, by decide⟩ rfl dX6_harvestsLine_52 rfl (Nat.le_of_ble_eq_true rfl) (cmX6_hear zq) ?_
  refine g_if_ne h 60 (by decide) zf dX6_harvestsLine_55 ?_ ?_ <;> clear zf <;> intro zf
  · refine g_iload_n h 1 rfl dX6_harvestsLine_60 ?_
    refine g_bipush h 10 (v := 10) (by decide) dX6_harvestsLine_61 ?_
    refine g_ic_ge h 91 (by decide) zf dX6_harvestsLine_63 ?_ ?_ <;> clear zf <;> intro zf
    · refine g_sub h [0, 1] rfl ?_
      exact kX6_harvestsLine_b91 h zh2 zf
    · refine g_aload_n h 0 rfl dX6_harvestsLine_66 ?_
      refine gfX6_12 h (by decide : kd 3 = 5) dX6_harvestsLine_67 ?_
      refine g_nmR zf ?_
      clear zf; intro oq6 zf
      have zf1 := pre_ck zf
      clear zf; obtain ⟨zk_oq6, zf⟩ := zf1
      refine gfX6_186 h zk_oq6 dX6_harvestsLine_70 ?_
      refine g_iload_n h 1 rfl dX6_harvestsLine_73 ?_
      refine g_aload_n h 0 rfl dX6_harvestsLine_74 ?_
      refine gfX6_35 h (by decide : kd 3 = 5) dX6_harvestsLine_75 ?_
      refine g_iconst h 0 (v := 0) (by decide) dX6_harvestsLine_78 ?_
      refine g_iald h 4 (by decide : kd 26 = 20) (by decide) zf dX6_harvestsLine_79 ?_
      clear zf; intro vq7 zf
      refine g_iast h 10 (kf4_6 zk_oq6) (lf4_6 zk_oq6) zf dX6_harvestsLine_80 ?_
      clear zf; intro Mq8 zf
      refine g_aload_n h 0 rfl dX6_harvestsLine_81 ?_
      refine gfX6_12 h (by decide : kd 3 = 5) dX6_harvestsLine_82 ?_
      refine g_nmR zf ?_
      clear zf; intro oq9 zf
      have zf1 := pre_ck zf
      clear zf; obtain ⟨zk_oq9, zf⟩ := zf1
      refine g_iload_n h 1 rfl dX6_harvestsLine_85 ?_
      refine g_iconst h 1 (v := 1) (by decide) dX6_harvestsLine_86 ?_
      refine g_iadd h dX6_harvestsLine_87 ?_
      refine pfX6_189 h zk_oq9 dX6_harvestsLine_88 ?_
      refine g_nmM zf ?_
      clear zf; intro Mq10 zf
      refine g_sub h [0, 1] rfl ?_
      exact kX6_harvestsLine_b91 h zh2 zf
  · refine g_iconst h 0 (v := 0) (by decide) dX6_harvestsLine_58 ?_
    obtain rfl := Option.some.inj zf
    exact g_zret h (by decide) rfl ⟨rfl, rfl⟩ (Nat.le_refl _) (Nat.le_refl _) dX6_harvestsLine_59

theorem kX6_harvestsLine_b24 {G : GX} (h : OKm G cX6_harvestsLine RX6 2 (some .boolean) { frames := 9, cells := 0, slots := 0, locals := 229 }) {a2 : Mem → Int32 → Option (Int32 × Mem)} (zh2 : ∀ (M : Mem) (x1 : Int32) (res : (Int32 × Mem)), a2 M x1 = some res → GG G (Qm G (Pwi res) 0 0) 0 0 2 [(0, rv G.1 3), (1, .int x1)] [] M) {M : Mem} {x1 : Int32} {res : (Int32 × Mem)} (zf : fX6_harvestsLine_b24 a2 M x1 = some res) : GG G (Qm G (Pwi res) 0 0) 0 0 24 [(0, rv G.1 3), (1, .int x1)] [] M := by
  unfold fX6_harvestsLine_b24 at zf
  refine g_iload_n h 1 rfl dX6_harvestsLine_24 ?_
  refine g_bipush h 10 (v := 10) (by decide) dX6_harvestsLine_25 ?_
  refine g_ic_ne h 47 (by decide) zf dX6_harvestsLine_27 ?_ ?_ <;> clear zf <;> intro zf
  · refine g_sub h [0, 1] rfl ?_
    exact kX6_harvestsLine_b47 h zh2 zf
  · refine g_aload_n h 0 rfl dX6_harvestsLine_30 ?_
    refine gfX6_44 h (by decide : kd 3 = 5) dX6_harvestsLine_31 ?_
    refine gfX6_65 h (by decide : kd 27 = 9) dX6_harvestsLine_34 ?_
    refine g_nmI zf ?_
    clear zf; intro vq11 zf
    refine g_iconst h 2 (v := 2) (by decide) dX6_harvestsLine_37 ?_
    refine g_ic_ne h 47 (by decide) zf dX6_harvestsLine_38 ?_ ?_ <;> clear zf <;> intro zf
    · refine g_sub h [0, 1] rfl ?_
      exact kX6_harvestsLine_b47 h zh2 zf
    · refine g_aload_n h 0 rfl dX6_harvestsLine_41 ?_
      refine g_iconst h 2 (v := 2) (by decide) dX6_harvestsLine_42 ?_
      have zf1 := b2_some zf
      clear zf; obtain ⟨vq12, Mq13, zq, zf⟩ := zf1
      refine g_callVwi (As := [.int 2]) (rest := []) h ceX6_refuse mlX6_143 imX6_refuse seX6_refuse (by rfl) (kd_lt (by rw [(by decide : kd 3 = 5)]; decide)) (ent_5 (by decide : kd 3 = 5)) rfl rfl ⟨by decide, by decide⟩ ⟨by decide, by decide⟩ rfl dX6_harvestsLine_43 rfl (Nat.le_of_ble_eq_true rfl) (cmX6_refuse zq) ?_
      have zf1 := pre_ck zf
      clear zf; obtain ⟨zz9, zf⟩ := zf1
      obtain rfl := Option.some.inj zf
      exact g_zret h zz9 rfl ⟨rfl, rfl⟩ (Nat.le_refl _) (Nat.le_refl _) dX6_harvestsLine_46

theorem kX6_harvestsLine_l2 {G : GX} (h : OKm G cX6_harvestsLine RX6 2 (some .boolean) { frames := 9, cells := 0, slots := 0, locals := 229 }) : ∀ (n : Nat) (M : Mem) (x1 : Int32) (res : (Int32 × Mem)), fX6_harvestsLine_l2 n M x1 = some res → GG G (Qm G (Pwi res) 0 0) 0 0 2 [(0, rv G.1 3), (1, .int x1)] [] M := by
  intro n
  induction n with
  | zero => intro M x1 res zf; rw [fX6_harvestsLine_l2] at zf; cases zf
  | succ n ih =>
    intro M x1 res zf
    rw [fX6_harvestsLine_l2] at zf
    refine g_iload_n h 1 rfl dX6_harvestsLine_2 ?_
    refine g_bipush h 10 (v := 10) (by decide) dX6_harvestsLine_3 ?_
    refine g_ic_gt h 97 (by decide) zf dX6_harvestsLine_5 ?_ ?_ <;> clear zf <;> intro zf
    · refine g_sub h [0] rfl ?_
      exact kX6_harvestsLine_b97 h zf
    · refine g_iload_n h 1 rfl dX6_harvestsLine_8 ?_
      refine g_if_eq h 24 (by decide) zf dX6_harvestsLine_9 ?_ ?_ <;> clear zf <;> intro zf
      · refine g_sub h [0, 1] rfl ?_
        exact kX6_harvestsLine_b24 h ih zf
      · refine g_aload_n h 0 rfl dX6_harvestsLine_12 ?_
        refine gfX6_44 h (by decide : kd 3 = 5) dX6_harvestsLine_13 ?_
        refine gfX6_65 h (by decide : kd 27 = 9) dX6_harvestsLine_16 ?_
        refine g_nmI zf ?_
        clear zf; intro vq14 zf
        refine g_bipush h 59 (v := 59) (by decide) dX6_harvestsLine_19 ?_
        refine g_ic_eq h 97 (by decide) zf dX6_harvestsLine_21 ?_ ?_ <;> clear zf <;> intro zf
        · refine g_sub h [0] rfl ?_
          exact kX6_harvestsLine_b97 h zf
        · refine g_sub h [0, 1] rfl ?_
          exact kX6_harvestsLine_b24 h ih zf

theorem kX6_harvestsLine_e0 {G : GX} (h : OKm G cX6_harvestsLine RX6 2 (some .boolean) { frames := 9, cells := 0, slots := 0, locals := 229 }) {M : Mem} {res : (Int32 × Mem)} (zf : fX6_harvestsLine M = some res) : GG G (Qm G (Pwi res) 0 0) 0 0 0 [(0, rv G.1 3)] [] M := by
  unfold fX6_harvestsLine at zf
  refine g_iconst h 0 (v := 0) (by decide) dX6_harvestsLine_0 ?_
  refine g_istore_n h rfl [(1, .int 0), (0, rv G.1 3)] (by decide) rfl dX6_harvestsLine_1 ?_
  refine g_sub h [1, 0] rfl ?_
  exact kX6_harvestsLine_l2 h _ _ _ _ zf

theorem cmX6_harvestsLine {l : Launch} {w : WX} {M : Mem} {res : (Int32 × Mem)} (zf : fX6_harvestsLine M = some res) : CM l w yX6_harvestsLine cX6_harvestsLine 2 (some .boolean) { frames := 9, cells := 0, slots := 0, locals := 229 } 0 0 [rv w 3] M (Pwi res) := by
  refine CM_of (by decide) (Nat.le_of_ble_eq_true rfl) (fun G hw hl h => ?_)
  subst hw
  exact kX6_harvestsLine_e0 h zf

-- X6_once
theorem kX6_once_e0 {G : GX} (h : OKm G cX6_once RX6 2 (some .boolean) { frames := 8, cells := 0, slots := 0, locals := 204 }) {M : Mem} {x1 : Int32} {res : (Int32 × Mem)} (zf : fX6_once M x1 = some res) : GG G (Qm G (Pwi res) 0 0) 0 0 0 [(0, rv G.1 3), (1, .int x1)] [] M := by
  unfold fX6_once at zf
  refine g_aload_n h 0 rfl dX6_once_0 ?_
  refine gfX6_32 h (by decide : kd 3 = 5) dX6_once_1 ?_
  refine g_nmI zf ?_
  clear zf; intro vq1 zf
  refine g_iload_n h 1 rfl dX6_once_4 ?_
  refine g_iand h dX6_once_5 ?_
  refine g_if_eq h 15 (by decide) zf dX6_once_6 ?_ ?_ <;> clear zf <;> intro zf
  · refine g_aload_n h 0 rfl dX6_once_15 ?_
    refine g_dup h rfl dX6_once_16 ?_
    refine gfX6_32 h (by decide : kd 3 = 5) dX6_once_17 ?_
    refine g_nmI zf ?_
    clear zf; intro vq2 zf
    refine g_iload_n h 1 rfl dX6_once_20 ?_
    refine g_ior h dX6_once_21 ?_
    refine pfX6_32 h (by decide : kd 3 = 5) dX6_once_22 ?_
    refine g_nmM zf ?_
    clear zf; intro Mq3 zf
    refine g_aload_n h 0 rfl dX6_once_25 ?_
    refine gfX6_44 h (by decide : kd 3 = 5) dX6_once_26 ?_
    have zf1 := bd_some zf
    clear zf; obtain ⟨Mq4, zq, zf⟩ := zf1
    refine g_callVwv (As := []) (rest := []) h ceX10_step mlX6_146 imX10_step seX10_step (by rfl) (kd_lt (by rw [(by decide : kd 27 = 9)]; decide)) (ent_9 (by decide : kd 27 = 9)) rfl rfl ⟨by decide, by decide⟩ ⟨by decide, by decide⟩ rfl dX6_once_29 rfl (Nat.le_of_ble_eq_true rfl) (cmX10_step zq) ?_
    refine g_iconst h 1 (v := 1) (by decide) dX6_once_32 ?_
    obtain rfl := Option.some.inj zf
    exact g_zret h (by decide) rfl ⟨rfl, rfl⟩ (Nat.le_refl _) (Nat.le_refl _) dX6_once_33
  · refine g_aload_n h 0 rfl dX6_once_9 ?_
    refine g_iconst h 5 (v := 5) (by decide) dX6_once_10 ?_
    have zf1 := b2_some zf
    clear zf; obtain ⟨vq5, Mq6, zq, zf⟩ := zf1
    refine g_callVwi (As := [.int 5]) (rest := []) h ceX6_refuse mlX6_143 imX6_refuse seX6_refuse (by rfl) (kd_lt (by rw [(by decide : kd 3 = 5)]; decide)) (ent_5 (by decide : kd 3 = 5)) rfl rfl ⟨by decide, by decide⟩ ⟨by decide, by decide⟩ rfl dX6_once_11 rfl (Nat.le_of_ble_eq_true rfl) (cmX6_refuse zq) ?_
    have zf1 := pre_ck zf
    clear zf; obtain ⟨zz9, zf⟩ := zf1
    obtain rfl := Option.some.inj zf
    exact g_zret h zz9 rfl ⟨rfl, rfl⟩ (Nat.le_refl _) (Nat.le_refl _) dX6_once_14

theorem cmX6_once {l : Launch} {w : WX} {M : Mem} {x1 : Int32} {res : (Int32 × Mem)} (zf : fX6_once M x1 = some res) : CM l w yX6_once cX6_once 2 (some .boolean) { frames := 8, cells := 0, slots := 0, locals := 204 } 0 0 [rv w 3, .int x1] M (Pwi res) := by
  refine CM_of (by decide) (Nat.le_of_ble_eq_true rfl) (fun G hw hl h => ?_)
  subst hw
  exact kX6_once_e0 h zf

-- X6_wayLine
theorem kX6_wayLine_b128 {G : GX} (h : OKm G cX6_wayLine RX6 4 (some .boolean) { frames := 9, cells := 0, slots := 0, locals := 224 }) {M : Mem} {x1 : Int32} {x2 : Int32} {res : (Int32 × Mem)} (zf : fX6_wayLine_b128 M x1 x2 = some res) : GG G (Qm G (Pwi res) 0 0) 0 0 128 [(0, rv G.1 3), (1, .int x1), (2, .int x2)] [] M := by
  unfold fX6_wayLine_b128 at zf
  refine g_aload_n h 0 rfl dX6_wayLine_128 ?_
  refine gfX6_12 h (by decide : kd 3 = 5) dX6_wayLine_129 ?_
  refine g_nmR zf ?_
  clear zf; intro oq1 zf
  have zf1 := pre_ck zf
  clear zf; obtain ⟨zk_oq1, zf⟩ := zf1
  refine gfX6_183 h zk_oq1 dX6_wayLine_132 ?_
  refine g_iload_n h 1 rfl dX6_wayLine_135 ?_
  refine g_iload_n h 2 rfl dX6_wayLine_136 ?_
  refine g_iast h 2 (kf4_5 zk_oq1) (lf4_5 zk_oq1) zf dX6_wayLine_137 ?_
  clear zf; intro Mq2 zf
  refine g_aload_n h 0 rfl dX6_wayLine_138 ?_
  have zf1 := b2_some zf
  clear zf; obtain ⟨vq3, Mq4, zq, zf⟩ := zf1
  refine g_callVwi (As := []) (rest := []) h ceX6_close mlX6_165 imX6_close seX6_close (by rfl) (kd_lt (by rw [(by decide : kd 3 = 5)]; decide)) (ent_5 (by decide : kd 3 = 5)) rfl rfl ⟨by decide, by decide⟩ ⟨by decide, by decide⟩ rfl dX6_wayLine_139 rfl (Nat.le_of_ble_eq_true rfl) (cmX6_close zq) ?_
  have zf1 := pre_ck zf
  clear zf; obtain ⟨zz9, zf⟩ := zf1
  obtain rfl := Option.some.inj zf
  exact g_zret h zz9 rfl ⟨rfl, rfl⟩ (Nat.le_refl _) (Nat.le_refl _) dX6_wayLine_142

theorem kX6_wayLine_b62 {G : GX} (h : OKm G cX6_wayLine RX6 4 (some .boolean) { frames := 9, cells := 0, slots := 0, locals := 224 }) {M : Mem} {res : (Int32 × Mem)} (zf : fX6_wayLine_b62 M = some res) : GG G (Qm G (Pwi res) 0 0) 0 0 62 [(0, rv G.1 3)] [] M := by
  unfold fX6_wayLine_b62 at zf
  refine g_aload_n h 0 rfl dX6_wayLine_62 ?_
  refine g_iconst h 2 (v := 2) (by decide) dX6_wayLine_63 ?_
  have zf1 := b2_some zf
  clear zf; obtain ⟨vq6, Mq7, zq, zf⟩ := zf1
  refine g_callVwi (As := [.int 2]) (rest := []) h ceX6_refuse mlX6_143 imX6_refuse seX6_refuse (by rfl) (kd_lt (by rw [(by decide : kd 3 = 5)]; decide)) (ent_5 (by decide : kd 3 = 5)) rfl rfl ⟨by decide, by decide⟩ ⟨by decide, by decide⟩ rfl dX6_wayLine_64 rfl (Nat.le_of_ble_eq_true rfl) (cmX6_refuse zq) ?_
  have zf1 := pre_ck zf
  clear zf; obtain ⟨zz9, zf⟩ := zf1
  obtain rfl := Option.some.inj zf
  exact g_zret h zz9 rfl ⟨rfl, rfl⟩ (Nat.le_refl _) (Nat.le_refl _) dX6_wayLine_67

theorem kX6_wayLine_b26 {G : GX} (h : OKm G cX6_wayLine RX6 4 (some .boolean) { frames := 9, cells := 0, slots := 0, locals := 224 }) {a4 : Mem → Int32 → Int32 → Int32 → Option (Int32 × Mem)} (zh4 : ∀ (M : Mem) (x1 : Int32) (x2 : Int32) (x3 : Int32) (res : (Int32 × Mem)), a4 M x1 x2 x3 = some res → GG G (Qm G (Pwi res) 0 0) 0 0 4 [(0, rv G.1 3), (1, .int x1), (2, .int x2), (3, .int x3)] [] M) {M : Mem} {x1 : Int32} {x2 : Int32} {x3 : Int32} {res : (Int32 × Mem)} (zf : fX6_wayLine_b26 a4 M x1 x2 x3 = some res) : GG G (Qm G (Pwi res) 0 0) 0 0 26 [(0, rv G.1 3), (1, .int x1), (2, .int x2), (3, .int x3)] [] M := by
  unfold fX6_wayLine_b26 at zf
  refine g_aload_n h 0 rfl dX6_wayLine_26 ?_
  refine gfX6_44 h (by decide : kd 3 = 5) dX6_wayLine_27 ?_
  refine gfX6_65 h (by decide : kd 27 = 9) dX6_wayLine_30 ?_
  refine g_nmI zf ?_
  clear zf; intro vq5 zf
  refine g_iconst h 2 (v := 2) (by decide) dX6_wayLine_33 ?_
  refine g_ic_eq h 43 (by decide) zf dX6_wayLine_34 ?_ ?_ <;> clear zf <;> intro zf
  · refine g_iload_n h 3 rfl dX6_wayLine_43 ?_
    refine g_bipush h 6 (v := 6) (by decide) dX6_wayLine_44 ?_
    refine g_ic_eq h 62 (by decide) zf dX6_wayLine_46 ?_ ?_ <;> clear zf <;> intro zf
    · refine g_sub h [0] rfl ?_
      exact kX6_wayLine_b62 h zf
    · refine g_aload_n h 0 rfl dX6_wayLine_49 ?_
      refine gfX6_44 h (by decide : kd 3 = 5) dX6_wayLine_50 ?_
      refine gfX6_149 h (by decide : kd 27 = 9) dX6_wayLine_53 ?_
      refine g_nmI zf ?_
      clear zf; intro vq8 zf
      refine g_sipush h 10000 (v := 10000) (by decide) dX6_wayLine_56 ?_
      refine g_ic_ne h 68 (by decide) zf dX6_wayLine_59 ?_ ?_ <;> clear zf <;> intro zf
      · refine g_aload_n h 0 rfl dX6_wayLine_68 ?_
        refine gfX6_44 h (by decide : kd 3 = 5) dX6_wayLine_69 ?_
        refine gfX6_149 h (by decide : kd 27 = 9) dX6_wayLine_72 ?_
        refine g_nmI zf ?_
        clear zf; intro vq9 zf
        refine g_aload_n h 0 rfl dX6_wayLine_75 ?_
        refine gfX6_12 h (by decide : kd 3 = 5) dX6_wayLine_76 ?_
        refine g_nmR zf ?_
        clear zf; intro oq10 zf
        have zf1 := pre_ck zf
        clear zf; obtain ⟨zk_oq10, zf⟩ := zf1
        refine gfX6_95 h zk_oq10 dX6_wayLine_79 ?_
        refine g_nmI zf ?_
        clear zf; intro vq11 zf
        refine g_ic_lt h 91 (by decide) zf dX6_wayLine_82 ?_ ?_ <;> clear zf <;> intro zf
        · refine g_aload_n h 0 rfl dX6_wayLine_91 ?_
          refine gfX6_21 h (by decide : kd 3 = 5) dX6_wayLine_92 ?_
          refine gfX6_180 h (by decide : kd 21 = 2) dX6_wayLine_95 ?_
          change GG G _ _ _ _ _ (rv G.1 24 :: _) _
          refine g_iload_n h 1 rfl dX6_wayLine_98 ?_
          refine g_bipush h 6 (v := 6) (by decide) dX6_wayLine_99 ?_
          refine g_imul h dX6_wayLine_101 ?_
          refine g_iload_n h 3 rfl dX6_wayLine_102 ?_
          refine g_iadd h dX6_wayLine_103 ?_
          refine g_aload_n h 0 rfl dX6_wayLine_104 ?_
          refine gfX6_44 h (by decide : kd 3 = 5) dX6_wayLine_105 ?_
          refine gfX6_149 h (by decide : kd 27 = 9) dX6_wayLine_108 ?_
          refine g_nmI zf ?_
          clear zf; intro vq12 zf
          refine g_iast h 12 (by decide : kd 24 = 20) (by decide) zf dX6_wayLine_111 ?_
          clear zf; intro Mq13 zf
          refine g_iinc h 2 2 rfl (v := x2 + 1) (congrArg (fun z => x2 + z) (by decide : Int32.ofInt (1) = (1 : Int32))) [(2, .int (x2 + 1)), (0, rv G.1 3), (1, .int x1), (3, .int x3)] (by decide) rfl dX6_wayLine_112 ?_
          refine g_nmV zf ?_
          clear zf; intro vq14 zf
          refine g_aload_n h 1 rfl dX6_wayLine_115 ?_
          refine gfX6_44 h (by decide : kd 3 = 5) dX6_wayLine_116 ?_
          have zf1 := bd_some zf
          clear zf; obtain ⟨Mq15, zq, zf⟩ := zf1
          refine g_callVwv (As := []) (rest := []) h ceX10_step mlX6_146 imX10_step seX10_step (by rfl) (kd_lt (by rw [(by decide : kd 27 = 9)]; decide)) (ent_9 (by decide : kd 27 = 9)) rfl rfl ⟨by decide, by decide⟩ ⟨by decide, by decide⟩ rfl dX6_wayLine_119 rfl (Nat.le_of_ble_eq_true rfl) (cmX10_step zq) ?_
          refine g_iinc h 3 3 rfl (v := x3 + 1) (congrArg (fun z => x3 + z) (by decide : Int32.ofInt (1) = (1 : Int32))) [(3, .int (x3 + 1)), (2, .int vq14), (0, rv G.1 3), (1, .int x1)] (by decide) rfl dX6_wayLine_122 ?_
          refine g_nmV zf ?_
          clear zf; intro vq16 zf
          refine g_goto h 4 (by decide) dX6_wayLine_125 ?_
          refine g_sub h [2, 3, 1, 0] rfl ?_
          exact zh4 _ _ _ _ _ zf
        · refine g_aload_n h 0 rfl dX6_wayLine_85 ?_
          refine g_iconst h 3 (v := 3) (by decide) dX6_wayLine_86 ?_
          have zf1 := b2_some zf
          clear zf; obtain ⟨vq17, Mq18, zq, zf⟩ := zf1
          refine g_callVwi (As := [.int 3]) (rest := []) h ceX6_refuse mlX6_143 imX6_refuse seX6_refuse (by rfl) (kd_lt (by rw [(by decide : kd 3 = 5)]; decide)) (ent_5 (by decide : kd 3 = 5)) rfl rfl ⟨by decide, by decide⟩ ⟨by decide, by decide⟩ rfl dX6_wayLine_87 rfl (Nat.le_of_ble_eq_true rfl) (cmX6_refuse zq) ?_
          have zf1 := pre_ck zf
          clear zf; obtain ⟨zz9, zf⟩ := zf1
          obtain rfl := Option.some.inj zf
          exact g_zret h zz9 rfl ⟨rfl, rfl⟩ (Nat.le_refl _) (Nat.le_refl _) dX6_wayLine_90
      · refine g_sub h [0] rfl ?_
        exact kX6_wayLine_b62 h zf
  · refine g_aload_n h 0 rfl dX6_wayLine_37 ?_
    refine g_iconst h 1 (v := 1) (by decide) dX6_wayLine_38 ?_
    have zf1 := b2_some zf
    clear zf; obtain ⟨vq19, Mq20, zq, zf⟩ := zf1
    refine g_callVwi (As := [.int 1]) (rest := []) h ceX6_refuse mlX6_143 imX6_refuse seX6_refuse (by rfl) (kd_lt (by rw [(by decide : kd 3 = 5)]; decide)) (ent_5 (by decide : kd 3 = 5)) rfl rfl ⟨by decide, by decide⟩ ⟨by decide, by decide⟩ rfl dX6_wayLine_39 rfl (Nat.le_of_ble_eq_true rfl) (cmX6_refuse zq) ?_
    have zf1 := pre_ck zf
    clear zf; obtain ⟨zz9, zf⟩ := zf1
    obtain rfl := Option.some.inj zf
    exact g_zret h zz9 rfl ⟨rfl, rfl⟩ (Nat.le_refl _) (Nat.le_refl _) dX6_wayLine_42

theorem kX6_wayLine_l4 {G : GX} (h : OKm G cX6_wayLine RX6 4 (some .boolean) { frames := 9, cells := 0, slots := 0, locals := 224 }) : ∀ (n : Nat) (M : Mem) (x1 : Int32) (x2 : Int32) (x3 : Int32) (res : (Int32 × Mem)), fX6_wayLine_l4 n M x1 x2 x3 = some res → GG G (Qm G (Pwi res) 0 0) 0 0 4 [(0, rv G.1 3), (1, .int x1), (2, .int x2), (3, .int x3)] [] M := by
  intro n
  induction n with
  | zero => intro M x1 x2 x3 res zf; rw [fX6_wayLine_l4] at zf; cases zf
  | succ n ih =>
    intro M x1 x2 x3 res zf
    rw [fX6_wayLine_l4] at zf
    refine g_iload_n h 3 rfl dX6_wayLine_4 ?_
    refine g_bipush h 6 (v := 6) (by decide) dX6_wayLine_5 ?_
    refine g_ic_gt h 128 (by decide) zf dX6_wayLine_7 ?_ ?_ <;> clear zf <;> intro zf
    · refine g_sub h [0, 1, 2] rfl ?_
      exact kX6_wayLine_b128 h zf
    · refine g_iload_n h 3 rfl dX6_wayLine_10 ?_
      refine g_if_eq h 26 (by decide) zf dX6_wayLine_11 ?_ ?_ <;> clear zf <;> intro zf
      · refine g_sub h [0, 1, 2, 3] rfl ?_
        exact kX6_wayLine_b26 h ih zf
      · refine g_aload_n h 0 rfl dX6_wayLine_14 ?_
        refine gfX6_44 h (by decide : kd 3 = 5) dX6_wayLine_15 ?_
        refine gfX6_65 h (by decide : kd 27 = 9) dX6_wayLine_18 ?_
        refine g_nmI zf ?_
        clear zf; intro vq21 zf
        refine g_bipush h 59 (v := 59) (by decide) dX6_wayLine_21 ?_
        refine g_ic_eq h 128 (by decide) zf dX6_wayLine_23 ?_ ?_ <;> clear zf <;> intro zf
        · refine g_sub h [0, 1, 2] rfl ?_
          exact kX6_wayLine_b128 h zf
        · refine g_sub h [0, 1, 2, 3] rfl ?_
          exact kX6_wayLine_b26 h ih zf

theorem kX6_wayLine_e0 {G : GX} (h : OKm G cX6_wayLine RX6 4 (some .boolean) { frames := 9, cells := 0, slots := 0, locals := 224 }) {M : Mem} {x1 : Int32} {res : (Int32 × Mem)} (zf : fX6_wayLine M x1 = some res) : GG G (Qm G (Pwi res) 0 0) 0 0 0 [(0, rv G.1 3), (1, .int x1)] [] M := by
  unfold fX6_wayLine at zf
  refine g_iconst h 0 (v := 0) (by decide) dX6_wayLine_0 ?_
  refine g_istore_n h rfl [(2, .int 0), (0, rv G.1 3), (1, .int x1)] (by decide) rfl dX6_wayLine_1 ?_
  refine g_iconst h 0 (v := 0) (by decide) dX6_wayLine_2 ?_
  refine g_istore_n h rfl [(3, .int 0), (2, .int 0), (0, rv G.1 3), (1, .int x1)] (by decide) rfl dX6_wayLine_3 ?_
  refine g_sub h [2, 3, 1, 0] rfl ?_
  exact kX6_wayLine_l4 h _ _ _ _ _ _ zf

theorem cmX6_wayLine {l : Launch} {w : WX} {M : Mem} {x1 : Int32} {res : (Int32 × Mem)} (zf : fX6_wayLine M x1 = some res) : CM l w yX6_wayLine cX6_wayLine 4 (some .boolean) { frames := 9, cells := 0, slots := 0, locals := 224 } 0 0 [rv w 3, .int x1] M (Pwi res) := by
  refine CM_of (by decide) (Nat.le_of_ble_eq_true rfl) (fun G hw hl h => ?_)
  subst hw
  exact kX6_wayLine_e0 h zf

-- X6_termLine
theorem kX6_termLine_e0 {G : GX} (h : OKm G cX6_termLine RX6 1 (some .boolean) { frames := 9, cells := 0, slots := 0, locals := 229 }) {M : Mem} {res : (Int32 × Mem)} (zf : fX6_termLine M = some res) : GG G (Qm G (Pwi res) 0 0) 0 0 0 [(0, rv G.1 3)] [] M := by
  unfold fX6_termLine at zf
  refine g_aload_n h 0 rfl dX6_termLine_0 ?_
  refine g_iconst h 0 (v := 0) (by decide) dX6_termLine_1 ?_
  refine g_iconst h 1 (v := 1) (by decide) dX6_termLine_2 ?_
  refine g_iconst h 5 (v := 5) (by decide) dX6_termLine_3 ?_
  have zf1 := b2_some zf
  clear zf; obtain ⟨vq1, Mq2, zq, zf⟩ := zf1
  refine g_callVwi (As := [.int 0, .int 1, .int 5]) (rest := []) h ceX6_hear mlX6_152 imX6_hear seX6_hear (by rfl) (kd_lt (by rw [(by decide : kd 3 = 5)]; decide)) (ent_5 (by decide : kd 3 = 5)) rfl rfl ⟨by decide, by decide⟩ ⟨by decide, by decide⟩ rfl dX6_termLine_4 rfl (Nat.le_of_ble_eq_true rfl) (cmX6_hear zq) ?_
  refine g_if_ne h 12 (by decide) zf dX6_termLine_7 ?_ ?_ <;> clear zf <;> intro zf
  · refine g_aload_n h 0 rfl dX6_termLine_12 ?_
    refine gfX6_21 h (by decide : kd 3 = 5) dX6_termLine_13 ?_
    refine g_aload_n h 0 rfl dX6_termLine_16 ?_
    refine gfX6_35 h (by decide : kd 3 = 5) dX6_termLine_17 ?_
    refine g_iconst h 0 (v := 0) (by decide) dX6_termLine_20 ?_
    refine g_iald h 4 (by decide : kd 26 = 20) (by decide) zf dX6_termLine_21 ?_
    clear zf; intro vq3 zf
    refine pfX6_192 h (by decide : kd 21 = 2) dX6_termLine_22 ?_
    refine g_nmM zf ?_
    clear zf; intro Mq4 zf
    refine g_aload_n h 0 rfl dX6_termLine_25 ?_
    have zf1 := b2_some zf
    clear zf; obtain ⟨vq5, Mq6, zq, zf⟩ := zf1
    refine g_callVwi (As := []) (rest := []) h ceX6_close mlX6_165 imX6_close seX6_close (by rfl) (kd_lt (by rw [(by decide : kd 3 = 5)]; decide)) (ent_5 (by decide : kd 3 = 5)) rfl rfl ⟨by decide, by decide⟩ ⟨by decide, by decide⟩ rfl dX6_termLine_26 rfl (Nat.le_of_ble_eq_true rfl) (cmX6_close zq) ?_
    have zf1 := pre_ck zf
    clear zf; obtain ⟨zz9, zf⟩ := zf1
    obtain rfl := Option.some.inj zf
    exact g_zret h zz9 rfl ⟨rfl, rfl⟩ (Nat.le_refl _) (Nat.le_refl _) dX6_termLine_29
  · refine g_iconst h 0 (v := 0) (by decide) dX6_termLine_10 ?_
    obtain rfl := Option.some.inj zf
    exact g_zret h (by decide) rfl ⟨rfl, rfl⟩ (Nat.le_refl _) (Nat.le_refl _) dX6_termLine_11

theorem cmX6_termLine {l : Launch} {w : WX} {M : Mem} {res : (Int32 × Mem)} (zf : fX6_termLine M = some res) : CM l w yX6_termLine cX6_termLine 1 (some .boolean) { frames := 9, cells := 0, slots := 0, locals := 229 } 0 0 [rv w 3] M (Pwi res) := by
  refine CM_of (by decide) (Nat.le_of_ble_eq_true rfl) (fun G hw hl h => ?_)
  subst hw
  exact kX6_termLine_e0 h zf

-- X6_ruleLine
theorem kX6_ruleLine_e0 {G : GX} (h : OKm G cX6_ruleLine RX6 2 (some .boolean) { frames := 113, cells := 0, slots := 0, locals := 2735 }) {M : Mem} {x1 : Nat} {res : (Int32 × Mem)} (zf : fX6_ruleLine M x1 = some res) : GG G (Qm G (Pwi res) 0 0) 0 0 0 [(0, rv G.1 3), (1, rv G.1 x1)] [] M := by
  unfold fX6_ruleLine at zf
  have zf1 := pre_ck zf
  clear zf; obtain ⟨zk_x1, zf⟩ := zf1
  refine g_aload_n h 0 rfl dX6_ruleLine_0 ?_
  refine g_aload_n h 1 rfl dX6_ruleLine_1 ?_
  refine pfX6_52 h (by decide : kd 3 = 5) dX6_ruleLine_2 ?_
  refine g_nmM zf ?_
  clear zf; intro Mq1 zf
  refine g_aload_n h 0 rfl dX6_ruleLine_5 ?_
  refine gfX6_52 h (by decide : kd 3 = 5) dX6_ruleLine_6 ?_
  refine g_nmR zf ?_
  clear zf; intro oq2 zf
  have zf1 := pre_ck zf
  clear zf; obtain ⟨zk_oq2, zf⟩ := zf1
  refine g_aload_n h 0 rfl dX6_ruleLine_9 ?_
  refine gfX6_12 h (by decide : kd 3 = 5) dX6_ruleLine_10 ?_
  refine g_nmR zf ?_
  clear zf; intro oq3 zf
  have zf1 := pre_ck zf
  clear zf; obtain ⟨zk_oq3, zf⟩ := zf1
  refine gfX6_48 h zk_oq3 dX6_ruleLine_13 ?_
  refine gfX6_206 h (kf4_15 zk_oq3) dX6_ruleLine_16 ?_
  refine g_nmI zf ?_
  clear zf; intro vq4 zf
  refine g_aload_n h 0 rfl dX6_ruleLine_19 ?_
  refine gfX6_12 h (by decide : kd 3 = 5) dX6_ruleLine_20 ?_
  refine g_nmR zf ?_
  clear zf; intro oq5 zf
  have zf1 := pre_ck zf
  clear zf; obtain ⟨zk_oq5, zf⟩ := zf1
  refine gfX6_140 h zk_oq5 dX6_ruleLine_23 ?_
  refine gfX6_206 h (kf4_16 zk_oq5) dX6_ruleLine_26 ?_
  refine g_nmI zf ?_
  clear zf; intro vq6 zf
  refine g_mmax h mlX6_211 smMathmax initMath ceMathmax (by decide) (Nat.le_of_ble_eq_true rfl) (Nat.le_of_ble_eq_true rfl) (Nat.le_of_ble_eq_true rfl) dX6_ruleLine_29 ?_
  refine g_nmI zf ?_
  clear zf; intro vq7 zf
  have zf1 := bd_some zf
  clear zf; obtain ⟨Mq8, zq, zf⟩ := zf1
  refine g_callVwv (As := [.int vq7]) (rest := []) h ceX8_begin mlX6_217 imX8_begin seX8_begin (by rfl) (kd_lt (by rw [zk_oq2]; decide)) (ent_7 zk_oq2) rfl rfl ⟨by decide, by decide⟩ ⟨by decide, by decide⟩ rfl dX6_ruleLine_32 rfl (Nat.le_of_ble_eq_true rfl) (cmX8_begin zq) ?_
  refine g_aload_n h 0 rfl dX6_ruleLine_35 ?_
  refine g_iconst h 0 (v := 0) (by decide) dX6_ruleLine_36 ?_
  have zf1 := b2_some zf
  clear zf; obtain ⟨vq9, Mq10, zq, zf⟩ := zf1
  refine g_callVwi (As := [.int 0]) (rest := []) h ceX6_expr mlX6_220 imX6_expr seX6_expr (by rfl) (kd_lt (by rw [(by decide : kd 3 = 5)]; decide)) (ent_5 (by decide : kd 3 = 5)) rfl rfl ⟨by decide, by decide⟩ ⟨by decide, by decide⟩ rfl dX6_ruleLine_37 rfl (Nat.le_of_ble_eq_true rfl) (cmX6_expr 8 zq) ?_
  refine g_if_eq h 54 (by decide) zf dX6_ruleLine_40 ?_ ?_ <;> clear zf <;> intro zf
  · refine g_iconst h 0 (v := 0) (by decide) dX6_ruleLine_54 ?_
    obtain rfl := Option.some.inj zf
    exact g_zret h (by decide) rfl ⟨rfl, rfl⟩ (Nat.le_refl _) (Nat.le_refl _) dX6_ruleLine_55
  · refine g_aload_n h 0 rfl dX6_ruleLine_43 ?_
    have zf1 := b2_some zf
    clear zf; obtain ⟨vq11, Mq12, zq, zf⟩ := zf1
    refine g_callVwi (As := []) (rest := []) h ceX6_close mlX6_165 imX6_close seX6_close (by rfl) (kd_lt (by rw [(by decide : kd 3 = 5)]; decide)) (ent_5 (by decide : kd 3 = 5)) rfl rfl ⟨by decide, by decide⟩ ⟨by decide, by decide⟩ rfl dX6_ruleLine_44 rfl (Nat.le_of_ble_eq_true rfl) (cmX6_close zq) ?_
    refine g_if_eq h 54 (by decide) zf dX6_ruleLine_47 ?_ ?_ <;> clear zf <;> intro zf
    · refine g_iconst h 0 (v := 0) (by decide) dX6_ruleLine_54 ?_
      obtain rfl := Option.some.inj zf
      exact g_zret h (by decide) rfl ⟨rfl, rfl⟩ (Nat.le_refl _) (Nat.le_refl _) dX6_ruleLine_55
    · refine g_iconst h 1 (v := 1) (by decide) dX6_ruleLine_50 ?_
      refine g_goto h 55 (by decide) dX6_ruleLine_51 ?_
      obtain rfl := Option.some.inj zf
      exact g_zret h (by decide) rfl ⟨rfl, rfl⟩ (Nat.le_refl _) (Nat.le_refl _) dX6_ruleLine_55

theorem cmX6_ruleLine {l : Launch} {w : WX} {M : Mem} {x1 : Nat} {res : (Int32 × Mem)} (zf : fX6_ruleLine M x1 = some res) : CM l w yX6_ruleLine cX6_ruleLine 2 (some .boolean) { frames := 113, cells := 0, slots := 0, locals := 2735 } 0 0 [rv w 3, rv w x1] M (Pwi res) := by
  refine CM_of (by decide) (Nat.le_of_ble_eq_true rfl) (fun G hw hl h => ?_)
  subst hw
  exact kX6_ruleLine_e0 h zf

-- X6_line
theorem kX6_line_e0 {G : GX} (h : OKm G cX6_line RX6 1 (some .boolean) { frames := 114, cells := 0, slots := 0, locals := 2756 }) {M : Mem} {res : (Int32 × Mem)} (zf : fX6_line M = some res) : GG G (Qm G (Pwi res) 0 0) 0 0 0 [(0, rv G.1 3)] [] M := by
  unfold fX6_line at zf
  refine g_gsM h flX6_73 dX6_line_0 ?_
  refine g_aload_n h 0 rfl dX6_line_3 ?_
  refine gfX6_44 h (by decide : kd 3 = 5) dX6_line_4 ?_
  refine gfX6_78 h (by decide : kd 27 = 9) dX6_line_7 ?_
  refine g_nmR zf ?_
  clear zf; intro oq1 zf
  have zf1 := pre_ck zf
  clear zf; obtain ⟨zk_oq1, zf⟩ := zf1
  have zf1 := bd_some zf
  clear zf; obtain ⟨vq2, zq, zf⟩ := zf1
  refine g_callOrd (st := []) (rest := [rv G.1 1024]) h ceJx29ce0_ordinal_8abf5 mlX6_82 rfl sameOrd imJx29ce0_ordinal_8abf5 selOrd zk_oq1 rfl rfl ⟨by decide, by decide⟩ ⟨Nat.le_of_ble_eq_true rfl, Nat.le_of_ble_eq_true rfl⟩ dX6_line_10 (Nat.le_of_ble_eq_true rfl) (cmJe_ordinal zq) ?_
  refine g_sald h zf dX6_line_13 ?_
  clear zf; intro vq3 zf
  by_cases zx0 : vq3 = 1
  · rw [if_pos zx0] at zf
    refine g_tabIn h (off := 58) 72 (by rw [zx0]; decide) (by rw [zx0]; decide) (by rw [zx0]; decide) (by decide) dX6_line_14 ?_
    refine g_aload_n h 0 rfl dX6_line_72 ?_
    refine g_iconst h 1 (v := 1) (by decide) dX6_line_73 ?_
    have zf1 := b2_some zf
    clear zf; obtain ⟨vq4, Mq5, zq, zf⟩ := zf1
    refine g_callVwi (As := [.int 1]) (rest := []) h ceX6_once mlX6_88 imX6_once seX6_once (by rfl) (kd_lt (by rw [(by decide : kd 3 = 5)]; decide)) (ent_5 (by decide : kd 3 = 5)) rfl rfl ⟨by decide, by decide⟩ ⟨by decide, by decide⟩ rfl dX6_line_74 rfl (Nat.le_of_ble_eq_true rfl) (cmX6_once zq) ?_
    refine g_if_eq h 91 (by decide) zf dX6_line_77 ?_ ?_ <;> clear zf <;> intro zf
    · refine g_iconst h 0 (v := 0) (by decide) dX6_line_91 ?_
      obtain rfl := Option.some.inj zf
      exact g_zret h (by decide) rfl ⟨rfl, rfl⟩ (Nat.le_refl _) (Nat.le_refl _) dX6_line_92
    · refine g_aload_n h 0 rfl dX6_line_80 ?_
      have zf1 := b2_some zf
      clear zf; obtain ⟨vq6, Mq7, zq, zf⟩ := zf1
      refine g_callVwi (As := []) (rest := []) h ceX6_cityLine mlX6_92 imX6_cityLine seX6_cityLine (by rfl) (kd_lt (by rw [(by decide : kd 3 = 5)]; decide)) (ent_5 (by decide : kd 3 = 5)) rfl rfl ⟨by decide, by decide⟩ ⟨by decide, by decide⟩ rfl dX6_line_81 rfl (Nat.le_of_ble_eq_true rfl) (cmX6_cityLine zq) ?_
      refine g_if_eq h 91 (by decide) zf dX6_line_84 ?_ ?_ <;> clear zf <;> intro zf
      · refine g_iconst h 0 (v := 0) (by decide) dX6_line_91 ?_
        obtain rfl := Option.some.inj zf
        exact g_zret h (by decide) rfl ⟨rfl, rfl⟩ (Nat.le_refl _) (Nat.le_refl _) dX6_line_92
      · refine g_iconst h 1 (v := 1) (by decide) dX6_line_87 ?_
        refine g_goto h 92 (by decide) dX6_line_88 ?_
        obtain rfl := Option.some.inj zf
        exact g_zret h (by decide) rfl ⟨rfl, rfl⟩ (Nat.le_refl _) (Nat.le_refl _) dX6_line_92
  rw [if_neg zx0] at zf
  have zy0 : vq3.toInt ≠ 1 := fun q => zx0 (Int32.toInt_inj.mp (by rw [q]; rfl))
  by_cases zx1 : vq3 = 2
  · rw [if_pos zx1] at zf
    refine g_tabIn h (off := 79) 93 (by rw [zx1]; decide) (by rw [zx1]; decide) (by rw [zx1]; decide) (by decide) dX6_line_14 ?_
    refine g_aload_n h 0 rfl dX6_line_93 ?_
    refine g_aload_n h 0 rfl dX6_line_94 ?_
    refine gfX6_12 h (by decide : kd 3 = 5) dX6_line_95 ?_
    refine g_nmR zf ?_
    clear zf; intro oq8 zf
    have zf1 := pre_ck zf
    clear zf; obtain ⟨zk_oq8, zf⟩ := zf1
    refine gfX6_95 h zk_oq8 dX6_line_98 ?_
    refine g_nmI zf ?_
    clear zf; intro vq9 zf
    refine g_bipush h 7 (v := 7) (by decide) dX6_line_101 ?_
    have zf1 := b2_some zf
    clear zf; obtain ⟨vq10, Mq11, zq, zf⟩ := zf1
    refine g_callVwi (As := [.int vq9, .int 7]) (rest := []) h ceX6_below mlX6_98 imX6_below seX6_below (by rfl) (kd_lt (by rw [(by decide : kd 3 = 5)]; decide)) (ent_5 (by decide : kd 3 = 5)) rfl rfl ⟨by decide, by decide⟩ ⟨by decide, by decide⟩ rfl dX6_line_103 rfl (Nat.le_of_ble_eq_true rfl) (cmX6_below zq) ?_
    refine g_if_eq h 120 (by decide) zf dX6_line_106 ?_ ?_ <;> clear zf <;> intro zf
    · refine g_iconst h 0 (v := 0) (by decide) dX6_line_120 ?_
      obtain rfl := Option.some.inj zf
      exact g_zret h (by decide) rfl ⟨rfl, rfl⟩ (Nat.le_refl _) (Nat.le_refl _) dX6_line_121
    · refine g_aload_n h 0 rfl dX6_line_109 ?_
      have zf1 := b2_some zf
      clear zf; obtain ⟨vq12, Mq13, zq, zf⟩ := zf1
      refine g_callVwi (As := []) (rest := []) h ceX6_deedLine mlX6_102 imX6_deedLine seX6_deedLine (by rfl) (kd_lt (by rw [(by decide : kd 3 = 5)]; decide)) (ent_5 (by decide : kd 3 = 5)) rfl rfl ⟨by decide, by decide⟩ ⟨by decide, by decide⟩ rfl dX6_line_110 rfl (Nat.le_of_ble_eq_true rfl) (cmX6_deedLine zq) ?_
      refine g_if_eq h 120 (by decide) zf dX6_line_113 ?_ ?_ <;> clear zf <;> intro zf
      · refine g_iconst h 0 (v := 0) (by decide) dX6_line_120 ?_
        obtain rfl := Option.some.inj zf
        exact g_zret h (by decide) rfl ⟨rfl, rfl⟩ (Nat.le_refl _) (Nat.le_refl _) dX6_line_121
      · refine g_iconst h 1 (v := 1) (by decide) dX6_line_116 ?_
        refine g_goto h 121 (by decide) dX6_line_117 ?_
        obtain rfl := Option.some.inj zf
        exact g_zret h (by decide) rfl ⟨rfl, rfl⟩ (Nat.le_refl _) (Nat.le_refl _) dX6_line_121
  rw [if_neg zx1] at zf
  have zy1 : vq3.toInt ≠ 2 := fun q => zx1 (Int32.toInt_inj.mp (by rw [q]; rfl))
  by_cases zx2 : vq3 = 3
  · rw [if_pos zx2] at zf
    refine g_tabIn h (off := 108) 122 (by rw [zx2]; decide) (by rw [zx2]; decide) (by rw [zx2]; decide) (by decide) dX6_line_14 ?_
    refine g_aload_n h 0 rfl dX6_line_122 ?_
    refine g_iconst h 2 (v := 2) (by decide) dX6_line_123 ?_
    have zf1 := b2_some zf
    clear zf; obtain ⟨vq14, Mq15, zq, zf⟩ := zf1
    refine g_callVwi (As := [.int 2]) (rest := []) h ceX6_once mlX6_88 imX6_once seX6_once (by rfl) (kd_lt (by rw [(by decide : kd 3 = 5)]; decide)) (ent_5 (by decide : kd 3 = 5)) rfl rfl ⟨by decide, by decide⟩ ⟨by decide, by decide⟩ rfl dX6_line_124 rfl (Nat.le_of_ble_eq_true rfl) (cmX6_once zq) ?_
    refine g_if_eq h 142 (by decide) zf dX6_line_127 ?_ ?_ <;> clear zf <;> intro zf
    · refine g_iconst h 0 (v := 0) (by decide) dX6_line_142 ?_
      obtain rfl := Option.some.inj zf
      exact g_zret h (by decide) rfl ⟨rfl, rfl⟩ (Nat.le_refl _) (Nat.le_refl _) dX6_line_143
    · refine g_aload_n h 0 rfl dX6_line_130 ?_
      refine g_iconst h 0 (v := 0) (by decide) dX6_line_131 ?_
      have zf1 := b2_some zf
      clear zf; obtain ⟨vq16, Mq17, zq, zf⟩ := zf1
      refine g_callVwi (As := [.int 0]) (rest := []) h ceX6_wayLine mlX6_105 imX6_wayLine seX6_wayLine (by rfl) (kd_lt (by rw [(by decide : kd 3 = 5)]; decide)) (ent_5 (by decide : kd 3 = 5)) rfl rfl ⟨by decide, by decide⟩ ⟨by decide, by decide⟩ rfl dX6_line_132 rfl (Nat.le_of_ble_eq_true rfl) (cmX6_wayLine zq) ?_
      refine g_if_eq h 142 (by decide) zf dX6_line_135 ?_ ?_ <;> clear zf <;> intro zf
      · refine g_iconst h 0 (v := 0) (by decide) dX6_line_142 ?_
        obtain rfl := Option.some.inj zf
        exact g_zret h (by decide) rfl ⟨rfl, rfl⟩ (Nat.le_refl _) (Nat.le_refl _) dX6_line_143
      · refine g_iconst h 1 (v := 1) (by decide) dX6_line_138 ?_
        refine g_goto h 143 (by decide) dX6_line_139 ?_
        obtain rfl := Option.some.inj zf
        exact g_zret h (by decide) rfl ⟨rfl, rfl⟩ (Nat.le_refl _) (Nat.le_refl _) dX6_line_143
  rw [if_neg zx2] at zf
  have zy2 : vq3.toInt ≠ 3 := fun q => zx2 (Int32.toInt_inj.mp (by rw [q]; rfl))
  by_cases zx3 : vq3 = 4
  · rw [if_pos zx3] at zf
    refine g_tabIn h (off := 130) 144 (by rw [zx3]; decide) (by rw [zx3]; decide) (by rw [zx3]; decide) (by decide) dX6_line_14 ?_
    refine g_aload_n h 0 rfl dX6_line_144 ?_
    refine g_iconst h 4 (v := 4) (by decide) dX6_line_145 ?_
    have zf1 := b2_some zf
    clear zf; obtain ⟨vq18, Mq19, zq, zf⟩ := zf1
    refine g_callVwi (As := [.int 4]) (rest := []) h ceX6_once mlX6_88 imX6_once seX6_once (by rfl) (kd_lt (by rw [(by decide : kd 3 = 5)]; decide)) (ent_5 (by decide : kd 3 = 5)) rfl rfl ⟨by decide, by decide⟩ ⟨by decide, by decide⟩ rfl dX6_line_146 rfl (Nat.le_of_ble_eq_true rfl) (cmX6_once zq) ?_
    refine g_if_eq h 164 (by decide) zf dX6_line_149 ?_ ?_ <;> clear zf <;> intro zf
    · refine g_iconst h 0 (v := 0) (by decide) dX6_line_164 ?_
      obtain rfl := Option.some.inj zf
      exact g_zret h (by decide) rfl ⟨rfl, rfl⟩ (Nat.le_refl _) (Nat.le_refl _) dX6_line_165
    · refine g_aload_n h 0 rfl dX6_line_152 ?_
      refine g_iconst h 1 (v := 1) (by decide) dX6_line_153 ?_
      have zf1 := b2_some zf
      clear zf; obtain ⟨vq20, Mq21, zq, zf⟩ := zf1
      refine g_callVwi (As := [.int 1]) (rest := []) h ceX6_wayLine mlX6_105 imX6_wayLine seX6_wayLine (by rfl) (kd_lt (by rw [(by decide : kd 3 = 5)]; decide)) (ent_5 (by decide : kd 3 = 5)) rfl rfl ⟨by decide, by decide⟩ ⟨by decide, by decide⟩ rfl dX6_line_154 rfl (Nat.le_of_ble_eq_true rfl) (cmX6_wayLine zq) ?_
      refine g_if_eq h 164 (by decide) zf dX6_line_157 ?_ ?_ <;> clear zf <;> intro zf
      · refine g_iconst h 0 (v := 0) (by decide) dX6_line_164 ?_
        obtain rfl := Option.some.inj zf
        exact g_zret h (by decide) rfl ⟨rfl, rfl⟩ (Nat.le_refl _) (Nat.le_refl _) dX6_line_165
      · refine g_iconst h 1 (v := 1) (by decide) dX6_line_160 ?_
        refine g_goto h 165 (by decide) dX6_line_161 ?_
        obtain rfl := Option.some.inj zf
        exact g_zret h (by decide) rfl ⟨rfl, rfl⟩ (Nat.le_refl _) (Nat.le_refl _) dX6_line_165
  rw [if_neg zx3] at zf
  have zy3 : vq3.toInt ≠ 4 := fun q => zx3 (Int32.toInt_inj.mp (by rw [q]; rfl))
  by_cases zx4 : vq3 = 5
  · rw [if_pos zx4] at zf
    refine g_tabIn h (off := 152) 166 (by rw [zx4]; decide) (by rw [zx4]; decide) (by rw [zx4]; decide) (by decide) dX6_line_14 ?_
    refine g_aload_n h 0 rfl dX6_line_166 ?_
    refine g_bipush h 8 (v := 8) (by decide) dX6_line_167 ?_
    have zf1 := b2_some zf
    clear zf; obtain ⟨vq22, Mq23, zq, zf⟩ := zf1
    refine g_callVwi (As := [.int 8]) (rest := []) h ceX6_once mlX6_88 imX6_once seX6_once (by rfl) (kd_lt (by rw [(by decide : kd 3 = 5)]; decide)) (ent_5 (by decide : kd 3 = 5)) rfl rfl ⟨by decide, by decide⟩ ⟨by decide, by decide⟩ rfl dX6_line_169 rfl (Nat.le_of_ble_eq_true rfl) (cmX6_once zq) ?_
    refine g_if_eq h 186 (by decide) zf dX6_line_172 ?_ ?_ <;> clear zf <;> intro zf
    · refine g_iconst h 0 (v := 0) (by decide) dX6_line_186 ?_
      obtain rfl := Option.some.inj zf
      exact g_zret h (by decide) rfl ⟨rfl, rfl⟩ (Nat.le_refl _) (Nat.le_refl _) dX6_line_187
    · refine g_aload_n h 0 rfl dX6_line_175 ?_
      have zf1 := b2_some zf
      clear zf; obtain ⟨vq24, Mq25, zq, zf⟩ := zf1
      refine g_callVwi (As := []) (rest := []) h ceX6_harvestsLine mlX6_108 imX6_harvestsLine seX6_harvestsLine (by rfl) (kd_lt (by rw [(by decide : kd 3 = 5)]; decide)) (ent_5 (by decide : kd 3 = 5)) rfl rfl ⟨by decide, by decide⟩ ⟨by decide, by decide⟩ rfl dX6_line_176 rfl (Nat.le_of_ble_eq_true rfl) (cmX6_harvestsLine zq) ?_
      refine g_if_eq h 186 (by decide) zf dX6_line_179 ?_ ?_ <;> clear zf <;> intro zf
      · refine g_iconst h 0 (v := 0) (by decide) dX6_line_186 ?_
        obtain rfl := Option.some.inj zf
        exact g_zret h (by decide) rfl ⟨rfl, rfl⟩ (Nat.le_refl _) (Nat.le_refl _) dX6_line_187
      · refine g_iconst h 1 (v := 1) (by decide) dX6_line_182 ?_
        refine g_goto h 187 (by decide) dX6_line_183 ?_
        obtain rfl := Option.some.inj zf
        exact g_zret h (by decide) rfl ⟨rfl, rfl⟩ (Nat.le_refl _) (Nat.le_refl _) dX6_line_187
  rw [if_neg zx4] at zf
  have zy4 : vq3.toInt ≠ 5 := fun q => zx4 (Int32.toInt_inj.mp (by rw [q]; rfl))
  by_cases zx5 : vq3 = 6
  · rw [if_pos zx5] at zf
    refine g_tabIn h (off := 174) 188 (by rw [zx5]; decide) (by rw [zx5]; decide) (by rw [zx5]; decide) (by decide) dX6_line_14 ?_
    refine g_aload_n h 0 rfl dX6_line_188 ?_
    refine g_bipush h 16 (v := 16) (by decide) dX6_line_189 ?_
    have zf1 := b2_some zf
    clear zf; obtain ⟨vq26, Mq27, zq, zf⟩ := zf1
    refine g_callVwi (As := [.int 16]) (rest := []) h ceX6_once mlX6_88 imX6_once seX6_once (by rfl) (kd_lt (by rw [(by decide : kd 3 = 5)]; decide)) (ent_5 (by decide : kd 3 = 5)) rfl rfl ⟨by decide, by decide⟩ ⟨by decide, by decide⟩ rfl dX6_line_191 rfl (Nat.le_of_ble_eq_true rfl) (cmX6_once zq) ?_
    refine g_if_eq h 208 (by decide) zf dX6_line_194 ?_ ?_ <;> clear zf <;> intro zf
    · refine g_iconst h 0 (v := 0) (by decide) dX6_line_208 ?_
      obtain rfl := Option.some.inj zf
      exact g_zret h (by decide) rfl ⟨rfl, rfl⟩ (Nat.le_refl _) (Nat.le_refl _) dX6_line_209
    · refine g_aload_n h 0 rfl dX6_line_197 ?_
      have zf1 := b2_some zf
      clear zf; obtain ⟨vq28, Mq29, zq, zf⟩ := zf1
      refine g_callVwi (As := []) (rest := []) h ceX6_termLine mlX6_111 imX6_termLine seX6_termLine (by rfl) (kd_lt (by rw [(by decide : kd 3 = 5)]; decide)) (ent_5 (by decide : kd 3 = 5)) rfl rfl ⟨by decide, by decide⟩ ⟨by decide, by decide⟩ rfl dX6_line_198 rfl (Nat.le_of_ble_eq_true rfl) (cmX6_termLine zq) ?_
      refine g_if_eq h 208 (by decide) zf dX6_line_201 ?_ ?_ <;> clear zf <;> intro zf
      · refine g_iconst h 0 (v := 0) (by decide) dX6_line_208 ?_
        obtain rfl := Option.some.inj zf
        exact g_zret h (by decide) rfl ⟨rfl, rfl⟩ (Nat.le_refl _) (Nat.le_refl _) dX6_line_209
      · refine g_iconst h 1 (v := 1) (by decide) dX6_line_204 ?_
        refine g_goto h 209 (by decide) dX6_line_205 ?_
        obtain rfl := Option.some.inj zf
        exact g_zret h (by decide) rfl ⟨rfl, rfl⟩ (Nat.le_refl _) (Nat.le_refl _) dX6_line_209
  rw [if_neg zx5] at zf
  have zy5 : vq3.toInt ≠ 6 := fun q => zx5 (Int32.toInt_inj.mp (by rw [q]; rfl))
  by_cases zx6 : vq3 = 7
  · rw [if_pos zx6] at zf
    refine g_tabIn h (off := 196) 210 (by rw [zx6]; decide) (by rw [zx6]; decide) (by rw [zx6]; decide) (by decide) dX6_line_14 ?_
    refine g_aload_n h 0 rfl dX6_line_210 ?_
    refine g_aload_n h 0 rfl dX6_line_211 ?_
    refine gfX6_12 h (by decide : kd 3 = 5) dX6_line_212 ?_
    refine g_nmR zf ?_
    clear zf; intro oq30 zf
    have zf1 := pre_ck zf
    clear zf; obtain ⟨zk_oq30, zf⟩ := zf1
    refine gfX6_114 h zk_oq30 dX6_line_215 ?_
    refine g_nmI zf ?_
    clear zf; intro vq31 zf
    refine g_bipush h 6 (v := 6) (by decide) dX6_line_218 ?_
    have zf1 := b2_some zf
    clear zf; obtain ⟨vq32, Mq33, zq, zf⟩ := zf1
    refine g_callVwi (As := [.int vq31, .int 6]) (rest := []) h ceX6_below mlX6_98 imX6_below seX6_below (by rfl) (kd_lt (by rw [(by decide : kd 3 = 5)]; decide)) (ent_5 (by decide : kd 3 = 5)) rfl rfl ⟨by decide, by decide⟩ ⟨by decide, by decide⟩ rfl dX6_line_220 rfl (Nat.le_of_ble_eq_true rfl) (cmX6_below zq) ?_
    refine g_if_eq h 237 (by decide) zf dX6_line_223 ?_ ?_ <;> clear zf <;> intro zf
    · refine g_iconst h 0 (v := 0) (by decide) dX6_line_237 ?_
      obtain rfl := Option.some.inj zf
      exact g_zret h (by decide) rfl ⟨rfl, rfl⟩ (Nat.le_refl _) (Nat.le_refl _) dX6_line_238
    · refine g_aload_n h 0 rfl dX6_line_226 ?_
      have zf1 := b2_some zf
      clear zf; obtain ⟨vq34, Mq35, zq, zf⟩ := zf1
      refine g_callVwi (As := []) (rest := []) h ceX6_friendLine mlX6_117 imX6_friendLine seX6_friendLine (by rfl) (kd_lt (by rw [(by decide : kd 3 = 5)]; decide)) (ent_5 (by decide : kd 3 = 5)) rfl rfl ⟨by decide, by decide⟩ ⟨by decide, by decide⟩ rfl dX6_line_227 rfl (Nat.le_of_ble_eq_true rfl) (cmX6_friendLine zq) ?_
      refine g_if_eq h 237 (by decide) zf dX6_line_230 ?_ ?_ <;> clear zf <;> intro zf
      · refine g_iconst h 0 (v := 0) (by decide) dX6_line_237 ?_
        obtain rfl := Option.some.inj zf
        exact g_zret h (by decide) rfl ⟨rfl, rfl⟩ (Nat.le_refl _) (Nat.le_refl _) dX6_line_238
      · refine g_iconst h 1 (v := 1) (by decide) dX6_line_233 ?_
        refine g_goto h 238 (by decide) dX6_line_234 ?_
        obtain rfl := Option.some.inj zf
        exact g_zret h (by decide) rfl ⟨rfl, rfl⟩ (Nat.le_refl _) (Nat.le_refl _) dX6_line_238
  rw [if_neg zx6] at zf
  have zy6 : vq3.toInt ≠ 7 := fun q => zx6 (Int32.toInt_inj.mp (by rw [q]; rfl))
  by_cases zx7 : vq3 = 8
  · rw [if_pos zx7] at zf
    refine g_tabIn h (off := 225) 239 (by rw [zx7]; decide) (by rw [zx7]; decide) (by rw [zx7]; decide) (by decide) dX6_line_14 ?_
    refine g_aload_n h 0 rfl dX6_line_239 ?_
    refine g_aload_n h 0 rfl dX6_line_240 ?_
    refine gfX6_12 h (by decide : kd 3 = 5) dX6_line_241 ?_
    refine g_nmR zf ?_
    clear zf; intro oq36 zf
    have zf1 := pre_ck zf
    clear zf; obtain ⟨zk_oq36, zf⟩ := zf1
    refine gfX6_120 h zk_oq36 dX6_line_244 ?_
    refine gfX6_124 h (kf4_8 zk_oq36) dX6_line_247 ?_
    refine g_nmI zf ?_
    clear zf; intro vq37 zf
    refine g_bipush h 7 (v := 7) (by decide) dX6_line_250 ?_
    have zf1 := b2_some zf
    clear zf; obtain ⟨vq38, Mq39, zq, zf⟩ := zf1
    refine g_callVwi (As := [.int vq37, .int 7]) (rest := []) h ceX6_below mlX6_98 imX6_below seX6_below (by rfl) (kd_lt (by rw [(by decide : kd 3 = 5)]; decide)) (ent_5 (by decide : kd 3 = 5)) rfl rfl ⟨by decide, by decide⟩ ⟨by decide, by decide⟩ rfl dX6_line_252 rfl (Nat.le_of_ble_eq_true rfl) (cmX6_below zq) ?_
    refine g_if_eq h 276 (by decide) zf dX6_line_255 ?_ ?_ <;> clear zf <;> intro zf
    · refine g_iconst h 0 (v := 0) (by decide) dX6_line_276 ?_
      obtain rfl := Option.some.inj zf
      exact g_zret h (by decide) rfl ⟨rfl, rfl⟩ (Nat.le_refl _) (Nat.le_refl _) dX6_line_277
    · refine g_aload_n h 0 rfl dX6_line_258 ?_
      refine g_aload_n h 0 rfl dX6_line_259 ?_
      refine gfX6_12 h (by decide : kd 3 = 5) dX6_line_260 ?_
      refine g_nmR zf ?_
      clear zf; intro oq40 zf
      have zf1 := pre_ck zf
      clear zf; obtain ⟨zk_oq40, zf⟩ := zf1
      refine gfX6_120 h zk_oq40 dX6_line_263 ?_
      have zf1 := b2_some zf
      clear zf; obtain ⟨vq41, Mq42, zq, zf⟩ := zf1
      refine g_callVwi (As := [rv G.1 (oq40 + 8)]) (rest := []) h ceX6_fighterLine mlX6_129 imX6_fighterLine seX6_fighterLine (by rfl) (kd_lt (by rw [(by decide : kd 3 = 5)]; decide)) (ent_5 (by decide : kd 3 = 5)) rfl rfl ⟨by decide, by decide⟩ ⟨by decide, by decide⟩ rfl dX6_line_266 rfl (Nat.le_of_ble_eq_true rfl) (cmX6_fighterLine zq) ?_
      refine g_if_eq h 276 (by decide) zf dX6_line_269 ?_ ?_ <;> clear zf <;> intro zf
      · refine g_iconst h 0 (v := 0) (by decide) dX6_line_276 ?_
        obtain rfl := Option.some.inj zf
        exact g_zret h (by decide) rfl ⟨rfl, rfl⟩ (Nat.le_refl _) (Nat.le_refl _) dX6_line_277
      · refine g_iconst h 1 (v := 1) (by decide) dX6_line_272 ?_
        refine g_goto h 277 (by decide) dX6_line_273 ?_
        obtain rfl := Option.some.inj zf
        exact g_zret h (by decide) rfl ⟨rfl, rfl⟩ (Nat.le_refl _) (Nat.le_refl _) dX6_line_277
  rw [if_neg zx7] at zf
  have zy7 : vq3.toInt ≠ 8 := fun q => zx7 (Int32.toInt_inj.mp (by rw [q]; rfl))
  by_cases zx8 : vq3 = 9
  · rw [if_pos zx8] at zf
    refine g_tabIn h (off := 264) 278 (by rw [zx8]; decide) (by rw [zx8]; decide) (by rw [zx8]; decide) (by decide) dX6_line_14 ?_
    refine g_aload_n h 0 rfl dX6_line_278 ?_
    refine g_aload_n h 0 rfl dX6_line_279 ?_
    refine gfX6_12 h (by decide : kd 3 = 5) dX6_line_280 ?_
    refine g_nmR zf ?_
    clear zf; intro oq43 zf
    have zf1 := pre_ck zf
    clear zf; obtain ⟨zk_oq43, zf⟩ := zf1
    refine gfX6_133 h zk_oq43 dX6_line_283 ?_
    refine gfX6_124 h (kf4_11 zk_oq43) dX6_line_286 ?_
    refine g_nmI zf ?_
    clear zf; intro vq44 zf
    refine g_bipush h 7 (v := 7) (by decide) dX6_line_289 ?_
    have zf1 := b2_some zf
    clear zf; obtain ⟨vq45, Mq46, zq, zf⟩ := zf1
    refine g_callVwi (As := [.int vq44, .int 7]) (rest := []) h ceX6_below mlX6_98 imX6_below seX6_below (by rfl) (kd_lt (by rw [(by decide : kd 3 = 5)]; decide)) (ent_5 (by decide : kd 3 = 5)) rfl rfl ⟨by decide, by decide⟩ ⟨by decide, by decide⟩ rfl dX6_line_291 rfl (Nat.le_of_ble_eq_true rfl) (cmX6_below zq) ?_
    refine g_if_eq h 315 (by decide) zf dX6_line_294 ?_ ?_ <;> clear zf <;> intro zf
    · refine g_iconst h 0 (v := 0) (by decide) dX6_line_315 ?_
      obtain rfl := Option.some.inj zf
      exact g_zret h (by decide) rfl ⟨rfl, rfl⟩ (Nat.le_refl _) (Nat.le_refl _) dX6_line_316
    · refine g_aload_n h 0 rfl dX6_line_297 ?_
      refine g_aload_n h 0 rfl dX6_line_298 ?_
      refine gfX6_12 h (by decide : kd 3 = 5) dX6_line_299 ?_
      refine g_nmR zf ?_
      clear zf; intro oq47 zf
      have zf1 := pre_ck zf
      clear zf; obtain ⟨zk_oq47, zf⟩ := zf1
      refine gfX6_133 h zk_oq47 dX6_line_302 ?_
      have zf1 := b2_some zf
      clear zf; obtain ⟨vq48, Mq49, zq, zf⟩ := zf1
      refine g_callVwi (As := [rv G.1 (oq47 + 11)]) (rest := []) h ceX6_fighterLine mlX6_129 imX6_fighterLine seX6_fighterLine (by rfl) (kd_lt (by rw [(by decide : kd 3 = 5)]; decide)) (ent_5 (by decide : kd 3 = 5)) rfl rfl ⟨by decide, by decide⟩ ⟨by decide, by decide⟩ rfl dX6_line_305 rfl (Nat.le_of_ble_eq_true rfl) (cmX6_fighterLine zq) ?_
      refine g_if_eq h 315 (by decide) zf dX6_line_308 ?_ ?_ <;> clear zf <;> intro zf
      · refine g_iconst h 0 (v := 0) (by decide) dX6_line_315 ?_
        obtain rfl := Option.some.inj zf
        exact g_zret h (by decide) rfl ⟨rfl, rfl⟩ (Nat.le_refl _) (Nat.le_refl _) dX6_line_316
      · refine g_iconst h 1 (v := 1) (by decide) dX6_line_311 ?_
        refine g_goto h 316 (by decide) dX6_line_312 ?_
        obtain rfl := Option.some.inj zf
        exact g_zret h (by decide) rfl ⟨rfl, rfl⟩ (Nat.le_refl _) (Nat.le_refl _) dX6_line_316
  rw [if_neg zx8] at zf
  have zy8 : vq3.toInt ≠ 9 := fun q => zx8 (Int32.toInt_inj.mp (by rw [q]; rfl))
  by_cases zx9 : vq3 = 10
  · rw [if_pos zx9] at zf
    refine g_tabIn h (off := 303) 317 (by rw [zx9]; decide) (by rw [zx9]; decide) (by rw [zx9]; decide) (by decide) dX6_line_14 ?_
    refine g_aload_n h 0 rfl dX6_line_317 ?_
    refine g_bipush h 32 (v := 32) (by decide) dX6_line_318 ?_
    have zf1 := b2_some zf
    clear zf; obtain ⟨vq50, Mq51, zq, zf⟩ := zf1
    refine g_callVwi (As := [.int 32]) (rest := []) h ceX6_once mlX6_88 imX6_once seX6_once (by rfl) (kd_lt (by rw [(by decide : kd 3 = 5)]; decide)) (ent_5 (by decide : kd 3 = 5)) rfl rfl ⟨by decide, by decide⟩ ⟨by decide, by decide⟩ rfl dX6_line_320 rfl (Nat.le_of_ble_eq_true rfl) (cmX6_once zq) ?_
    refine g_if_eq h 344 (by decide) zf dX6_line_323 ?_ ?_ <;> clear zf <;> intro zf
    · refine g_iconst h 0 (v := 0) (by decide) dX6_line_344 ?_
      obtain rfl := Option.some.inj zf
      exact g_zret h (by decide) rfl ⟨rfl, rfl⟩ (Nat.le_refl _) (Nat.le_refl _) dX6_line_345
    · refine g_aload_n h 0 rfl dX6_line_326 ?_
      refine g_aload_n h 0 rfl dX6_line_327 ?_
      refine gfX6_12 h (by decide : kd 3 = 5) dX6_line_328 ?_
      refine g_nmR zf ?_
      clear zf; intro oq52 zf
      have zf1 := pre_ck zf
      clear zf; obtain ⟨zk_oq52, zf⟩ := zf1
      refine gfX6_48 h zk_oq52 dX6_line_331 ?_
      have zf1 := b2_some zf
      clear zf; obtain ⟨vq53, Mq54, zq, zf⟩ := zf1
      refine g_callVwi (As := [rv G.1 (oq52 + 15)]) (rest := []) h ceX6_ruleLine mlX6_136 imX6_ruleLine seX6_ruleLine (by rfl) (kd_lt (by rw [(by decide : kd 3 = 5)]; decide)) (ent_5 (by decide : kd 3 = 5)) rfl rfl ⟨by decide, by decide⟩ ⟨by decide, by decide⟩ rfl dX6_line_334 rfl (Nat.le_of_ble_eq_true rfl) (cmX6_ruleLine zq) ?_
      refine g_if_eq h 344 (by decide) zf dX6_line_337 ?_ ?_ <;> clear zf <;> intro zf
      · refine g_iconst h 0 (v := 0) (by decide) dX6_line_344 ?_
        obtain rfl := Option.some.inj zf
        exact g_zret h (by decide) rfl ⟨rfl, rfl⟩ (Nat.le_refl _) (Nat.le_refl _) dX6_line_345
      · refine g_iconst h 1 (v := 1) (by decide) dX6_line_340 ?_
        refine g_goto h 345 (by decide) dX6_line_341 ?_
        obtain rfl := Option.some.inj zf
        exact g_zret h (by decide) rfl ⟨rfl, rfl⟩ (Nat.le_refl _) (Nat.le_refl _) dX6_line_345
  rw [if_neg zx9] at zf
  have zy9 : vq3.toInt ≠ 10 := fun q => zx9 (Int32.toInt_inj.mp (by rw [q]; rfl))
  by_cases zx10 : vq3 = 11
  · rw [if_pos zx10] at zf
    refine g_tabIn h (off := 332) 346 (by rw [zx10]; decide) (by rw [zx10]; decide) (by rw [zx10]; decide) (by decide) dX6_line_14 ?_
    refine g_aload_n h 0 rfl dX6_line_346 ?_
    refine g_bipush h 64 (v := 64) (by decide) dX6_line_347 ?_
    have zf1 := b2_some zf
    clear zf; obtain ⟨vq55, Mq56, zq, zf⟩ := zf1
    refine g_callVwi (As := [.int 64]) (rest := []) h ceX6_once mlX6_88 imX6_once seX6_once (by rfl) (kd_lt (by rw [(by decide : kd 3 = 5)]; decide)) (ent_5 (by decide : kd 3 = 5)) rfl rfl ⟨by decide, by decide⟩ ⟨by decide, by decide⟩ rfl dX6_line_349 rfl (Nat.le_of_ble_eq_true rfl) (cmX6_once zq) ?_
    refine g_if_eq h 373 (by decide) zf dX6_line_352 ?_ ?_ <;> clear zf <;> intro zf
    · refine g_iconst h 0 (v := 0) (by decide) dX6_line_373 ?_
      obtain rfl := Option.some.inj zf
      exact g_zret h (by decide) rfl ⟨rfl, rfl⟩ (Nat.le_refl _) (Nat.le_refl _) dX6_line_374
    · refine g_aload_n h 0 rfl dX6_line_355 ?_
      refine g_aload_n h 0 rfl dX6_line_356 ?_
      refine gfX6_12 h (by decide : kd 3 = 5) dX6_line_357 ?_
      refine g_nmR zf ?_
      clear zf; intro oq57 zf
      have zf1 := pre_ck zf
      clear zf; obtain ⟨zk_oq57, zf⟩ := zf1
      refine gfX6_140 h zk_oq57 dX6_line_360 ?_
      have zf1 := b2_some zf
      clear zf; obtain ⟨vq58, Mq59, zq, zf⟩ := zf1
      refine g_callVwi (As := [rv G.1 (oq57 + 16)]) (rest := []) h ceX6_ruleLine mlX6_136 imX6_ruleLine seX6_ruleLine (by rfl) (kd_lt (by rw [(by decide : kd 3 = 5)]; decide)) (ent_5 (by decide : kd 3 = 5)) rfl rfl ⟨by decide, by decide⟩ ⟨by decide, by decide⟩ rfl dX6_line_363 rfl (Nat.le_of_ble_eq_true rfl) (cmX6_ruleLine zq) ?_
      refine g_if_eq h 373 (by decide) zf dX6_line_366 ?_ ?_ <;> clear zf <;> intro zf
      · refine g_iconst h 0 (v := 0) (by decide) dX6_line_373 ?_
        obtain rfl := Option.some.inj zf
        exact g_zret h (by decide) rfl ⟨rfl, rfl⟩ (Nat.le_refl _) (Nat.le_refl _) dX6_line_374
      · refine g_iconst h 1 (v := 1) (by decide) dX6_line_369 ?_
        refine g_goto h 374 (by decide) dX6_line_370 ?_
        obtain rfl := Option.some.inj zf
        exact g_zret h (by decide) rfl ⟨rfl, rfl⟩ (Nat.le_refl _) (Nat.le_refl _) dX6_line_374
  rw [if_neg zx10] at zf
  have zy10 : vq3.toInt ≠ 11 := fun q => zx10 (Int32.toInt_inj.mp (by rw [q]; rfl))
  refine g_tabOut h 375 (by omega) (by decide) dX6_line_14 ?_
  refine g_aload_n h 0 rfl dX6_line_375 ?_
  refine g_iconst h 1 (v := 1) (by decide) dX6_line_376 ?_
  have zf1 := b2_some zf
  clear zf; obtain ⟨vq60, Mq61, zq, zf⟩ := zf1
  refine g_callVwi (As := [.int 1]) (rest := []) h ceX6_refuse mlX6_143 imX6_refuse seX6_refuse (by rfl) (kd_lt (by rw [(by decide : kd 3 = 5)]; decide)) (ent_5 (by decide : kd 3 = 5)) rfl rfl ⟨by decide, by decide⟩ ⟨by decide, by decide⟩ rfl dX6_line_377 rfl (Nat.le_of_ble_eq_true rfl) (cmX6_refuse zq) ?_
  have zf1 := pre_ck zf
  clear zf; obtain ⟨zz9, zf⟩ := zf1
  obtain rfl := Option.some.inj zf
  exact g_zret h zz9 rfl ⟨rfl, rfl⟩ (Nat.le_refl _) (Nat.le_refl _) dX6_line_380

theorem cmX6_line {l : Launch} {w : WX} {M : Mem} {res : (Int32 × Mem)} (zf : fX6_line M = some res) : CM l w yX6_line cX6_line 1 (some .boolean) { frames := 114, cells := 0, slots := 0, locals := 2756 } 0 0 [rv w 3] M (Pwi res) := by
  refine CM_of (by decide) (Nat.le_of_ble_eq_true rfl) (fun G hw hl h => ?_)
  subst hw
  exact kX6_line_e0 h zf

-- X10_open
theorem kX10_open_e0 {G : GX} (h : OKm G cX10_open RX10 2 none { frames := 8, cells := 0, slots := 0, locals := 204 }) {M : Mem} {x1 : Int32} {res : Mem} (zf : fX10_open M x1 = some res) : GG G (Qm G (Pwv res) 0 0) 0 0 0 [(0, rv G.1 27), (1, .int x1)] [] M := by
  unfold fX10_open at zf
  refine g_aload_n h 0 rfl dX10_open_0 ?_
  refine g_iload_n h 1 rfl dX10_open_1 ?_
  refine g_aload_n h 0 rfl dX10_open_2 ?_
  refine gfX10_34 h (by decide : kd 27 = 9) dX10_open_3 ?_
  refine g_blen h 700 (z := 700) (by decide : kd 1 = 21) (by decide) (by decide) dX10_open_6 ?_
  refine g_mmin h mlX10_38 smMathmin initMath ceMathmin (by decide) (Nat.le_of_ble_eq_true rfl) (Nat.le_of_ble_eq_true rfl) (Nat.le_of_ble_eq_true rfl) dX10_open_7 ?_
  refine g_nmI zf ?_
  clear zf; intro vq1 zf
  refine pfX10_7 h (by decide : kd 27 = 9) dX10_open_10 ?_
  refine g_nmM zf ?_
  clear zf; intro Mq2 zf
  refine g_aload_n h 0 rfl dX10_open_13 ?_
  refine g_iconst h 0 (v := 0) (by decide) dX10_open_14 ?_
  refine pfX10_13 h (by decide : kd 27 = 9) dX10_open_15 ?_
  refine g_nmM zf ?_
  clear zf; intro Mq3 zf
  refine g_aload_n h 0 rfl dX10_open_18 ?_
  have zf1 := bd_some zf
  clear zf; obtain ⟨Mq4, zq, zf⟩ := zf1
  refine g_callVwv (As := []) (rest := []) h ceX10_step mlX10_44 imX10_step seX10_step (by rfl) (kd_lt (by rw [(by decide : kd 27 = 9)]; decide)) (ent_9 (by decide : kd 27 = 9)) rfl rfl ⟨by decide, by decide⟩ ⟨by decide, by decide⟩ rfl dX10_open_19 rfl (Nat.le_of_ble_eq_true rfl) (cmX10_step zq) ?_
  obtain rfl := Option.some.inj zf
  exact g_vret h rfl ⟨rfl, rfl⟩ (Nat.le_refl _) (Nat.le_refl _) dX10_open_22

theorem cmX10_open {l : Launch} {w : WX} {M : Mem} {x1 : Int32} {res : Mem} (zf : fX10_open M x1 = some res) : CM l w yX10_open cX10_open 2 none { frames := 8, cells := 0, slots := 0, locals := 204 } 0 0 [rv w 27, .int x1] M (Pwv res) := by
  refine CM_of (by decide) (Nat.le_of_ble_eq_true rfl) (fun G hw hl h => ?_)
  subst hw
  exact kX10_open_e0 h zf

-- X6_parse
theorem kX6_parse_l34 {G : GX} (h : OKm G cX6_parse RX6 3 (some .int) { frames := 115, cells := 0, slots := 0, locals := 2776 }) : ∀ (n : Nat) (M : Mem) (x2 : Int32) (res : (Int32 × Mem)), fX6_parse_l34 n M x2 = some res → GG G (Qm G (Pwi res) 0 0) 0 0 34 [(0, rv G.1 3), (2, .int x2)] [] M := by
  intro n
  induction n with
  | zero => intro M x2 res zf; rw [fX6_parse_l34] at zf; cases zf
  | succ n ih =>
    intro M x2 res zf
    rw [fX6_parse_l34] at zf
    refine g_iload_n h 1 rfl dX6_parse_34 ?_
    refine g_sipush h 700 (v := 700) (by decide) dX6_parse_35 ?_
    refine g_ic_gt h 69 (by decide) zf dX6_parse_38 ?_ ?_ <;> clear zf <;> intro zf
    · refine g_iconst h 0 (v := 0) (by decide) dX6_parse_69 ?_
      obtain rfl := Option.some.inj zf
      exact g_iret h rfl ⟨rfl, rfl⟩ (Nat.le_refl _) (Nat.le_refl _) dX6_parse_70
    · refine g_aload_n h 0 rfl dX6_parse_41 ?_
      refine gfX6_44 h (by decide : kd 3 = 5) dX6_parse_42 ?_
      refine gfX6_65 h (by decide : kd 27 = 9) dX6_parse_45 ?_
      refine g_nmI zf ?_
      clear zf; intro vq7 zf
      refine g_if_eq h 69 (by decide) zf dX6_parse_48 ?_ ?_ <;> clear zf <;> intro zf
      · refine g_iconst h 0 (v := 0) (by decide) dX6_parse_69 ?_
        obtain rfl := Option.some.inj zf
        exact g_iret h rfl ⟨rfl, rfl⟩ (Nat.le_refl _) (Nat.le_refl _) dX6_parse_70
      · refine g_aload_n h 0 rfl dX6_parse_51 ?_
        have zf1 := b2_some zf
        clear zf; obtain ⟨vq8, Mq9, zq, zf⟩ := zf1
        refine g_callVwi (As := []) (rest := []) h ceX6_line mlX6_68 imX6_line seX6_line (by rfl) (kd_lt (by rw [(by decide : kd 3 = 5)]; decide)) (ent_5 (by decide : kd 3 = 5)) rfl rfl ⟨by decide, by decide⟩ ⟨by decide, by decide⟩ rfl dX6_parse_52 rfl (Nat.le_of_ble_eq_true rfl) (cmX6_line zq) ?_
        refine g_if_ne h 63 (by decide) zf dX6_parse_55 ?_ ?_ <;> clear zf <;> intro zf
        · refine g_iinc h 2 1 rfl (v := x2 + 1) (congrArg (fun z => x2 + z) (by decide : Int32.ofInt (1) = (1 : Int32))) [(2, .int (x2 + 1)), (0, rv G.1 3)] (by decide) rfl dX6_parse_63 ?_
          refine g_nmV zf ?_
          clear zf; intro vq10 zf
          refine g_goto h 34 (by decide) dX6_parse_66 ?_
          refine g_sub h [1, 0] rfl ?_
          exact ih _ _ _ zf
        · refine g_aload_n h 0 rfl dX6_parse_58 ?_
          refine gfX6_25 h (by decide : kd 3 = 5) dX6_parse_59 ?_
          refine g_nmI zf ?_
          clear zf; intro vq11 zf
          obtain rfl := Option.some.inj zf
          exact g_iret h rfl ⟨rfl, rfl⟩ (Nat.le_refl _) (Nat.le_refl _) dX6_parse_62

theorem kX6_parse_e0 {G : GX} (h : OKm G cX6_parse RX6 3 (some .int) { frames := 115, cells := 0, slots := 0, locals := 2776 }) {M : Mem} {x1 : Int32} {res : (Int32 × Mem)} (zf : fX6_parse M x1 = some res) : GG G (Qm G (Pwi res) 0 0) 0 0 0 [(0, rv G.1 3), (1, .int x1)] [] M := by
  unfold fX6_parse at zf
  refine g_aload_n h 0 rfl dX6_parse_0 ?_
  refine gfX6_12 h (by decide : kd 3 = 5) dX6_parse_1 ?_
  refine g_nmR zf ?_
  clear zf; intro oq1 zf
  have zf1 := pre_ck zf
  clear zf; obtain ⟨zk_oq1, zf⟩ := zf1
  have zf1 := bd_some zf
  clear zf; obtain ⟨Mq2, zq, zf⟩ := zf1
  refine g_callVwv (As := []) (rest := []) h ceX5_clear mlX6_55 imX5_clear seX5_clear (by rfl) (kd_lt (by rw [zk_oq1]; decide)) (ent_4 zk_oq1) rfl rfl ⟨by decide, by decide⟩ ⟨by decide, by decide⟩ rfl dX6_parse_4 rfl (Nat.le_of_ble_eq_true rfl) (cmX5_clear zq) ?_
  refine g_aload_n h 0 rfl dX6_parse_7 ?_
  refine gfX6_21 h (by decide : kd 3 = 5) dX6_parse_8 ?_
  have zf1 := bd_some zf
  clear zf; obtain ⟨Mq3, zq, zf⟩ := zf1
  refine g_callVwv (As := []) (rest := []) h ceX3_found mlX6_58 imX3_found seX3_found (by rfl) (kd_lt (by rw [(by decide : kd 21 = 2)]; decide)) (ent_2 (by decide : kd 21 = 2)) rfl rfl ⟨by decide, by decide⟩ ⟨by decide, by decide⟩ rfl dX6_parse_11 rfl (Nat.le_of_ble_eq_true rfl) (cmX3_found zq) ?_
  refine g_aload_n h 0 rfl dX6_parse_14 ?_
  refine g_iconst h 0 (v := 0) (by decide) dX6_parse_15 ?_
  refine pfX6_25 h (by decide : kd 3 = 5) dX6_parse_16 ?_
  refine g_nmM zf ?_
  clear zf; intro Mq4 zf
  refine g_aload_n h 0 rfl dX6_parse_19 ?_
  refine g_iconst h 0 (v := 0) (by decide) dX6_parse_20 ?_
  refine pfX6_32 h (by decide : kd 3 = 5) dX6_parse_21 ?_
  refine g_nmM zf ?_
  clear zf; intro Mq5 zf
  refine g_aload_n h 0 rfl dX6_parse_24 ?_
  refine gfX6_44 h (by decide : kd 3 = 5) dX6_parse_25 ?_
  refine g_iload_n h 1 rfl dX6_parse_28 ?_
  have zf1 := bd_some zf
  clear zf; obtain ⟨Mq6, zq, zf⟩ := zf1
  refine g_callVwv (As := [.int x1]) (rest := []) h ceX10_open mlX6_61 imX10_open seX10_open (by rfl) (kd_lt (by rw [(by decide : kd 27 = 9)]; decide)) (ent_9 (by decide : kd 27 = 9)) rfl rfl ⟨by decide, by decide⟩ ⟨by decide, by decide⟩ rfl dX6_parse_29 rfl (Nat.le_of_ble_eq_true rfl) (cmX10_open zq) ?_
  refine g_iconst h 0 (v := 0) (by decide) dX6_parse_32 ?_
  refine g_istore_n h rfl [(2, .int 0), (0, rv G.1 3), (1, .int x1)] (by decide) rfl dX6_parse_33 ?_
  refine g_sub h [1, 0] rfl ?_
  exact kX6_parse_l34 h _ _ _ _ zf

theorem cmX6_parse {l : Launch} {w : WX} {M : Mem} {x1 : Int32} {res : (Int32 × Mem)} (zf : fX6_parse M x1 = some res) : CM l w yX6_parse cX6_parse 3 (some .int) { frames := 115, cells := 0, slots := 0, locals := 2776 } 0 0 [rv w 3, .int x1] M (Pwi res) := by
  refine CM_of (by decide) (Nat.le_of_ble_eq_true rfl) (fun G hw hl h => ?_)
  subst hw
  exact kX6_parse_e0 h zf

-- X7_passAlone
theorem kX7_passAlone_e0 {G : GX} (h : OKm G cX7_passAlone RX7 2 none { frames := 7, cells := 0, slots := 0, locals := 182 }) {M : Mem} {x1 : Nat} {res : Mem} (zf : fX7_passAlone M x1 = some res) : GG G (Qm G (Pwv res) 0 0) 0 0 0 [(0, rv G.1 28), (1, rv G.1 x1)] [] M := by
  unfold fX7_passAlone at zf
  have zf1 := pre_ck zf
  clear zf; obtain ⟨zk_x1, zf⟩ := zf1
  refine g_aload_n h 0 rfl dX7_passAlone_0 ?_
  refine g_aload_n h 1 rfl dX7_passAlone_1 ?_
  refine g_aload_n h 0 rfl dX7_passAlone_2 ?_
  refine g_aload_n h 1 rfl dX7_passAlone_3 ?_
  refine gfX7_48 h zk_x1 dX7_passAlone_4 ?_
  refine g_nmI zf ?_
  clear zf; intro vq1 zf
  have zf1 := bd_some zf
  clear zf; obtain ⟨vq2, zq, zf⟩ := zf1
  refine g_callVri (As := [.int vq1]) (rest := [rv G.1 x1, rv G.1 28]) h ceX7_harvestOf mlX7_51 imX7_harvestOf seX7_harvestOf (by rfl) (kd_lt (by rw [(by decide : kd 28 = 6)]; decide)) (ent_6 (by decide : kd 28 = 6)) rfl rfl ⟨by decide, by decide⟩ ⟨by decide, by decide⟩ rfl dX7_passAlone_7 rfl (Nat.le_of_ble_eq_true rfl) (cmX7_harvestOf zq) ?_
  have zf1 := bd_some zf
  clear zf; obtain ⟨Mq3, zq, zf⟩ := zf1
  refine g_callVwv (As := [rv G.1 x1, .int vq2]) (rest := []) h ceX7_reap mlX7_66 imX7_reap seX7_reap (by rfl) (kd_lt (by rw [(by decide : kd 28 = 6)]; decide)) (ent_6 (by decide : kd 28 = 6)) rfl rfl ⟨by decide, by decide⟩ ⟨by decide, by decide⟩ rfl dX7_passAlone_10 rfl (Nat.le_of_ble_eq_true rfl) (cmX7_reap zq) ?_
  refine g_aload_n h 0 rfl dX7_passAlone_13 ?_
  refine g_aload_n h 1 rfl dX7_passAlone_14 ?_
  refine g_aload_n h 0 rfl dX7_passAlone_15 ?_
  refine g_aload_n h 1 rfl dX7_passAlone_16 ?_
  refine g_aload_n h 1 rfl dX7_passAlone_17 ?_
  refine gfX7_55 h zk_x1 dX7_passAlone_18 ?_
  refine g_nmI zf ?_
  clear zf; intro vq4 zf
  have zf1 := bd_some zf
  clear zf; obtain ⟨vq5, zq, zf⟩ := zf1
  refine g_callVri (As := [rv G.1 x1, .int vq4]) (rest := [rv G.1 x1, rv G.1 28]) h ceX7_wayDeed mlX7_58 imX7_wayDeed seX7_wayDeed (by rfl) (kd_lt (by rw [(by decide : kd 28 = 6)]; decide)) (ent_6 (by decide : kd 28 = 6)) rfl rfl ⟨by decide, by decide⟩ ⟨by decide, by decide⟩ rfl dX7_passAlone_21 rfl (Nat.le_of_ble_eq_true rfl) (cmX7_wayDeed zq) ?_
  have zf1 := b2_some zf
  clear zf; obtain ⟨vq6, Mq7, zq, zf⟩ := zf1
  refine g_callVwi (As := [rv G.1 x1, .int vq5]) (rest := []) h ceX7_perform mlX7_70 imX7_perform seX7_perform (by rfl) (kd_lt (by rw [(by decide : kd 28 = 6)]; decide)) (ent_6 (by decide : kd 28 = 6)) rfl rfl ⟨by decide, by decide⟩ ⟨by decide, by decide⟩ rfl dX7_passAlone_24 rfl (Nat.le_of_ble_eq_true rfl) (cmX7_perform zq) ?_
  refine g_pop h rfl dX7_passAlone_27 ?_
  refine g_aload_n h 0 rfl dX7_passAlone_28 ?_
  refine g_aload_n h 1 rfl dX7_passAlone_29 ?_
  have zf1 := bd_some zf
  clear zf; obtain ⟨Mq8, zq, zf⟩ := zf1
  refine g_callVwv (As := [rv G.1 x1]) (rest := []) h ceX7_age mlX7_74 imX7_age seX7_age (by rfl) (kd_lt (by rw [(by decide : kd 28 = 6)]; decide)) (ent_6 (by decide : kd 28 = 6)) rfl rfl ⟨by decide, by decide⟩ ⟨by decide, by decide⟩ rfl dX7_passAlone_30 rfl (Nat.le_of_ble_eq_true rfl) (cmX7_age zq) ?_
  obtain rfl := Option.some.inj zf
  exact g_vret h rfl ⟨rfl, rfl⟩ (Nat.le_refl _) (Nat.le_refl _) dX7_passAlone_33

theorem cmX7_passAlone {l : Launch} {w : WX} {M : Mem} {x1 : Nat} {res : Mem} (zf : fX7_passAlone M x1 = some res) : CM l w yX7_passAlone cX7_passAlone 2 none { frames := 7, cells := 0, slots := 0, locals := 182 } 0 0 [rv w 28, rv w x1] M (Pwv res) := by
  refine CM_of (by decide) (Nat.le_of_ble_eq_true rfl) (fun G hw hl h => ?_)
  subst hw
  exact kX7_passAlone_e0 h zf

-- X7_passMany
theorem kX7_passMany_l2 {G : GX} (h : OKm G cX7_passMany RX7 4 none { frames := 8, cells := 0, slots := 0, locals := 206 }) : ∀ (n : Nat) (M : Mem) (x1 : Nat) (x2 : Int32) (x3 : Int32) (res : Mem), fX7_passMany_l2 n M x1 x2 x3 = some res → GG G (Qm G (Pwv res) 0 0) 0 0 2 [(0, rv G.1 28), (1, rv G.1 x1), (2, .int x2), (3, .int x3)] [] M := by
  intro n
  induction n with
  | zero => intro M x1 x2 x3 res zf; rw [fX7_passMany_l2] at zf; cases zf
  | succ n ih =>
    intro M x1 x2 x3 res zf
    rw [fX7_passMany_l2] at zf
    have zf1 := pre_ck zf
    clear zf; obtain ⟨zk_x1, zf⟩ := zf1
    refine g_iload_n h 3 rfl dX7_passMany_2 ?_
    refine g_iload_n h 2 rfl dX7_passMany_3 ?_
    refine g_ic_ge h 36 (by decide) zf dX7_passMany_4 ?_ ?_ <;> clear zf <;> intro zf
    · obtain rfl := Option.some.inj zf
      exact g_vret h rfl ⟨rfl, rfl⟩ (Nat.le_refl _) (Nat.le_refl _) dX7_passMany_36
    · refine g_aload_n h 0 rfl dX7_passMany_7 ?_
      refine g_aload_n h 1 rfl dX7_passMany_8 ?_
      refine g_aload_n h 0 rfl dX7_passMany_9 ?_
      refine g_aload_n h 1 rfl dX7_passMany_10 ?_
      refine gfX7_48 h zk_x1 dX7_passMany_11 ?_
      refine g_nmI zf ?_
      clear zf; intro vq1 zf
      have zf1 := bd_some zf
      clear zf; obtain ⟨vq2, zq, zf⟩ := zf1
      refine g_callVri (As := [.int vq1]) (rest := [rv G.1 x1, rv G.1 28]) h ceX7_harvestOf mlX7_51 imX7_harvestOf seX7_harvestOf (by rfl) (kd_lt (by rw [(by decide : kd 28 = 6)]; decide)) (ent_6 (by decide : kd 28 = 6)) rfl rfl ⟨by decide, by decide⟩ ⟨by decide, by decide⟩ rfl dX7_passMany_14 rfl (Nat.le_of_ble_eq_true rfl) (cmX7_harvestOf zq) ?_
      refine g_aload_n h 0 rfl dX7_passMany_17 ?_
      refine g_aload_n h 1 rfl dX7_passMany_18 ?_
      refine g_aload_n h 1 rfl dX7_passMany_19 ?_
      refine gfX7_55 h zk_x1 dX7_passMany_20 ?_
      refine g_nmI zf ?_
      clear zf; intro vq3 zf
      have zf1 := bd_some zf
      clear zf; obtain ⟨vq4, zq, zf⟩ := zf1
      refine g_callVri (As := [rv G.1 x1, .int vq3]) (rest := [.int vq2, rv G.1 x1, rv G.1 28]) h ceX7_wayDeed mlX7_58 imX7_wayDeed seX7_wayDeed (by rfl) (kd_lt (by rw [(by decide : kd 28 = 6)]; decide)) (ent_6 (by decide : kd 28 = 6)) rfl rfl ⟨by decide, by decide⟩ ⟨by decide, by decide⟩ rfl dX7_passMany_23 rfl (Nat.le_of_ble_eq_true rfl) (cmX7_wayDeed zq) ?_
      have zf1 := b2_some zf
      clear zf; obtain ⟨vq5, Mq6, zq, zf⟩ := zf1
      refine g_callVwi (As := [rv G.1 x1, .int vq2, .int vq4]) (rest := []) h ceX7_live mlX7_62 imX7_live seX7_live (by rfl) (kd_lt (by rw [(by decide : kd 28 = 6)]; decide)) (ent_6 (by decide : kd 28 = 6)) rfl rfl ⟨by decide, by decide⟩ ⟨by decide, by decide⟩ rfl dX7_passMany_26 rfl (Nat.le_of_ble_eq_true rfl) (cmX7_live zq) ?_
      refine g_pop h rfl dX7_passMany_29 ?_
      refine g_iinc h 3 3 rfl (v := x3 + 1) (congrArg (fun z => x3 + z) (by decide : Int32.ofInt (1) = (1 : Int32))) [(3, .int (x3 + 1)), (0, rv G.1 28), (1, rv G.1 x1), (2, .int x2)] (by decide) rfl dX7_passMany_30 ?_
      refine g_nmV zf ?_
      clear zf; intro vq7 zf
      refine g_goto h 2 (by decide) dX7_passMany_33 ?_
      refine g_sub h [1, 2, 3, 0] rfl ?_
      exact ih _ _ _ _ _ zf

theorem kX7_passMany_e0 {G : GX} (h : OKm G cX7_passMany RX7 4 none { frames := 8, cells := 0, slots := 0, locals := 206 }) {M : Mem} {x1 : Nat} {x2 : Int32} {res : Mem} (zf : fX7_passMany M x1 x2 = some res) : GG G (Qm G (Pwv res) 0 0) 0 0 0 [(0, rv G.1 28), (1, rv G.1 x1), (2, .int x2)] [] M := by
  unfold fX7_passMany at zf
  have zf1 := pre_ck zf
  clear zf; obtain ⟨zk_x1, zf⟩ := zf1
  refine g_iconst h 0 (v := 0) (by decide) dX7_passMany_0 ?_
  refine g_istore_n h rfl [(3, .int 0), (0, rv G.1 28), (1, rv G.1 x1), (2, .int x2)] (by decide) rfl dX7_passMany_1 ?_
  refine g_sub h [1, 2, 3, 0] rfl ?_
  exact kX7_passMany_l2 h _ _ _ _ _ _ zf

theorem cmX7_passMany {l : Launch} {w : WX} {M : Mem} {x1 : Nat} {x2 : Int32} {res : Mem} (zf : fX7_passMany M x1 x2 = some res) : CM l w yX7_passMany cX7_passMany 4 none { frames := 8, cells := 0, slots := 0, locals := 206 } 0 0 [rv w 28, rv w x1, .int x2] M (Pwv res) := by
  refine CM_of (by decide) (Nat.le_of_ble_eq_true rfl) (fun G hw hl h => ?_)
  subst hw
  exact kX7_passMany_e0 h zf

-- X9_add
theorem kX9_add_e0 {G : GX} (h : OKm G cX9_add RX9 3 (some .boolean) { frames := 0, cells := 0, slots := 0, locals := 0 }) {M : Mem} {x0 : Nat} {x1 : Int32} {x2 : Int32} {res : (Int32 × Mem)} (zf : fX9_add M x0 x1 x2 = some res) : GG G (Qm G (Pwi res) 0 0) 0 0 0 [(0, rv G.1 x0), (1, .int x1), (2, .int x2)] [] M := by
  unfold fX9_add at zf
  have zf1 := pre_ck zf
  clear zf; obtain ⟨zk_x0, zf⟩ := zf1
  refine g_aload_n h 0 rfl dX9_add_0 ?_
  refine gfX9_9 h zk_x0 dX9_add_1 ?_
  refine g_nmI zf ?_
  clear zf; intro vq1 zf
  refine g_bipush h 8 (v := 8) (by decide) dX9_add_4 ?_
  refine g_ic_lt h 11 (by decide) zf dX9_add_6 ?_ ?_ <;> clear zf <;> intro zf
  · refine g_aload_n h 0 rfl dX9_add_11 ?_
    refine gfX9_15 h zk_x0 dX9_add_12 ?_
    refine g_aload_n h 0 rfl dX9_add_15 ?_
    refine gfX9_9 h zk_x0 dX9_add_16 ?_
    refine g_nmI zf ?_
    clear zf; intro vq2 zf
    refine g_iload_n h 1 rfl dX9_add_19 ?_
    refine g_iast h 8 (kf8_1 zk_x0) (lf8_1 zk_x0) zf dX9_add_20 ?_
    clear zf; intro Mq3 zf
    refine g_aload_n h 0 rfl dX9_add_21 ?_
    refine gfX9_19 h zk_x0 dX9_add_22 ?_
    refine g_aload_n h 0 rfl dX9_add_25 ?_
    refine gfX9_9 h zk_x0 dX9_add_26 ?_
    refine g_nmI zf ?_
    clear zf; intro vq4 zf
    refine g_iload_n h 2 rfl dX9_add_29 ?_
    refine g_iast h 8 (kf8_2 zk_x0) (lf8_2 zk_x0) zf dX9_add_30 ?_
    clear zf; intro Mq5 zf
    refine g_aload_n h 0 rfl dX9_add_31 ?_
    refine g_dup h rfl dX9_add_32 ?_
    refine gfX9_9 h zk_x0 dX9_add_33 ?_
    refine g_nmI zf ?_
    clear zf; intro vq6 zf
    refine g_iconst h 1 (v := 1) (by decide) dX9_add_36 ?_
    refine g_iadd h dX9_add_37 ?_
    refine pfX9_9 h zk_x0 dX9_add_38 ?_
    refine g_nmM zf ?_
    clear zf; intro Mq7 zf
    refine g_iconst h 1 (v := 1) (by decide) dX9_add_41 ?_
    obtain rfl := Option.some.inj zf
    exact g_zret h (by decide) rfl ⟨rfl, rfl⟩ (Nat.le_refl _) (Nat.le_refl _) dX9_add_42
  · refine g_iconst h 0 (v := 0) (by decide) dX9_add_9 ?_
    obtain rfl := Option.some.inj zf
    exact g_zret h (by decide) rfl ⟨rfl, rfl⟩ (Nat.le_refl _) (Nat.le_refl _) dX9_add_10

theorem cmX9_add {l : Launch} {w : WX} {M : Mem} {x0 : Nat} {x1 : Int32} {x2 : Int32} {res : (Int32 × Mem)} (zf : fX9_add M x0 x1 x2 = some res) : CM l w yX9_add cX9_add 3 (some .boolean) { frames := 0, cells := 0, slots := 0, locals := 0 } 0 0 [rv w x0, .int x1, .int x2] M (Pwi res) := by
  refine CM_of (by decide) (Nat.le_of_ble_eq_true rfl) (fun G hw hl h => ?_)
  subst hw
  exact kX9_add_e0 h zf

-- X9_become
theorem kX9_become_e0 {G : GX} (h : OKm G cX9_become RX9 2 none { frames := 1, cells := 0, slots := 0, locals := 200 }) {M : Mem} {x0 : Nat} {x1 : Nat} {res : Mem} (zf : fX9_become M x0 x1 = some res) : GG G (Qm G (Pwv res) 0 0) 0 0 0 [(0, rv G.1 x0), (1, rv G.1 x1)] [] M := by
  unfold fX9_become at zf
  have zf1 := pre_ck zf
  clear zf; obtain ⟨zk_x0, zf⟩ := zf1
  have zf1 := pre_ck zf
  clear zf; obtain ⟨zk_x1, zf⟩ := zf1
  refine g_aload_n h 0 rfl dX9_become_0 ?_
  refine g_aload_n h 1 rfl dX9_become_1 ?_
  refine gfX9_9 h zk_x1 dX9_become_2 ?_
  refine g_nmI zf ?_
  clear zf; intro vq1 zf
  refine pfX9_9 h zk_x0 dX9_become_5 ?_
  refine g_nmM zf ?_
  clear zf; intro Mq2 zf
  refine g_aload_n h 1 rfl dX9_become_8 ?_
  refine gfX9_15 h zk_x1 dX9_become_9 ?_
  refine g_iconst h 0 (v := 0) (by decide) dX9_become_12 ?_
  refine g_aload_n h 0 rfl dX9_become_13 ?_
  refine gfX9_15 h zk_x0 dX9_become_14 ?_
  refine g_iconst h 0 (v := 0) (by decide) dX9_become_17 ?_
  refine g_bipush h 8 (v := 8) (by decide) dX9_become_18 ?_
  refine g_copy h mlX9_28 natCopy smCopy initSystem (kf8_1 zk_x1) (lf8_1 zk_x1) (kf8_1 zk_x0) (lf8_1 zk_x0) zf (by decide) (Nat.le_of_ble_eq_true rfl) dX9_become_20 ?_
  clear zf; intro Mq3 zf
  refine g_aload_n h 1 rfl dX9_become_23 ?_
  refine gfX9_19 h zk_x1 dX9_become_24 ?_
  refine g_iconst h 0 (v := 0) (by decide) dX9_become_27 ?_
  refine g_aload_n h 0 rfl dX9_become_28 ?_
  refine gfX9_19 h zk_x0 dX9_become_29 ?_
  refine g_iconst h 0 (v := 0) (by decide) dX9_become_32 ?_
  refine g_bipush h 8 (v := 8) (by decide) dX9_become_33 ?_
  refine g_copy h mlX9_28 natCopy smCopy initSystem (kf8_2 zk_x1) (lf8_2 zk_x1) (kf8_2 zk_x0) (lf8_2 zk_x0) zf (by decide) (Nat.le_of_ble_eq_true rfl) dX9_become_35 ?_
  clear zf; intro Mq4 zf
  obtain rfl := Option.some.inj zf
  exact g_vret h rfl ⟨rfl, rfl⟩ (Nat.le_refl _) (Nat.le_refl _) dX9_become_38

theorem cmX9_become {l : Launch} {w : WX} {M : Mem} {x0 : Nat} {x1 : Nat} {res : Mem} (zf : fX9_become M x0 x1 = some res) : CM l w yX9_become cX9_become 2 none { frames := 1, cells := 0, slots := 0, locals := 200 } 0 0 [rv w x0, rv w x1] M (Pwv res) := by
  refine CM_of (by decide) (Nat.le_of_ble_eq_true rfl) (fun G hw hl h => ?_)
  subst hw
  exact kX9_become_e0 h zf

-- X9_last
theorem kX9_last_l4 {G : GX} (h : OKm G cX9_last RX9 3 (some .int) { frames := 6, cells := 0, slots := 0, locals := 160 }) : ∀ (n : Nat) (M : Mem) (x0 : Nat) (x1 : Int32) (x2 : Int32) (res : Int32), fX9_last_l4 n M x0 x1 x2 = some res → GG G (Qm G (Pri res M) 0 0) 0 0 4 [(0, rv G.1 x0), (1, .int x1), (2, .int x2)] [] M := by
  intro n
  induction n with
  | zero => intro M x0 x1 x2 res zf; rw [fX9_last_l4] at zf; cases zf
  | succ n ih =>
    intro M x0 x1 x2 res zf
    rw [fX9_last_l4] at zf
    have zf1 := pre_ck zf
    clear zf; obtain ⟨zk_x0, zf⟩ := zf1
    refine g_iload_n h 2 rfl dX9_last_4 ?_
    refine g_aload_n h 0 rfl dX9_last_5 ?_
    refine gfX9_9 h zk_x0 dX9_last_6 ?_
    refine g_nmI zf ?_
    clear zf; intro vq1 zf
    refine g_ic_ge h 29 (by decide) zf dX9_last_9 ?_ ?_ <;> clear zf <;> intro zf
    · refine g_iload_n h 1 rfl dX9_last_29 ?_
      obtain rfl := Option.some.inj zf
      exact g_iret h rfl ⟨rfl, rfl⟩ (Nat.le_refl _) (Nat.le_refl _) dX9_last_30
    · refine g_iload_n h 1 rfl dX9_last_12 ?_
      refine g_aload_n h 0 rfl dX9_last_13 ?_
      refine gfX9_15 h zk_x0 dX9_last_14 ?_
      refine g_iload_n h 2 rfl dX9_last_17 ?_
      refine g_iald h 8 (kf8_1 zk_x0) (lf8_1 zk_x0) zf dX9_last_18 ?_
      clear zf; intro vq2 zf
      refine g_mmax h mlX9_22 smMathmax initMath ceMathmax (by decide) (Nat.le_of_ble_eq_true rfl) (Nat.le_of_ble_eq_true rfl) (Nat.le_of_ble_eq_true rfl) dX9_last_19 ?_
      refine g_nmI zf ?_
      clear zf; intro vq3 zf
      refine g_istore_n h rfl [(1, .int vq3), (0, rv G.1 x0), (2, .int x2)] (by decide) rfl dX9_last_22 ?_
      refine g_iinc h 2 2 rfl (v := x2 + 1) (congrArg (fun z => x2 + z) (by decide : Int32.ofInt (1) = (1 : Int32))) [(2, .int (x2 + 1)), (1, .int vq3), (0, rv G.1 x0)] (by decide) rfl dX9_last_23 ?_
      refine g_nmV zf ?_
      clear zf; intro vq4 zf
      refine g_goto h 4 (by decide) dX9_last_26 ?_
      refine g_sub h [2, 1, 0] rfl ?_
      exact ih _ _ _ _ _ zf

theorem kX9_last_e0 {G : GX} (h : OKm G cX9_last RX9 3 (some .int) { frames := 6, cells := 0, slots := 0, locals := 160 }) {M : Mem} {x0 : Nat} {res : Int32} (zf : fX9_last M x0 = some res) : GG G (Qm G (Pri res M) 0 0) 0 0 0 [(0, rv G.1 x0)] [] M := by
  unfold fX9_last at zf
  have zf1 := pre_ck zf
  clear zf; obtain ⟨zk_x0, zf⟩ := zf1
  refine g_iconst h 0 (v := 0) (by decide) dX9_last_0 ?_
  refine g_istore_n h rfl [(1, .int 0), (0, rv G.1 x0)] (by decide) rfl dX9_last_1 ?_
  refine g_iconst h 0 (v := 0) (by decide) dX9_last_2 ?_
  refine g_istore_n h rfl [(2, .int 0), (1, .int 0), (0, rv G.1 x0)] (by decide) rfl dX9_last_3 ?_
  refine g_sub h [2, 1, 0] rfl ?_
  exact kX9_last_l4 h _ _ _ _ _ _ zf

theorem cmX9_last {l : Launch} {w : WX} {M : Mem} {x0 : Nat} {res : Int32} (zf : fX9_last M x0 = some res) : CM l w yX9_last cX9_last 3 (some .int) { frames := 6, cells := 0, slots := 0, locals := 160 } 0 0 [rv w x0] M (Pri res M) := by
  refine CM_of (by decide) (Nat.le_of_ble_eq_true rfl) (fun G hw hl h => ?_)
  subst hw
  exact kX9_last_e0 h zf

-- X12_edge
theorem kX12_edge_b58 {G : GX} (h : OKm G cX12_edge RX12 5 (some .int) { frames := 0, cells := 0, slots := 0, locals := 0 }) {M : Mem} {s0 : Int32} {s1 : Int32} {res : Int32} (zf : fX12_edge_b58 M s0 s1 = some res) : GG G (Qm G (Pri res M) 0 0) 0 0 58 [(0, rv G.1 0)] [.int s0, .int s1] M := by
  unfold fX12_edge_b58 at zf
  refine g_iadd h dX12_edge_58 ?_
  refine g_aload_n h 0 rfl dX12_edge_59 ?_
  refine gfX12_52 h (by decide : kd 0 = 10) dX12_edge_60 ?_
  refine gfX12_126 h (by decide : kd 81 = 2) dX12_edge_63 ?_
  refine g_nmI zf ?_
  clear zf; intro vq6 zf
  refine g_bipush h 10 (v := 10) (by decide) dX12_edge_66 ?_
  refine g_idiv h (by decide) dX12_edge_68 ?_
  refine g_isub h dX12_edge_69 ?_
  obtain rfl := Option.some.inj zf
  exact g_iret h rfl ⟨rfl, rfl⟩ (Nat.le_refl _) (Nat.le_refl _) dX12_edge_70

theorem kX12_edge_b40 {G : GX} (h : OKm G cX12_edge RX12 5 (some .int) { frames := 0, cells := 0, slots := 0, locals := 0 }) {M : Mem} {x1 : Int32} {x3 : Nat} {s0 : Int32} {res : Int32} (zf : fX12_edge_b40 M x1 x3 s0 = some res) : GG G (Qm G (Pri res M) 0 0) 0 0 40 [(0, rv G.1 0), (1, .int x1), (3, rv G.1 x3)] [.int s0] M := by
  unfold fX12_edge_b40 at zf
  have zf1 := pre_ck zf
  clear zf; obtain ⟨zk_x3, zf⟩ := zf1
  refine g_istore h [(4, .int s0), (0, rv G.1 0), (1, .int x1), (3, rv G.1 x3)] (by decide) rfl dX12_edge_40 ?_
  refine g_aload_n h 3 rfl dX12_edge_42 ?_
  refine gfX12_294 h zk_x3 dX12_edge_43 ?_
  refine g_iload_n h 2 rfl dX12_edge_46 ?_
  refine g_iald h 7 (kf3_1 zk_x3) (lf3_1 zk_x3) zf dX12_edge_47 ?_
  clear zf; intro vq5 zf
  refine g_iload h 0 rfl dX12_edge_48 ?_
  refine g_if_eq h 57 (by decide) zf dX12_edge_50 ?_ ?_ <;> clear zf <;> intro zf
  · refine g_iconst h 0 (v := 0) (by decide) dX12_edge_57 ?_
    refine g_sub h [1] rfl ?_
    exact kX12_edge_b58 h zf
  · refine g_iconst h 5 (v := 5) (by decide) dX12_edge_53 ?_
    refine g_goto h 58 (by decide) dX12_edge_54 ?_
    refine g_sub h [1] rfl ?_
    exact kX12_edge_b58 h zf

theorem kX12_edge_e0 {G : GX} (h : OKm G cX12_edge RX12 5 (some .int) { frames := 0, cells := 0, slots := 0, locals := 0 }) {M : Mem} {x1 : Int32} {x2 : Int32} {res : Int32} (zf : fX12_edge M x1 x2 = some res) : GG G (Qm G (Pri res M) 0 0) 0 0 0 [(0, rv G.1 0), (1, .int x1), (2, .int x2)] [] M := by
  unfold fX12_edge at zf
  refine g_aload_n h 0 rfl dX12_edge_0 ?_
  refine gfX12_36 h (by decide : kd 0 = 10) dX12_edge_1 ?_
  refine gfX12_111 h (by decide : kd 28 = 6) dX12_edge_4 ?_
  refine g_nmR zf ?_
  clear zf; intro oq1 zf
  have zf1 := pre_ck zf
  clear zf; obtain ⟨zk_oq1, zf⟩ := zf1
  refine gfX12_158 h zk_oq1 dX12_edge_7 ?_
  refine g_astore_n h rfl [(3, rv G.1 (oq1 + 8)), (0, rv G.1 0), (1, .int x1), (2, .int x2)] (by decide) rfl dX12_edge_10 ?_
  refine g_aload_n h 0 rfl dX12_edge_11 ?_
  refine gfX12_311 h (kf4_8 zk_oq1) dX12_edge_12 ?_
  refine g_iload_n h 2 rfl dX12_edge_15 ?_
  refine g_iald h 7 (kf3_2 (kf4_8 zk_oq1)) (lf3_2 (kf4_8 zk_oq1)) zf dX12_edge_16 ?_
  clear zf; intro vq2 zf
  refine g_aload_n h 1 rfl dX12_edge_17 ?_
  refine gfX12_36 h (by decide : kd 0 = 10) dX12_edge_18 ?_
  refine gfX12_111 h (by decide : kd 28 = 6) dX12_edge_21 ?_
  refine g_nmR zf ?_
  clear zf; intro oq3 zf
  have zf1 := pre_ck zf
  clear zf; obtain ⟨zk_oq3, zf⟩ := zf1
  refine gfX12_165 h zk_oq3 dX12_edge_24 ?_
  refine gfX12_311 h (kf4_11 zk_oq3) dX12_edge_27 ?_
  refine g_iload_n h 3 rfl dX12_edge_30 ?_
  refine g_iald h 7 (kf3_2 (kf4_11 zk_oq3)) (lf3_2 (kf4_11 zk_oq3)) zf dX12_edge_31 ?_
  clear zf; intro vq4 zf
  refine g_ic_ne h 39 (by decide) zf dX12_edge_32 ?_ ?_ <;> clear zf <;> intro zf
  · refine g_iconst h 0 (v := 0) (by decide) dX12_edge_39 ?_
    refine g_sub h [1, 2, 0] rfl ?_
    exact kX12_edge_b40 h zf
  · refine g_iconst h 1 (v := 1) (by decide) dX12_edge_35 ?_
    refine g_goto h 40 (by decide) dX12_edge_36 ?_
    refine g_sub h [1, 2, 0] rfl ?_
    exact kX12_edge_b40 h zf

theorem cmX12_edge {l : Launch} {w : WX} {M : Mem} {x1 : Int32} {x2 : Int32} {res : Int32} (zf : fX12_edge M x1 x2 = some res) : CM l w yX12_edge cX12_edge 5 (some .int) { frames := 0, cells := 0, slots := 0, locals := 0 } 0 0 [rv w 0, .int x1, .int x2] M (Pri res M) := by
  refine CM_of (by decide) (Nat.le_of_ble_eq_true rfl) (fun G hw hl h => ?_)
  subst hw
  exact kX12_edge_e0 h zf

-- X12_beatenBy
theorem kX12_beatenBy_b51 {G : GX} (h : OKm G cX12_beatenBy RX12 4 (some .int) { frames := 1, cells := 0, slots := 0, locals := 24 }) {a4 : Mem → Int32 → Int32 → Int32 → Option Int32} (zh4 : ∀ (M : Mem) (x1 : Int32) (x2 : Int32) (x3 : Int32) (res : Int32), a4 M x1 x2 x3 = some res → GG G (Qm G (Pri res M) 0 0) 0 0 4 [(0, rv G.1 0), (1, .int x1), (2, .int x2), (3, .int x3)] [] M) {M : Mem} {x1 : Int32} {x2 : Int32} {x3 : Int32} {res : Int32} (zf : fX12_beatenBy_b51 a4 M x1 x2 x3 = some res) : GG G (Qm G (Pri res M) 0 0) 0 0 51 [(0, rv G.1 0), (1, .int x1), (2, .int x2), (3, .int x3)] [] M := by
  unfold fX12_beatenBy_b51 at zf
  refine g_iinc h 3 3 rfl (v := x3 + 1) (congrArg (fun z => x3 + z) (by decide : Int32.ofInt (1) = (1 : Int32))) [(3, .int (x3 + 1)), (0, rv G.1 0), (1, .int x1), (2, .int x2)] (by decide) rfl dX12_beatenBy_51 ?_
  refine g_nmV zf ?_
  clear zf; intro vq6 zf
  refine g_goto h 4 (by decide) dX12_beatenBy_54 ?_
  refine g_sub h [1, 2, 3, 0] rfl ?_
  exact zh4 _ _ _ _ _ zf

theorem kX12_beatenBy_l4 {G : GX} (h : OKm G cX12_beatenBy RX12 4 (some .int) { frames := 1, cells := 0, slots := 0, locals := 24 }) : ∀ (n : Nat) (M : Mem) (x1 : Int32) (x2 : Int32) (x3 : Int32) (res : Int32), fX12_beatenBy_l4 n M x1 x2 x3 = some res → GG G (Qm G (Pri res M) 0 0) 0 0 4 [(0, rv G.1 0), (1, .int x1), (2, .int x2), (3, .int x3)] [] M := by
  intro n
  induction n with
  | zero => intro M x1 x2 x3 res zf; rw [fX12_beatenBy_l4] at zf; cases zf
  | succ n ih =>
    intro M x1 x2 x3 res zf
    rw [fX12_beatenBy_l4] at zf
    refine g_iload_n h 3 rfl dX12_beatenBy_4 ?_
    refine g_aload_n h 0 rfl dX12_beatenBy_5 ?_
    refine gfX12_36 h (by decide : kd 0 = 10) dX12_beatenBy_6 ?_
    refine gfX12_111 h (by decide : kd 28 = 6) dX12_beatenBy_9 ?_
    refine g_nmR zf ?_
    clear zf; intro oq1 zf
    have zf1 := pre_ck zf
    clear zf; obtain ⟨zk_oq1, zf⟩ := zf1
    refine gfX12_165 h zk_oq1 dX12_beatenBy_12 ?_
    refine gfX12_162 h (kf4_11 zk_oq1) dX12_beatenBy_15 ?_
    refine g_nmI zf ?_
    clear zf; intro vq2 zf
    refine g_ic_ge h 57 (by decide) zf dX12_beatenBy_18 ?_ ?_ <;> clear zf <;> intro zf
    · refine g_iload_n h 2 rfl dX12_beatenBy_57 ?_
      obtain rfl := Option.some.inj zf
      exact g_iret h rfl ⟨rfl, rfl⟩ (Nat.le_refl _) (Nat.le_refl _) dX12_beatenBy_58
    · refine g_aload_n h 0 rfl dX12_beatenBy_21 ?_
      refine g_iload_n h 1 rfl dX12_beatenBy_22 ?_
      refine g_iload_n h 3 rfl dX12_beatenBy_23 ?_
      have zf1 := bd_some zf
      clear zf; obtain ⟨vq3, zq, zf⟩ := zf1
      refine g_callVri (As := [.int x1, .int x3]) (rest := []) h ceX12_edge mlX12_291 imX12_edge seX12_edge (by rfl) (kd_lt (by rw [(by decide : kd 0 = 10)]; decide)) (ent_10 (by decide : kd 0 = 10)) rfl rfl ⟨by decide, by decide⟩ ⟨by decide, by decide⟩ rfl dX12_beatenBy_24 rfl (Nat.le_of_ble_eq_true rfl) (cmX12_edge zq) ?_
      refine g_aload_n h 0 rfl dX12_beatenBy_27 ?_
      refine gfX12_36 h (by decide : kd 0 = 10) dX12_beatenBy_28 ?_
      refine gfX12_111 h (by decide : kd 28 = 6) dX12_beatenBy_31 ?_
      refine g_nmR zf ?_
      clear zf; intro oq4 zf
      have zf1 := pre_ck zf
      clear zf; obtain ⟨zk_oq4, zf⟩ := zf1
      refine gfX12_165 h zk_oq4 dX12_beatenBy_34 ?_
      refine gfX12_294 h (kf4_11 zk_oq4) dX12_beatenBy_37 ?_
      refine g_iload_n h 3 rfl dX12_beatenBy_40 ?_
      refine g_iald h 7 (kf3_1 (kf4_11 zk_oq4)) (lf3_1 (kf4_11 zk_oq4)) zf dX12_beatenBy_41 ?_
      clear zf; intro vq5 zf
      refine g_ic_le h 51 (by decide) zf dX12_beatenBy_42 ?_ ?_ <;> clear zf <;> intro zf
      · refine g_sub h [0, 1, 2, 3] rfl ?_
        exact kX12_beatenBy_b51 h ih zf
      · refine g_iload_n h 2 rfl dX12_beatenBy_45 ?_
        refine g_iconst h 1 (v := 1) (by decide) dX12_beatenBy_46 ?_
        refine g_iload_n h 3 rfl dX12_beatenBy_47 ?_
        refine g_ishl h dX12_beatenBy_48 ?_
        refine g_ior h dX12_beatenBy_49 ?_
        refine g_nmI zf ?_
        clear zf; intro vq7 zf
        refine g_istore_n h rfl [(2, .int vq7), (0, rv G.1 0), (1, .int x1), (3, .int x3)] (by decide) rfl dX12_beatenBy_50 ?_
        refine g_sub h [1, 2, 0, 3] rfl ?_
        exact kX12_beatenBy_b51 h ih zf

theorem kX12_beatenBy_e0 {G : GX} (h : OKm G cX12_beatenBy RX12 4 (some .int) { frames := 1, cells := 0, slots := 0, locals := 24 }) {M : Mem} {x1 : Int32} {res : Int32} (zf : fX12_beatenBy M x1 = some res) : GG G (Qm G (Pri res M) 0 0) 0 0 0 [(0, rv G.1 0), (1, .int x1)] [] M := by
  unfold fX12_beatenBy at zf
  refine g_iconst h 0 (v := 0) (by decide) dX12_beatenBy_0 ?_
  refine g_istore_n h rfl [(2, .int 0), (0, rv G.1 0), (1, .int x1)] (by decide) rfl dX12_beatenBy_1 ?_
  refine g_iconst h 0 (v := 0) (by decide) dX12_beatenBy_2 ?_
  refine g_istore_n h rfl [(3, .int 0), (2, .int 0), (0, rv G.1 0), (1, .int x1)] (by decide) rfl dX12_beatenBy_3 ?_
  refine g_sub h [2, 3, 1, 0] rfl ?_
  exact kX12_beatenBy_l4 h _ _ _ _ _ _ zf

theorem cmX12_beatenBy {l : Launch} {w : WX} {M : Mem} {x1 : Int32} {res : Int32} (zf : fX12_beatenBy M x1 = some res) : CM l w yX12_beatenBy cX12_beatenBy 4 (some .int) { frames := 1, cells := 0, slots := 0, locals := 24 } 0 0 [rv w 0, .int x1] M (Pri res M) := by
  refine CM_of (by decide) (Nat.le_of_ble_eq_true rfl) (fun G hw hl h => ?_)
  subst hw
  exact kX12_beatenBy_e0 h zf

-- X12_fillReach
theorem kX12_fillReach_b145 {G : GX} (h : OKm G cX12_fillReach RX12 8 none { frames := 2, cells := 0, slots := 0, locals := 47 }) {a54 : Mem → Int32 → Int32 → Int32 → Option Mem} (zh54 : ∀ (M : Mem) (x1 : Int32) (x2 : Int32) (x3 : Int32) (res : Mem), a54 M x1 x2 x3 = some res → GG G (Qm G (Pwv res) 0 0) 0 0 54 [(0, rv G.1 0), (1, .int x1), (2, .int x2), (3, .int x3)] [] M) {a73 : Mem → Int32 → Int32 → Int32 → Int32 → Int32 → Option Mem} (zh73 : ∀ (M : Mem) (x1 : Int32) (x2 : Int32) (x3 : Int32) (x4 : Int32) (x5 : Int32) (res : Mem), a73 M x1 x2 x3 x4 x5 = some res → GG G (Qm G (Pwv res) 0 0) 0 0 73 [(0, rv G.1 0), (1, .int x1), (2, .int x2), (3, .int x3), (4, .int x4), (5, .int x5)] [] M) {a81 : Mem → Int32 → Int32 → Int32 → Int32 → Int32 → Int32 → Option Mem} (zh81 : ∀ (M : Mem) (x1 : Int32) (x2 : Int32) (x3 : Int32) (x4 : Int32) (x5 : Int32) (x6 : Int32) (res : Mem), a81 M x1 x2 x3 x4 x5 x6 = some res → GG G (Qm G (Pwv res) 0 0) 0 0 81 [(0, rv G.1 0), (1, .int x1), (2, .int x2), (3, .int x3), (4, .int x4), (5, .int x5), (6, .int x6)] [] M) {M : Mem} {x1 : Int32} {x2 : Int32} {x3 : Int32} {x4 : Int32} {x5 : Int32} {x6 : Int32} {res : Mem} (zf : fX12_fillReach_b145 a54 a73 a81 M x1 x2 x3 x4 x5 x6 = some res) : GG G (Qm G (Pwv res) 0 0) 0 0 145 [(0, rv G.1 0), (1, .int x1), (2, .int x2), (3, .int x3), (4, .int x4), (5, .int x5), (6, .int x6)] [] M := by
  unfold fX12_fillReach_b145 at zf
  refine g_iinc h 6 6 rfl (v := x6 + 1) (congrArg (fun z => x6 + z) (by decide : Int32.ofInt (1) = (1 : Int32))) [(6, .int (x6 + 1)), (0, rv G.1 0), (1, .int x1), (2, .int x2), (3, .int x3), (4, .int x4), (5, .int x5)] (by decide) rfl dX12_fillReach_145 ?_
  refine g_nmV zf ?_
  clear zf; intro vq11 zf
  refine g_goto h 81 (by decide) dX12_fillReach_148 ?_
  refine g_sub h [1, 2, 3, 4, 5, 6, 0] rfl ?_
  exact zh81 _ _ _ _ _ _ _ _ zf

theorem kX12_fillReach_l81 {G : GX} (h : OKm G cX12_fillReach RX12 8 none { frames := 2, cells := 0, slots := 0, locals := 47 }) {a54 : Mem → Int32 → Int32 → Int32 → Option Mem} (zh54 : ∀ (M : Mem) (x1 : Int32) (x2 : Int32) (x3 : Int32) (res : Mem), a54 M x1 x2 x3 = some res → GG G (Qm G (Pwv res) 0 0) 0 0 54 [(0, rv G.1 0), (1, .int x1), (2, .int x2), (3, .int x3)] [] M) {a73 : Mem → Int32 → Int32 → Int32 → Int32 → Int32 → Option Mem} (zh73 : ∀ (M : Mem) (x1 : Int32) (x2 : Int32) (x3 : Int32) (x4 : Int32) (x5 : Int32) (res : Mem), a73 M x1 x2 x3 x4 x5 = some res → GG G (Qm G (Pwv res) 0 0) 0 0 73 [(0, rv G.1 0), (1, .int x1), (2, .int x2), (3, .int x3), (4, .int x4), (5, .int x5)] [] M) : ∀ (n : Nat) (M : Mem) (x1 : Int32) (x2 : Int32) (x3 : Int32) (x4 : Int32) (x5 : Int32) (x6 : Int32) (res : Mem), fX12_fillReach_l81 a54 a73 n M x1 x2 x3 x4 x5 x6 = some res → GG G (Qm G (Pwv res) 0 0) 0 0 81 [(0, rv G.1 0), (1, .int x1), (2, .int x2), (3, .int x3), (4, .int x4), (5, .int x5), (6, .int x6)] [] M := by
  intro n
  induction n with
  | zero => intro M x1 x2 x3 x4 x5 x6 res zf; rw [fX12_fillReach_l81] at zf; cases zf
  | succ n ih =>
    intro M x1 x2 x3 x4 x5 x6 res zf
    rw [fX12_fillReach_l81] at zf
    refine g_iload h 6 rfl dX12_fillReach_81 ?_
    refine g_iload_n h 2 rfl dX12_fillReach_83 ?_
    refine g_ic_ge h 151 (by decide) zf dX12_fillReach_84 ?_ ?_ <;> clear zf <;> intro zf
    · refine g_iinc h 5 5 rfl (v := x5 + (-1)) (congrArg (fun z => x5 + z) (by decide : Int32.ofInt (-1) = (-1 : Int32))) [(5, .int (x5 + (-1))), (0, rv G.1 0), (1, .int x1), (2, .int x2), (3, .int x3), (4, .int x4), (6, .int x6)] (by decide) rfl dX12_fillReach_151 ?_
      refine g_nmV zf ?_
      clear zf; intro vq9 zf
      refine g_goto h 73 (by decide) dX12_fillReach_154 ?_
      refine g_sub h [1, 2, 3, 4, 5, 0] rfl ?_
      exact zh73 _ _ _ _ _ _ _ zf
    · refine g_iconst h 1 (v := 1) (by decide) dX12_fillReach_87 ?_
      refine g_iload h 6 rfl dX12_fillReach_88 ?_
      refine g_ishl h dX12_fillReach_90 ?_
      refine g_nmI zf ?_
      clear zf; intro vq10 zf
      refine g_istore h [(7, .int vq10), (0, rv G.1 0), (1, .int x1), (2, .int x2), (3, .int x3), (4, .int x4), (5, .int x5), (6, .int x6)] (by decide) rfl dX12_fillReach_91 ?_
      refine g_iload h 6 rfl dX12_fillReach_93 ?_
      refine g_iload h 5 rfl dX12_fillReach_95 ?_
      refine g_iand h dX12_fillReach_97 ?_
      refine g_iload h 0 rfl dX12_fillReach_98 ?_
      refine g_iand h dX12_fillReach_100 ?_
      refine g_if_eq h 145 (by decide) zf dX12_fillReach_101 ?_ ?_ <;> clear zf <;> intro zf
      · refine g_sub h [1, 2, 3, 4, 5, 6, 7] rfl ?_
        exact kX12_fillReach_b145 h zh54 zh73 ih zf
      · refine g_aload_n h 1 rfl dX12_fillReach_104 ?_
        refine gfX12_86 h (by decide : kd 0 = 10) dX12_fillReach_105 ?_
        refine g_iload h 6 rfl dX12_fillReach_108 ?_
        refine g_iload h 0 rfl dX12_fillReach_110 ?_
        refine g_ixor h dX12_fillReach_112 ?_
        refine g_iald h 128 (by decide : kd 102 = 20) (by decide) zf dX12_fillReach_113 ?_
        clear zf; intro vq12 zf
        refine g_iconst h 1 (v := 1) (by decide) dX12_fillReach_114 ?_
        refine g_iadd h dX12_fillReach_115 ?_
        refine g_aload_n h 1 rfl dX12_fillReach_116 ?_
        refine gfX12_86 h (by decide : kd 0 = 10) dX12_fillReach_117 ?_
        refine g_iload h 6 rfl dX12_fillReach_120 ?_
        refine g_iald h 128 (by decide : kd 102 = 20) (by decide) zf dX12_fillReach_122 ?_
        clear zf; intro vq13 zf
        refine g_ic_le h 145 (by decide) zf dX12_fillReach_123 ?_ ?_ <;> clear zf <;> intro zf
        · refine g_sub h [1, 2, 3, 4, 5, 6, 7] rfl ?_
          exact kX12_fillReach_b145 h zh54 zh73 ih zf
        · refine g_aload_n h 1 rfl dX12_fillReach_126 ?_
          refine gfX12_86 h (by decide : kd 0 = 10) dX12_fillReach_127 ?_
          refine g_iload h 6 rfl dX12_fillReach_130 ?_
          refine g_aload_n h 1 rfl dX12_fillReach_132 ?_
          refine gfX12_86 h (by decide : kd 0 = 10) dX12_fillReach_133 ?_
          refine g_iload h 6 rfl dX12_fillReach_136 ?_
          refine g_iload h 0 rfl dX12_fillReach_138 ?_
          refine g_ixor h dX12_fillReach_140 ?_
          refine g_iald h 128 (by decide : kd 102 = 20) (by decide) zf dX12_fillReach_141 ?_
          clear zf; intro vq14 zf
          refine g_iconst h 1 (v := 1) (by decide) dX12_fillReach_142 ?_
          refine g_iadd h dX12_fillReach_143 ?_
          refine g_iast h 128 (by decide : kd 102 = 20) (by decide) zf dX12_fillReach_144 ?_
          clear zf; intro Mq15 zf
          refine g_sub h [1, 2, 3, 4, 5, 6, 7] rfl ?_
          exact kX12_fillReach_b145 h zh54 zh73 ih zf

theorem kX12_fillReach_l73 {G : GX} (h : OKm G cX12_fillReach RX12 8 none { frames := 2, cells := 0, slots := 0, locals := 47 }) {a54 : Mem → Int32 → Int32 → Int32 → Option Mem} (zh54 : ∀ (M : Mem) (x1 : Int32) (x2 : Int32) (x3 : Int32) (res : Mem), a54 M x1 x2 x3 = some res → GG G (Qm G (Pwv res) 0 0) 0 0 54 [(0, rv G.1 0), (1, .int x1), (2, .int x2), (3, .int x3)] [] M) : ∀ (n : Nat) (M : Mem) (x1 : Int32) (x2 : Int32) (x3 : Int32) (x4 : Int32) (x5 : Int32) (res : Mem), fX12_fillReach_l73 a54 n M x1 x2 x3 x4 x5 = some res → GG G (Qm G (Pwv res) 0 0) 0 0 73 [(0, rv G.1 0), (1, .int x1), (2, .int x2), (3, .int x3), (4, .int x4), (5, .int x5)] [] M := by
  intro n
  induction n with
  | zero => intro M x1 x2 x3 x4 x5 res zf; rw [fX12_fillReach_l73] at zf; cases zf
  | succ n ih =>
    intro M x1 x2 x3 x4 x5 res zf
    rw [fX12_fillReach_l73] at zf
    refine g_iload h 5 rfl dX12_fillReach_73 ?_
    refine g_if_le h 157 (by decide) zf dX12_fillReach_75 ?_ ?_ <;> clear zf <;> intro zf
    · refine g_iinc h 3 3 rfl (v := x3 + (-1)) (congrArg (fun z => x3 + z) (by decide : Int32.ofInt (-1) = (-1 : Int32))) [(3, .int (x3 + (-1))), (0, rv G.1 0), (1, .int x1), (2, .int x2), (4, .int x4), (5, .int x5)] (by decide) rfl dX12_fillReach_157 ?_
      refine g_nmV zf ?_
      clear zf; intro vq8 zf
      refine g_goto h 54 (by decide) dX12_fillReach_160 ?_
      refine g_sub h [1, 2, 3, 0] rfl ?_
      exact zh54 _ _ _ _ _ zf
    · refine g_iconst h 0 (v := 0) (by decide) dX12_fillReach_78 ?_
      refine g_istore h [(6, .int 0), (0, rv G.1 0), (1, .int x1), (2, .int x2), (3, .int x3), (4, .int x4), (5, .int x5)] (by decide) rfl dX12_fillReach_79 ?_
      refine g_sub h [1, 2, 3, 4, 5, 6, 0] rfl ?_
      exact kX12_fillReach_l81 h zh54 ih _ _ _ _ _ _ _ _ _ zf

theorem kX12_fillReach_l54 {G : GX} (h : OKm G cX12_fillReach RX12 8 none { frames := 2, cells := 0, slots := 0, locals := 47 }) : ∀ (n : Nat) (M : Mem) (x1 : Int32) (x2 : Int32) (x3 : Int32) (res : Mem), fX12_fillReach_l54 n M x1 x2 x3 = some res → GG G (Qm G (Pwv res) 0 0) 0 0 54 [(0, rv G.1 0), (1, .int x1), (2, .int x2), (3, .int x3)] [] M := by
  intro n
  induction n with
  | zero => intro M x1 x2 x3 res zf; rw [fX12_fillReach_l54] at zf; cases zf
  | succ n ih =>
    intro M x1 x2 x3 res zf
    rw [fX12_fillReach_l54] at zf
    refine g_iload_n h 3 rfl dX12_fillReach_54 ?_
    refine g_iload_n h 1 rfl dX12_fillReach_55 ?_
    refine g_ic_lt h 163 (by decide) zf dX12_fillReach_56 ?_ ?_ <;> clear zf <;> intro zf
    · obtain rfl := Option.some.inj zf
      exact g_vret h rfl ⟨rfl, rfl⟩ (Nat.le_refl _) (Nat.le_refl _) dX12_fillReach_163
    · refine g_aload_n h 0 rfl dX12_fillReach_59 ?_
      refine g_iload_n h 3 rfl dX12_fillReach_60 ?_
      have zf1 := bd_some zf
      clear zf; obtain ⟨vq6, zq, zf⟩ := zf1
      refine g_callVri (As := [.int x3]) (rest := []) h ceX12_beatenBy mlX12_303 imX12_beatenBy seX12_beatenBy (by rfl) (kd_lt (by rw [(by decide : kd 0 = 10)]; decide)) (ent_10 (by decide : kd 0 = 10)) rfl rfl ⟨by decide, by decide⟩ ⟨by decide, by decide⟩ rfl dX12_fillReach_61 rfl (Nat.le_of_ble_eq_true rfl) (cmX12_beatenBy zq) ?_
      refine g_istore h [(4, .int vq6), (0, rv G.1 0), (1, .int x1), (2, .int x2), (3, .int x3)] (by decide) rfl dX12_fillReach_64 ?_
      refine g_iconst h 1 (v := 1) (by decide) dX12_fillReach_66 ?_
      refine g_iload_n h 3 rfl dX12_fillReach_67 ?_
      refine g_ishl h dX12_fillReach_68 ?_
      refine g_iconst h 1 (v := 1) (by decide) dX12_fillReach_69 ?_
      refine g_isub h dX12_fillReach_70 ?_
      refine g_nmI zf ?_
      clear zf; intro vq7 zf
      refine g_istore h [(5, .int vq7), (4, .int vq6), (0, rv G.1 0), (1, .int x1), (2, .int x2), (3, .int x3)] (by decide) rfl dX12_fillReach_71 ?_
      refine g_sub h [2, 3, 4, 5, 1, 0] rfl ?_
      exact kX12_fillReach_l73 h ih _ _ _ _ _ _ _ _ zf

theorem kX12_fillReach_l16 {G : GX} (h : OKm G cX12_fillReach RX12 8 none { frames := 2, cells := 0, slots := 0, locals := 47 }) : ∀ (n : Nat) (M : Mem) (x1 : Int32) (x2 : Int32) (x3 : Int32) (res : Mem), fX12_fillReach_l16 n M x1 x2 x3 = some res → GG G (Qm G (Pwv res) 0 0) 0 0 16 [(0, rv G.1 0), (1, .int x1), (2, .int x2), (3, .int x3)] [] M := by
  intro n
  induction n with
  | zero => intro M x1 x2 x3 res zf; rw [fX12_fillReach_l16] at zf; cases zf
  | succ n ih =>
    intro M x1 x2 x3 res zf
    rw [fX12_fillReach_l16] at zf
    refine g_iload_n h 3 rfl dX12_fillReach_16 ?_
    refine g_aload_n h 0 rfl dX12_fillReach_17 ?_
    refine gfX12_86 h (by decide : kd 0 = 10) dX12_fillReach_18 ?_
    refine g_ilen h 128 (z := 128) (by decide : kd 102 = 20) (by decide) (by decide) dX12_fillReach_21 ?_
    refine g_ic_ge h 38 (by decide) zf dX12_fillReach_22 ?_ ?_ <;> clear zf <;> intro zf
    · refine g_aload_n h 0 rfl dX12_fillReach_38 ?_
      refine gfX12_36 h (by decide : kd 0 = 10) dX12_fillReach_39 ?_
      refine gfX12_111 h (by decide : kd 28 = 6) dX12_fillReach_42 ?_
      refine g_nmR zf ?_
      clear zf; intro oq3 zf
      have zf1 := pre_ck zf
      clear zf; obtain ⟨zk_oq3, zf⟩ := zf1
      refine gfX12_158 h zk_oq3 dX12_fillReach_45 ?_
      refine gfX12_162 h (kf4_8 zk_oq3) dX12_fillReach_48 ?_
      refine g_nmI zf ?_
      clear zf; intro vq4 zf
      refine g_iconst h 1 (v := 1) (by decide) dX12_fillReach_51 ?_
      refine g_isub h dX12_fillReach_52 ?_
      refine g_nmI zf ?_
      clear zf; intro vq5 zf
      refine g_istore_n h rfl [(3, .int vq5), (0, rv G.1 0), (1, .int x1), (2, .int x2)] (by decide) rfl dX12_fillReach_53 ?_
      refine g_sub h [1, 2, 3, 0] rfl ?_
      exact kX12_fillReach_l54 h _ _ _ _ _ _ zf
    · refine g_aload_n h 0 rfl dX12_fillReach_25 ?_
      refine gfX12_86 h (by decide : kd 0 = 10) dX12_fillReach_26 ?_
      refine g_iload_n h 3 rfl dX12_fillReach_29 ?_
      refine g_iconst h 0 (v := 0) (by decide) dX12_fillReach_30 ?_
      refine g_iast h 128 (by decide : kd 102 = 20) (by decide) zf dX12_fillReach_31 ?_
      clear zf; intro Mq16 zf
      refine g_iinc h 3 3 rfl (v := x3 + 1) (congrArg (fun z => x3 + z) (by decide : Int32.ofInt (1) = (1 : Int32))) [(3, .int (x3 + 1)), (0, rv G.1 0), (1, .int x1), (2, .int x2)] (by decide) rfl dX12_fillReach_32 ?_
      refine g_nmV zf ?_
      clear zf; intro vq17 zf
      refine g_goto h 16 (by decide) dX12_fillReach_35 ?_
      refine g_sub h [1, 2, 3, 0] rfl ?_
      exact ih _ _ _ _ _ zf

theorem kX12_fillReach_e0 {G : GX} (h : OKm G cX12_fillReach RX12 8 none { frames := 2, cells := 0, slots := 0, locals := 47 }) {M : Mem} {x1 : Int32} {res : Mem} (zf : fX12_fillReach M x1 = some res) : GG G (Qm G (Pwv res) 0 0) 0 0 0 [(0, rv G.1 0), (1, .int x1)] [] M := by
  unfold fX12_fillReach at zf
  refine g_aload_n h 0 rfl dX12_fillReach_0 ?_
  refine gfX12_36 h (by decide : kd 0 = 10) dX12_fillReach_1 ?_
  refine gfX12_111 h (by decide : kd 28 = 6) dX12_fillReach_4 ?_
  refine g_nmR zf ?_
  clear zf; intro oq1 zf
  have zf1 := pre_ck zf
  clear zf; obtain ⟨zk_oq1, zf⟩ := zf1
  refine gfX12_165 h zk_oq1 dX12_fillReach_7 ?_
  refine gfX12_162 h (kf4_11 zk_oq1) dX12_fillReach_10 ?_
  refine g_nmI zf ?_
  clear zf; intro vq2 zf
  refine g_istore_n h rfl [(2, .int vq2), (0, rv G.1 0), (1, .int x1)] (by decide) rfl dX12_fillReach_13 ?_
  refine g_iconst h 0 (v := 0) (by decide) dX12_fillReach_14 ?_
  refine g_istore_n h rfl [(3, .int 0), (2, .int vq2), (0, rv G.1 0), (1, .int x1)] (by decide) rfl dX12_fillReach_15 ?_
  refine g_sub h [2, 3, 1, 0] rfl ?_
  exact kX12_fillReach_l16 h _ _ _ _ _ _ zf

theorem cmX12_fillReach {l : Launch} {w : WX} {M : Mem} {x1 : Int32} {res : Mem} (zf : fX12_fillReach M x1 = some res) : CM l w yX12_fillReach cX12_fillReach 8 none { frames := 2, cells := 0, slots := 0, locals := 47 } 0 0 [rv w 0, .int x1] M (Pwv res) := by
  refine CM_of (by decide) (Nat.le_of_ble_eq_true rfl) (fun G hw hl h => ?_)
  subst hw
  exact kX12_fillReach_e0 h zf

-- X12_bestGate
theorem kX12_bestGate_b70 {G : GX} (h : OKm G cX12_bestGate RX12 8 (some .int) { frames := 2, cells := 0, slots := 0, locals := 47 }) {a17 : Mem → Int32 → Int32 → Int32 → Int32 → Int32 → Option Int32} (zh17 : ∀ (M : Mem) (x2 : Int32) (x3 : Int32) (x4 : Int32) (x5 : Int32) (x6 : Int32) (res : Int32), a17 M x2 x3 x4 x5 x6 = some res → GG G (Qm G (Pri res M) 0 0) 0 0 17 [(0, rv G.1 0), (2, .int x2), (3, .int x3), (4, .int x4), (5, .int x5), (6, .int x6)] [] M) {M : Mem} {x2 : Int32} {x3 : Int32} {x4 : Int32} {x5 : Int32} {x6 : Int32} {res : Int32} (zf : fX12_bestGate_b70 a17 M x2 x3 x4 x5 x6 = some res) : GG G (Qm G (Pri res M) 0 0) 0 0 70 [(0, rv G.1 0), (2, .int x2), (3, .int x3), (4, .int x4), (5, .int x5), (6, .int x6)] [] M := by
  unfold fX12_bestGate_b70 at zf
  refine g_iinc h 6 5 rfl (v := x6 + 1) (congrArg (fun z => x6 + z) (by decide : Int32.ofInt (1) = (1 : Int32))) [(6, .int (x6 + 1)), (0, rv G.1 0), (2, .int x2), (3, .int x3), (4, .int x4), (5, .int x5)] (by decide) rfl dX12_bestGate_70 ?_
  refine g_nmV zf ?_
  clear zf; intro vq5 zf
  refine g_goto h 17 (by decide) dX12_bestGate_73 ?_
  refine g_sub h [1, 2, 3, 4, 5, 0] rfl ?_
  exact zh17 _ _ _ _ _ _ _ zf

theorem kX12_bestGate_l17 {G : GX} (h : OKm G cX12_bestGate RX12 8 (some .int) { frames := 2, cells := 0, slots := 0, locals := 47 }) : ∀ (n : Nat) (M : Mem) (x2 : Int32) (x3 : Int32) (x4 : Int32) (x5 : Int32) (x6 : Int32) (res : Int32), fX12_bestGate_l17 n M x2 x3 x4 x5 x6 = some res → GG G (Qm G (Pri res M) 0 0) 0 0 17 [(0, rv G.1 0), (2, .int x2), (3, .int x3), (4, .int x4), (5, .int x5), (6, .int x6)] [] M := by
  intro n
  induction n with
  | zero => intro M x2 x3 x4 x5 x6 res zf; rw [fX12_bestGate_l17] at zf; cases zf
  | succ n ih =>
    intro M x2 x3 x4 x5 x6 res zf
    rw [fX12_bestGate_l17] at zf
    refine g_iload h 5 rfl dX12_bestGate_17 ?_
    refine g_bipush h 7 (v := 7) (by decide) dX12_bestGate_19 ?_
    refine g_ic_ge h 76 (by decide) zf dX12_bestGate_21 ?_ ?_ <;> clear zf <;> intro zf
    · refine g_aload_n h 0 rfl dX12_bestGate_76 ?_
      refine gfX12_86 h (by decide : kd 0 = 10) dX12_bestGate_77 ?_
      refine g_iload_n h 1 rfl dX12_bestGate_80 ?_
      refine g_iald h 128 (by decide : kd 102 = 20) (by decide) zf dX12_bestGate_81 ?_
      clear zf; intro vq3 zf
      refine g_iload h 4 rfl dX12_bestGate_82 ?_
      refine g_ic_le h 91 (by decide) zf dX12_bestGate_84 ?_ ?_ <;> clear zf <;> intro zf
      · refine g_iload h 3 rfl dX12_bestGate_91 ?_
        obtain rfl := Option.some.inj zf
        exact g_iret h rfl ⟨rfl, rfl⟩ (Nat.le_refl _) (Nat.le_refl _) dX12_bestGate_93
      · refine g_iconst h (-1) (v := (-1)) (by decide) dX12_bestGate_87 ?_
        refine g_goto h 93 (by decide) dX12_bestGate_88 ?_
        obtain rfl := Option.some.inj zf
        exact g_iret h rfl ⟨rfl, rfl⟩ (Nat.le_refl _) (Nat.le_refl _) dX12_bestGate_93
    · refine g_iconst h 1 (v := 1) (by decide) dX12_bestGate_24 ?_
      refine g_iload h 5 rfl dX12_bestGate_25 ?_
      refine g_ishl h dX12_bestGate_27 ?_
      refine g_nmI zf ?_
      clear zf; intro vq4 zf
      refine g_istore h [(7, .int vq4), (0, rv G.1 0), (2, .int x2), (3, .int x3), (4, .int x4), (5, .int x5), (6, .int x6)] (by decide) rfl dX12_bestGate_28 ?_
      refine g_iload_n h 3 rfl dX12_bestGate_30 ?_
      refine g_iload h 0 rfl dX12_bestGate_31 ?_
      refine g_iand h dX12_bestGate_33 ?_
      refine g_if_eq h 70 (by decide) zf dX12_bestGate_34 ?_ ?_ <;> clear zf <;> intro zf
      · refine g_sub h [1, 2, 3, 4, 5, 6] rfl ?_
        exact kX12_bestGate_b70 h ih zf
      · refine g_aload_n h 1 rfl dX12_bestGate_37 ?_
        refine gfX12_86 h (by decide : kd 0 = 10) dX12_bestGate_38 ?_
        refine g_iload_n h 2 rfl dX12_bestGate_41 ?_
        refine g_iload h 0 rfl dX12_bestGate_42 ?_
        refine g_ixor h dX12_bestGate_44 ?_
        refine g_iald h 128 (by decide : kd 102 = 20) (by decide) zf dX12_bestGate_45 ?_
        clear zf; intro vq6 zf
        refine g_iconst h 1 (v := 1) (by decide) dX12_bestGate_46 ?_
        refine g_iadd h dX12_bestGate_47 ?_
        refine g_iload h 5 rfl dX12_bestGate_48 ?_
        refine g_ic_le h 70 (by decide) zf dX12_bestGate_50 ?_ ?_ <;> clear zf <;> intro zf
        · refine g_sub h [1, 2, 3, 4, 5, 6] rfl ?_
          exact kX12_bestGate_b70 h ih zf
        · refine g_aload_n h 1 rfl dX12_bestGate_53 ?_
          refine gfX12_86 h (by decide : kd 0 = 10) dX12_bestGate_54 ?_
          refine g_iload_n h 2 rfl dX12_bestGate_57 ?_
          refine g_iload h 0 rfl dX12_bestGate_58 ?_
          refine g_ixor h dX12_bestGate_60 ?_
          refine g_iald h 128 (by decide : kd 102 = 20) (by decide) zf dX12_bestGate_61 ?_
          clear zf; intro vq7 zf
          refine g_iconst h 1 (v := 1) (by decide) dX12_bestGate_62 ?_
          refine g_iadd h dX12_bestGate_63 ?_
          refine g_nmI zf ?_
          clear zf; intro vq8 zf
          refine g_istore h [(5, .int vq8), (7, .int vq4), (0, rv G.1 0), (2, .int x2), (3, .int x3), (4, .int x4), (6, .int x6)] (by decide) rfl dX12_bestGate_64 ?_
          refine g_iload h 6 rfl dX12_bestGate_66 ?_
          refine g_istore h [(4, .int x6), (5, .int vq8), (7, .int vq4), (0, rv G.1 0), (2, .int x2), (3, .int x3), (6, .int x6)] (by decide) rfl dX12_bestGate_68 ?_
          refine g_sub h [3, 4, 5, 0, 1, 6] rfl ?_
          exact kX12_bestGate_b70 h ih zf

theorem kX12_bestGate_e0 {G : GX} (h : OKm G cX12_bestGate RX12 8 (some .int) { frames := 2, cells := 0, slots := 0, locals := 47 }) {M : Mem} {x1 : Int32} {x2 : Int32} {res : Int32} (zf : fX12_bestGate M x1 x2 = some res) : GG G (Qm G (Pri res M) 0 0) 0 0 0 [(0, rv G.1 0), (1, .int x1), (2, .int x2)] [] M := by
  unfold fX12_bestGate at zf
  refine g_aload_n h 0 rfl dX12_bestGate_0 ?_
  refine g_iload_n h 1 rfl dX12_bestGate_1 ?_
  have zf1 := bd_some zf
  clear zf; obtain ⟨vq1, zq, zf⟩ := zf1
  refine g_callVri (As := [.int x1]) (rest := []) h ceX12_beatenBy mlX12_303 imX12_beatenBy seX12_beatenBy (by rfl) (kd_lt (by rw [(by decide : kd 0 = 10)]; decide)) (ent_10 (by decide : kd 0 = 10)) rfl rfl ⟨by decide, by decide⟩ ⟨by decide, by decide⟩ rfl dX12_bestGate_2 rfl (Nat.le_of_ble_eq_true rfl) (cmX12_beatenBy zq) ?_
  refine g_iload_n h 2 rfl dX12_bestGate_5 ?_
  refine g_iand h dX12_bestGate_6 ?_
  refine g_nmI zf ?_
  clear zf; intro vq2 zf
  refine g_istore_n h rfl [(3, .int vq2), (0, rv G.1 0), (1, .int x1), (2, .int x2)] (by decide) rfl dX12_bestGate_7 ?_
  refine g_iconst h (-1) (v := (-1)) (by decide) dX12_bestGate_8 ?_
  refine g_istore h [(4, .int (-1)), (3, .int vq2), (0, rv G.1 0), (1, .int x1), (2, .int x2)] (by decide) rfl dX12_bestGate_9 ?_
  refine g_iconst h 0 (v := 0) (by decide) dX12_bestGate_11 ?_
  refine g_istore h [(5, .int 0), (4, .int (-1)), (3, .int vq2), (0, rv G.1 0), (1, .int x1), (2, .int x2)] (by decide) rfl dX12_bestGate_12 ?_
  refine g_iconst h 0 (v := 0) (by decide) dX12_bestGate_14 ?_
  refine g_istore h [(6, .int 0), (5, .int 0), (4, .int (-1)), (3, .int vq2), (0, rv G.1 0), (1, .int x1), (2, .int x2)] (by decide) rfl dX12_bestGate_15 ?_
  refine g_sub h [4, 6, 3, 2, 1, 0] rfl ?_
  exact kX12_bestGate_l17 h _ _ _ _ _ _ _ _ zf

theorem cmX12_bestGate {l : Launch} {w : WX} {M : Mem} {x1 : Int32} {x2 : Int32} {res : Int32} (zf : fX12_bestGate M x1 x2 = some res) : CM l w yX12_bestGate cX12_bestGate 8 (some .int) { frames := 2, cells := 0, slots := 0, locals := 47 } 0 0 [rv w 0, .int x1, .int x2] M (Pri res M) := by
  refine CM_of (by decide) (Nat.le_of_ble_eq_true rfl) (fun G hw hl h => ?_)
  subst hw
  exact kX12_bestGate_e0 h zf

-- X12_chances
theorem kX12_chances_b44 {G : GX} {M : Mem} (h : OKm G cX12_chances RX12 6 (some .int) { frames := 0, cells := 0, slots := 0, locals := 0 }) {a6 : Int32 → Int32 → Int32 → Int32 → Int32 → Option Int32} (zh6 : ∀ (x1 : Int32) (x2 : Int32) (x3 : Int32) (x4 : Int32) (x5 : Int32) (res : Int32), a6 x1 x2 x3 x4 x5 = some res → GG G (Qm G (Pri res M) 0 0) 0 0 6 [(1, .int x1), (2, .int x2), (3, .int x3), (4, .int x4), (5, .int x5)] [] M) {x1 : Int32} {x2 : Int32} {x3 : Int32} {x4 : Int32} {x5 : Int32} {res : Int32} (zf : fX12_chances_b44 a6 x1 x2 x3 x4 x5 = some res) : GG G (Qm G (Pri res M) 0 0) 0 0 44 [(1, .int x1), (2, .int x2), (3, .int x3), (4, .int x4), (5, .int x5)] [] M := by
  unfold fX12_chances_b44 at zf
  refine g_iinc h 5 4 rfl (v := x5 + 1) (congrArg (fun z => x5 + z) (by decide : Int32.ofInt (1) = (1 : Int32))) [(5, .int (x5 + 1)), (1, .int x1), (2, .int x2), (3, .int x3), (4, .int x4)] (by decide) rfl dX12_chances_44 ?_
  refine g_nmV zf ?_
  clear zf; intro vq1 zf
  refine g_goto h 6 (by decide) dX12_chances_47 ?_
  refine g_sub h [1, 2, 3, 4, 0] rfl ?_
  exact zh6 _ _ _ _ _ _ zf

theorem kX12_chances_b41 {G : GX} {M : Mem} (h : OKm G cX12_chances RX12 6 (some .int) { frames := 0, cells := 0, slots := 0, locals := 0 }) {a6 : Int32 → Int32 → Int32 → Int32 → Int32 → Option Int32} (zh6 : ∀ (x1 : Int32) (x2 : Int32) (x3 : Int32) (x4 : Int32) (x5 : Int32) (res : Int32), a6 x1 x2 x3 x4 x5 = some res → GG G (Qm G (Pri res M) 0 0) 0 0 6 [(1, .int x1), (2, .int x2), (3, .int x3), (4, .int x4), (5, .int x5)] [] M) {x1 : Int32} {x2 : Int32} {x3 : Int32} {x5 : Int32} {s0 : Int32} {s1 : Int32} {res : Int32} (zf : fX12_chances_b41 a6 x1 x2 x3 x5 s0 s1 = some res) : GG G (Qm G (Pri res M) 0 0) 0 0 41 [(1, .int x1), (2, .int x2), (3, .int x3), (5, .int x5)] [.int s0, .int s1] M := by
  unfold fX12_chances_b41 at zf
  refine g_imul h dX12_chances_41 ?_
  refine g_nmI zf ?_
  clear zf; intro vq2 zf
  refine g_istore h [(4, .int vq2), (1, .int x1), (2, .int x2), (3, .int x3), (5, .int x5)] (by decide) rfl dX12_chances_42 ?_
  refine g_sub h [1, 2, 3, 0, 4] rfl ?_
  exact kX12_chances_b44 h zh6 zf

theorem kX12_chances_l6 {G : GX} {M : Mem} (h : OKm G cX12_chances RX12 6 (some .int) { frames := 0, cells := 0, slots := 0, locals := 0 }) : ∀ (n : Nat) (x1 : Int32) (x2 : Int32) (x3 : Int32) (x4 : Int32) (x5 : Int32) (res : Int32), fX12_chances_l6 n x1 x2 x3 x4 x5 = some res → GG G (Qm G (Pri res M) 0 0) 0 0 6 [(1, .int x1), (2, .int x2), (3, .int x3), (4, .int x4), (5, .int x5)] [] M := by
  intro n
  induction n with
  | zero => intro x1 x2 x3 x4 x5 res zf; rw [fX12_chances_l6] at zf; cases zf
  | succ n ih =>
    intro x1 x2 x3 x4 x5 res zf
    rw [fX12_chances_l6] at zf
    refine g_iload h 4 rfl dX12_chances_6 ?_
    refine g_bipush h 6 (v := 6) (by decide) dX12_chances_8 ?_
    refine g_ic_ge h 50 (by decide) zf dX12_chances_10 ?_ ?_ <;> clear zf <;> intro zf
    · refine g_iload h 3 rfl dX12_chances_50 ?_
      obtain rfl := Option.some.inj zf
      exact g_iret h rfl ⟨rfl, rfl⟩ (Nat.le_refl _) (Nat.le_refl _) dX12_chances_52
    · refine g_iload_n h 0 rfl dX12_chances_13 ?_
      refine g_iload h 4 rfl dX12_chances_14 ?_
      refine g_ishr h dX12_chances_16 ?_
      refine g_iconst h 1 (v := 1) (by decide) dX12_chances_17 ?_
      refine g_iand h dX12_chances_18 ?_
      refine g_if_eq h 44 (by decide) zf dX12_chances_19 ?_ ?_ <;> clear zf <;> intro zf
      · refine g_sub h [0, 1, 2, 3, 4] rfl ?_
        exact kX12_chances_b44 h ih zf
      · refine g_iload h 3 rfl dX12_chances_22 ?_
        refine g_iload_n h 1 rfl dX12_chances_24 ?_
        refine g_iload h 4 rfl dX12_chances_25 ?_
        refine g_ishr h dX12_chances_27 ?_
        refine g_iconst h 1 (v := 1) (by decide) dX12_chances_28 ?_
        refine g_iand h dX12_chances_29 ?_
        refine g_if_eq h 37 (by decide) zf dX12_chances_30 ?_ ?_ <;> clear zf <;> intro zf
        · refine g_bipush h 10 (v := 10) (by decide) dX12_chances_37 ?_
          refine g_iload_n h 2 rfl dX12_chances_39 ?_
          refine g_isub h dX12_chances_40 ?_
          refine g_sub h [0, 1, 2, 4] rfl ?_
          exact kX12_chances_b41 h ih zf
        · refine g_iload_n h 2 rfl dX12_chances_33 ?_
          refine g_goto h 41 (by decide) dX12_chances_34 ?_
          refine g_sub h [0, 1, 2, 4] rfl ?_
          exact kX12_chances_b41 h ih zf

theorem kX12_chances_e0 {G : GX} {M : Mem} (h : OKm G cX12_chances RX12 6 (some .int) { frames := 0, cells := 0, slots := 0, locals := 0 }) {x1 : Int32} {x2 : Int32} {x3 : Int32} {res : Int32} (zf : fX12_chances x1 x2 x3 = some res) : GG G (Qm G (Pri res M) 0 0) 0 0 0 [(0, rv G.1 0), (1, .int x1), (2, .int x2), (3, .int x3)] [] M := by
  unfold fX12_chances at zf
  refine g_iconst h 1 (v := 1) (by decide) dX12_chances_0 ?_
  refine g_istore h [(4, .int 1), (0, rv G.1 0), (1, .int x1), (2, .int x2), (3, .int x3)] (by decide) rfl dX12_chances_1 ?_
  refine g_iconst h 0 (v := 0) (by decide) dX12_chances_3 ?_
  refine g_istore h [(5, .int 0), (4, .int 1), (0, rv G.1 0), (1, .int x1), (2, .int x2), (3, .int x3)] (by decide) rfl dX12_chances_4 ?_
  refine g_sub h [3, 4, 5, 1, 0] rfl ?_
  exact kX12_chances_l6 h _ _ _ _ _ _ _ zf

theorem cmX12_chances {l : Launch} {w : WX} {M : Mem} {x1 : Int32} {x2 : Int32} {x3 : Int32} {res : Int32} (zf : fX12_chances x1 x2 x3 = some res) : CM l w yX12_chances cX12_chances 6 (some .int) { frames := 0, cells := 0, slots := 0, locals := 0 } 0 0 [rv w 0, .int x1, .int x2, .int x3] M (Pri res M) := by
  refine CM_of (by decide) (Nat.le_of_ble_eq_true rfl) (fun G hw hl h => ?_)
  subst hw
  exact kX12_chances_e0 h zf

-- X12_hasPlace
theorem kX12_hasPlace_e0 {G : GX} (h : OKm G cX12_hasPlace RX12 3 (some .boolean) { frames := 0, cells := 0, slots := 0, locals := 0 }) {M : Mem} {x1 : Int32} {x2 : Int32} {res : Int32} (zf : fX12_hasPlace M x1 x2 = some res) : GG G (Qm G (Pri res M) 0 0) 0 0 0 [(0, rv G.1 0), (1, .int x1), (2, .int x2)] [] M := by
  unfold fX12_hasPlace at zf
  refine g_iload_n h 2 rfl dX12_hasPlace_0 ?_
  refine g_if_lt h 24 (by decide) zf dX12_hasPlace_1 ?_ ?_ <;> clear zf <;> intro zf
  · refine g_iconst h 0 (v := 0) (by decide) dX12_hasPlace_24 ?_
    obtain rfl := Option.some.inj zf
    exact g_zret h (by decide) rfl ⟨rfl, rfl⟩ (Nat.le_refl _) (Nat.le_refl _) dX12_hasPlace_25
  · refine g_iload_n h 2 rfl dX12_hasPlace_4 ?_
    refine g_aload_n h 0 rfl dX12_hasPlace_5 ?_
    refine gfX12_36 h (by decide : kd 0 = 10) dX12_hasPlace_6 ?_
    refine gfX12_111 h (by decide : kd 28 = 6) dX12_hasPlace_9 ?_
    refine g_nmR zf ?_
    clear zf; intro oq1 zf
    have zf1 := pre_ck zf
    clear zf; obtain ⟨zk_oq1, zf⟩ := zf1
    refine gfX12_195 h zk_oq1 dX12_hasPlace_12 ?_
    refine g_iload_n h 1 rfl dX12_hasPlace_15 ?_
    refine g_iald h 2 (kf4_5 zk_oq1) (lf4_5 zk_oq1) zf dX12_hasPlace_16 ?_
    clear zf; intro vq2 zf
    refine g_ic_ge h 24 (by decide) zf dX12_hasPlace_17 ?_ ?_ <;> clear zf <;> intro zf
    · refine g_iconst h 0 (v := 0) (by decide) dX12_hasPlace_24 ?_
      obtain rfl := Option.some.inj zf
      exact g_zret h (by decide) rfl ⟨rfl, rfl⟩ (Nat.le_refl _) (Nat.le_refl _) dX12_hasPlace_25
    · refine g_iconst h 1 (v := 1) (by decide) dX12_hasPlace_20 ?_
      refine g_goto h 25 (by decide) dX12_hasPlace_21 ?_
      obtain rfl := Option.some.inj zf
      exact g_zret h (by decide) rfl ⟨rfl, rfl⟩ (Nat.le_refl _) (Nat.le_refl _) dX12_hasPlace_25

theorem cmX12_hasPlace {l : Launch} {w : WX} {M : Mem} {x1 : Int32} {x2 : Int32} {res : Int32} (zf : fX12_hasPlace M x1 x2 = some res) : CM l w yX12_hasPlace cX12_hasPlace 3 (some .boolean) { frames := 0, cells := 0, slots := 0, locals := 0 } 0 0 [rv w 0, .int x1, .int x2] M (Pri res M) := by
  refine CM_of (by decide) (Nat.le_of_ble_eq_true rfl) (fun G hw hl h => ?_)
  subst hw
  exact kX12_hasPlace_e0 h zf

-- X12_refuse
theorem kX12_refuse_e0 {G : GX} (h : OKm G cX12_refuse RX12 2 (some .int) { frames := 0, cells := 0, slots := 0, locals := 0 }) {M : Mem} {x1 : Int32} {res : (Int32 × Mem)} (zf : fX12_refuse M x1 = some res) : GG G (Qm G (Pwi res) 0 0) 0 0 0 [(0, rv G.1 0), (1, .int x1)] [] M := by
  unfold fX12_refuse at zf
  refine g_aload_n h 0 rfl dX12_refuse_0 ?_
  refine gfX12_20 h (by decide : kd 0 = 10) dX12_refuse_1 ?_
  refine g_iload_n h 1 rfl dX12_refuse_4 ?_
  refine g_dup2 h rfl rfl dX12_refuse_5 ?_
  refine g_iald h 3 (by decide : kd 2 = 20) (by decide) zf dX12_refuse_6 ?_
  clear zf; intro vq1 zf
  refine g_iconst h 1 (v := 1) (by decide) dX12_refuse_7 ?_
  refine g_iadd h dX12_refuse_8 ?_
  refine g_iast h 3 (by decide : kd 2 = 20) (by decide) zf dX12_refuse_9 ?_
  clear zf; intro Mq2 zf
  refine g_iconst h (-1) (v := (-1)) (by decide) dX12_refuse_10 ?_
  obtain rfl := Option.some.inj zf
  exact g_iret h rfl ⟨rfl, rfl⟩ (Nat.le_refl _) (Nat.le_refl _) dX12_refuse_11

theorem cmX12_refuse {l : Launch} {w : WX} {M : Mem} {x1 : Int32} {res : (Int32 × Mem)} (zf : fX12_refuse M x1 = some res) : CM l w yX12_refuse cX12_refuse 2 (some .int) { frames := 0, cells := 0, slots := 0, locals := 0 } 0 0 [rv w 0, .int x1] M (Pwi res) := by
  refine CM_of (by decide) (Nat.le_of_ble_eq_true rfl) (fun G hw hl h => ?_)
  subst hw
  exact kX12_refuse_e0 h zf

-- X12_followingSeed
theorem kX12_followingSeed_e0 {G : GX} {M : Mem} (h : OKm G cX12_followingSeed RX12 1 (some .int) { frames := 0, cells := 0, slots := 0, locals := 0 }) {x0 : Int32} {res : Int32} (zf : fX12_followingSeed x0 = some res) : GG G (Qm G (Pri res M) 0 0) 0 0 0 [(0, .int x0)] [] M := by
  unfold fX12_followingSeed at zf
  refine g_iload_n h 0 rfl dX12_followingSeed_0 ?_
  refine g_ldcw h 362 (v := 1103515245) coX12_362 dX12_followingSeed_1 ?_
  refine g_imul h dX12_followingSeed_4 ?_
  refine g_sipush h 12345 (v := 12345) (by decide) dX12_followingSeed_5 ?_
  refine g_iadd h dX12_followingSeed_8 ?_
  obtain rfl := Option.some.inj zf
  exact g_iret h rfl ⟨rfl, rfl⟩ (Nat.le_refl _) (Nat.le_refl _) dX12_followingSeed_9

theorem cmX12_followingSeed {l : Launch} {w : WX} {M : Mem} {x0 : Int32} {res : Int32} (zf : fX12_followingSeed x0 = some res) : CM l w yX12_followingSeed cX12_followingSeed 1 (some .int) { frames := 0, cells := 0, slots := 0, locals := 0 } 0 0 [.int x0] M (Pri res M) := by
  refine CM_of (by decide) (Nat.le_of_ble_eq_true rfl) (fun G hw hl h => ?_)
  subst hw
  exact kX12_followingSeed_e0 h zf

-- X12_passWithTerm
theorem kX12_passWithTerm_e0 {G : GX} (h : OKm G cX12_passWithTerm RX12 2 none { frames := 9, cells := 0, slots := 0, locals := 229 }) {M : Mem} {x1 : Int32} {res : Mem} (zf : fX12_passWithTerm M x1 = some res) : GG G (Qm G (Pwv res) 0 0) 0 0 0 [(0, rv G.1 0), (1, .int x1)] [] M := by
  unfold fX12_passWithTerm at zf
  refine g_aload_n h 0 rfl dX12_passWithTerm_0 ?_
  refine gfX12_56 h (by decide : kd 0 = 10) dX12_passWithTerm_1 ?_
  refine g_aload_n h 0 rfl dX12_passWithTerm_4 ?_
  refine gfX12_52 h (by decide : kd 0 = 10) dX12_passWithTerm_5 ?_
  have zf1 := bd_some zf
  clear zf; obtain ⟨Mq1, zq, zf⟩ := zf1
  refine g_callVwv (As := [rv G.1 81]) (rest := []) h ceX3_become mlX12_115 imX3_become seX3_become (by rfl) (kd_lt (by rw [(by decide : kd 86 = 2)]; decide)) (ent_2 (by decide : kd 86 = 2)) rfl rfl ⟨by decide, by decide⟩ ⟨by decide, by decide⟩ rfl dX12_passWithTerm_8 rfl (Nat.le_of_ble_eq_true rfl) (cmX3_become zq) ?_
  refine g_aload_n h 0 rfl dX12_passWithTerm_11 ?_
  refine gfX12_56 h (by decide : kd 0 = 10) dX12_passWithTerm_12 ?_
  refine g_iload_n h 1 rfl dX12_passWithTerm_15 ?_
  refine pfX12_141 h (by decide : kd 86 = 2) dX12_passWithTerm_16 ?_
  refine g_nmM zf ?_
  clear zf; intro Mq2 zf
  refine g_aload_n h 0 rfl dX12_passWithTerm_19 ?_
  refine gfX12_36 h (by decide : kd 0 = 10) dX12_passWithTerm_20 ?_
  refine g_aload_n h 0 rfl dX12_passWithTerm_23 ?_
  refine gfX12_56 h (by decide : kd 0 = 10) dX12_passWithTerm_24 ?_
  refine g_bipush h 30 (v := 30) (by decide) dX12_passWithTerm_27 ?_
  have zf1 := bd_some zf
  clear zf; obtain ⟨Mq3, zq, zf⟩ := zf1
  refine g_callVwv (As := [rv G.1 86, .int 30]) (rest := []) h ceX7_passMany mlX12_244 imX7_passMany seX7_passMany (by rfl) (kd_lt (by rw [(by decide : kd 28 = 6)]; decide)) (ent_6 (by decide : kd 28 = 6)) rfl rfl ⟨by decide, by decide⟩ ⟨by decide, by decide⟩ rfl dX12_passWithTerm_29 rfl (Nat.le_of_ble_eq_true rfl) (cmX7_passMany zq) ?_
  obtain rfl := Option.some.inj zf
  exact g_vret h rfl ⟨rfl, rfl⟩ (Nat.le_refl _) (Nat.le_refl _) dX12_passWithTerm_32

theorem cmX12_passWithTerm {l : Launch} {w : WX} {M : Mem} {x1 : Int32} {res : Mem} (zf : fX12_passWithTerm M x1 = some res) : CM l w yX12_passWithTerm cX12_passWithTerm 2 none { frames := 9, cells := 0, slots := 0, locals := 229 } 0 0 [rv w 0, .int x1] M (Pwv res) := by
  refine CM_of (by decide) (Nat.le_of_ble_eq_true rfl) (fun G hw hl h => ?_)
  subst hw
  exact kX12_passWithTerm_e0 h zf

-- X12_fair
theorem kX12_fair_l2 {G : GX} (h : OKm G cX12_fair RX12 2 (some .int) { frames := 10, cells := 0, slots := 0, locals := 250 }) : ∀ (n : Nat) (M : Mem) (x1 : Int32) (res : (Int32 × Mem)), fX12_fair_l2 n M x1 = some res → GG G (Qm G (Pwi res) 0 0) 0 0 2 [(0, rv G.1 0), (1, .int x1)] [] M := by
  intro n
  induction n with
  | zero => intro M x1 res zf; rw [fX12_fair_l2] at zf; cases zf
  | succ n ih =>
    intro M x1 res zf
    rw [fX12_fair_l2] at zf
    refine g_iload_n h 1 rfl dX12_fair_2 ?_
    refine g_iconst h 5 (v := 5) (by decide) dX12_fair_3 ?_
    refine g_ic_gt h 37 (by decide) zf dX12_fair_4 ?_ ?_ <;> clear zf <;> intro zf
    · refine g_iconst h (-1) (v := (-1)) (by decide) dX12_fair_37 ?_
      obtain rfl := Option.some.inj zf
      exact g_iret h rfl ⟨rfl, rfl⟩ (Nat.le_refl _) (Nat.le_refl _) dX12_fair_38
    · refine g_aload_n h 0 rfl dX12_fair_7 ?_
      refine g_iload_n h 1 rfl dX12_fair_8 ?_
      have zf1 := bd_some zf
      clear zf; obtain ⟨Mq1, zq, zf⟩ := zf1
      refine g_callVwv (As := [.int x1]) (rest := []) h ceX12_passWithTerm mlX12_269 imX12_passWithTerm seX12_passWithTerm (by rfl) (kd_lt (by rw [(by decide : kd 0 = 10)]; decide)) (ent_10 (by decide : kd 0 = 10)) rfl rfl ⟨by decide, by decide⟩ ⟨by decide, by decide⟩ rfl dX12_fair_9 rfl (Nat.le_of_ble_eq_true rfl) (cmX12_passWithTerm zq) ?_
      refine g_aload_n h 0 rfl dX12_fair_12 ?_
      refine gfX12_56 h (by decide : kd 0 = 10) dX12_fair_13 ?_
      refine gfX12_147 h (by decide : kd 86 = 2) dX12_fair_16 ?_
      refine g_nmI zf ?_
      clear zf; intro vq2 zf
      refine g_aload_n h 0 rfl dX12_fair_19 ?_
      refine gfX12_52 h (by decide : kd 0 = 10) dX12_fair_20 ?_
      refine gfX12_147 h (by decide : kd 81 = 2) dX12_fair_23 ?_
      refine g_nmI zf ?_
      clear zf; intro vq3 zf
      refine g_ic_ne h 31 (by decide) zf dX12_fair_26 ?_ ?_ <;> clear zf <;> intro zf
      · refine g_iinc h 1 1 rfl (v := x1 + 1) (congrArg (fun z => x1 + z) (by decide : Int32.ofInt (1) = (1 : Int32))) [(1, .int (x1 + 1)), (0, rv G.1 0)] (by decide) rfl dX12_fair_31 ?_
        refine g_nmV zf ?_
        clear zf; intro vq4 zf
        refine g_goto h 2 (by decide) dX12_fair_34 ?_
        refine g_sub h [1, 0] rfl ?_
        exact ih _ _ _ zf
      · refine g_iload_n h 1 rfl dX12_fair_29 ?_
        obtain rfl := Option.some.inj zf
        exact g_iret h rfl ⟨rfl, rfl⟩ (Nat.le_refl _) (Nat.le_refl _) dX12_fair_30

theorem kX12_fair_e0 {G : GX} (h : OKm G cX12_fair RX12 2 (some .int) { frames := 10, cells := 0, slots := 0, locals := 250 }) {M : Mem} {res : (Int32 × Mem)} (zf : fX12_fair M = some res) : GG G (Qm G (Pwi res) 0 0) 0 0 0 [(0, rv G.1 0)] [] M := by
  unfold fX12_fair at zf
  refine g_iconst h 1 (v := 1) (by decide) dX12_fair_0 ?_
  refine g_istore_n h rfl [(1, .int 1), (0, rv G.1 0)] (by decide) rfl dX12_fair_1 ?_
  refine g_sub h [1, 0] rfl ?_
  exact kX12_fair_l2 h _ _ _ _ zf

theorem cmX12_fair {l : Launch} {w : WX} {M : Mem} {res : (Int32 × Mem)} (zf : fX12_fair M = some res) : CM l w yX12_fair cX12_fair 2 (some .int) { frames := 10, cells := 0, slots := 0, locals := 250 } 0 0 [rv w 0] M (Pwi res) := by
  refine CM_of (by decide) (Nat.le_of_ble_eq_true rfl) (fun G hw hl h => ?_)
  subst hw
  exact kX12_fair_e0 h zf

-- X12_fault
theorem kX12_fault_e0 {G : GX} (h : OKm G cX12_fault RX12 1 (some .int) { frames := 0, cells := 0, slots := 0, locals := 0 }) {M : Mem} {res : Int32} (zf : fX12_fault M = some res) : GG G (Qm G (Pri res M) 0 0) 0 0 0 [(0, rv G.1 0)] [] M := by
  unfold fX12_fault at zf
  refine g_aload_n h 0 rfl dX12_fault_0 ?_
  refine gfX12_17 h (by decide : kd 0 = 10) dX12_fault_1 ?_
  refine g_nmI zf ?_
  clear zf; intro vq1 zf
  obtain rfl := Option.some.inj zf
  exact g_iret h rfl ⟨rfl, rfl⟩ (Nat.le_refl _) (Nat.le_refl _) dX12_fault_4

theorem cmX12_fault {l : Launch} {w : WX} {M : Mem} {res : Int32} (zf : fX12_fault M = some res) : CM l w yX12_fault cX12_fault 1 (some .int) { frames := 0, cells := 0, slots := 0, locals := 0 } 0 0 [rv w 0] M (Pri res M) := by
  refine CM_of (by decide) (Nat.le_of_ble_eq_true rfl) (fun G hw hl h => ?_)
  subst hw
  exact kX12_fault_e0 h zf

-- X12_tapeNumber
theorem kX12_tapeNumber_b42 {G : GX} (h : OKm G cX12_tapeNumber RX12 3 none { frames := 0, cells := 0, slots := 0, locals := 0 }) {a3 : Mem → Int32 → Int32 → Option Mem} (zh3 : ∀ (M : Mem) (x1 : Int32) (x2 : Int32) (res : Mem), a3 M x1 x2 = some res → GG G (Qm G (Pwv res) 0 0) 0 0 3 [(0, rv G.1 0), (1, .int x1), (2, .int x2)] [] M) {M : Mem} {x1 : Int32} {x2 : Int32} {res : Mem} (zf : fX12_tapeNumber_b42 a3 M x1 x2 = some res) : GG G (Qm G (Pwv res) 0 0) 0 0 42 [(0, rv G.1 0), (1, .int x1), (2, .int x2)] [] M := by
  unfold fX12_tapeNumber_b42 at zf
  refine g_iinc h 2 2 rfl (v := x2 + (-8)) (congrArg (fun z => x2 + z) (by decide : Int32.ofInt (-8) = (-8 : Int32))) [(2, .int (x2 + (-8))), (0, rv G.1 0), (1, .int x1)] (by decide) rfl dX12_tapeNumber_42 ?_
  refine g_nmV zf ?_
  clear zf; intro vq2 zf
  refine g_goto h 3 (by decide) dX12_tapeNumber_45 ?_
  refine g_sub h [1, 2, 0] rfl ?_
  exact zh3 _ _ _ _ zf

theorem kX12_tapeNumber_l3 {G : GX} (h : OKm G cX12_tapeNumber RX12 3 none { frames := 0, cells := 0, slots := 0, locals := 0 }) : ∀ (n : Nat) (M : Mem) (x1 : Int32) (x2 : Int32) (res : Mem), fX12_tapeNumber_l3 n M x1 x2 = some res → GG G (Qm G (Pwv res) 0 0) 0 0 3 [(0, rv G.1 0), (1, .int x1), (2, .int x2)] [] M := by
  intro n
  induction n with
  | zero => intro M x1 x2 res zf; rw [fX12_tapeNumber_l3] at zf; cases zf
  | succ n ih =>
    intro M x1 x2 res zf
    rw [fX12_tapeNumber_l3] at zf
    refine g_iload_n h 2 rfl dX12_tapeNumber_3 ?_
    refine g_if_lt h 48 (by decide) zf dX12_tapeNumber_4 ?_ ?_ <;> clear zf <;> intro zf
    · obtain rfl := Option.some.inj zf
      exact g_vret h rfl ⟨rfl, rfl⟩ (Nat.le_refl _) (Nat.le_refl _) dX12_tapeNumber_48
    · refine g_aload_n h 0 rfl dX12_tapeNumber_7 ?_
      refine gfX12_13 h (by decide : kd 0 = 10) dX12_tapeNumber_8 ?_
      refine g_nmI zf ?_
      clear zf; intro vq1 zf
      refine g_aload_n h 0 rfl dX12_tapeNumber_11 ?_
      refine gfX12_9 h (by decide : kd 0 = 10) dX12_tapeNumber_12 ?_
      refine g_blen h 700 (z := 700) (by decide : kd 1 = 21) (by decide) (by decide) dX12_tapeNumber_15 ?_
      refine g_ic_ge h 42 (by decide) zf dX12_tapeNumber_16 ?_ ?_ <;> clear zf <;> intro zf
      · refine g_sub h [0, 1, 2] rfl ?_
        exact kX12_tapeNumber_b42 h ih zf
      · refine g_aload_n h 0 rfl dX12_tapeNumber_19 ?_
        refine gfX12_9 h (by decide : kd 0 = 10) dX12_tapeNumber_20 ?_
        refine g_aload_n h 0 rfl dX12_tapeNumber_23 ?_
        refine gfX12_13 h (by decide : kd 0 = 10) dX12_tapeNumber_24 ?_
        refine g_nmI zf ?_
        clear zf; intro vq3 zf
        refine g_iload_n h 1 rfl dX12_tapeNumber_27 ?_
        refine g_iload_n h 2 rfl dX12_tapeNumber_28 ?_
        refine g_ishr h dX12_tapeNumber_29 ?_
        refine g_i2b h dX12_tapeNumber_30 ?_
        refine g_bast h 700 (by decide : kd 1 = 21) (by decide) zf dX12_tapeNumber_31 ?_
        clear zf; intro Mq4 zf
        refine g_aload_n h 0 rfl dX12_tapeNumber_32 ?_
        refine g_dup h rfl dX12_tapeNumber_33 ?_
        refine gfX12_13 h (by decide : kd 0 = 10) dX12_tapeNumber_34 ?_
        refine g_nmI zf ?_
        clear zf; intro vq5 zf
        refine g_iconst h 1 (v := 1) (by decide) dX12_tapeNumber_37 ?_
        refine g_iadd h dX12_tapeNumber_38 ?_
        refine pfX12_13 h (by decide : kd 0 = 10) dX12_tapeNumber_39 ?_
        refine g_nmM zf ?_
        clear zf; intro Mq6 zf
        refine g_sub h [0, 1, 2] rfl ?_
        exact kX12_tapeNumber_b42 h ih zf

theorem kX12_tapeNumber_e0 {G : GX} (h : OKm G cX12_tapeNumber RX12 3 none { frames := 0, cells := 0, slots := 0, locals := 0 }) {M : Mem} {x1 : Int32} {res : Mem} (zf : fX12_tapeNumber M x1 = some res) : GG G (Qm G (Pwv res) 0 0) 0 0 0 [(0, rv G.1 0), (1, .int x1)] [] M := by
  unfold fX12_tapeNumber at zf
  refine g_bipush h 24 (v := 24) (by decide) dX12_tapeNumber_0 ?_
  refine g_istore_n h rfl [(2, .int 24), (0, rv G.1 0), (1, .int x1)] (by decide) rfl dX12_tapeNumber_2 ?_
  refine g_sub h [1, 2, 0] rfl ?_
  exact kX12_tapeNumber_l3 h _ _ _ _ _ zf

theorem cmX12_tapeNumber {l : Launch} {w : WX} {M : Mem} {x1 : Int32} {res : Mem} (zf : fX12_tapeNumber M x1 = some res) : CM l w yX12_tapeNumber cX12_tapeNumber 3 none { frames := 0, cells := 0, slots := 0, locals := 0 } 0 0 [rv w 0, .int x1] M (Pwv res) := by
  refine CM_of (by decide) (Nat.le_of_ble_eq_true rfl) (fun G hw hl h => ?_)
  subst hw
  exact kX12_tapeNumber_e0 h zf

-- X12_feed
theorem kX12_feed_e0 {G : GX} (h : OKm G cX12_feed RX12 6 (some .int) { frames := 1, cells := 0, slots := 0, locals := 22 }) {M : Mem} {x1 : Int32} {x2 : Int32} {x3 : Int32} {x4 : Int32} {x5 : Int32} {res : (Int32 × Mem)} (zf : fX12_feed M x1 x2 x3 x4 x5 = some res) : GG G (Qm G (Pwi res) 0 0) 0 0 0 [(0, rv G.1 0), (1, .int x1), (2, .int x2), (3, .int x3), (4, .int x4), (5, .int x5)] [] M := by
  unfold fX12_feed at zf
  refine g_aload_n h 0 rfl dX12_feed_0 ?_
  refine gfX12_13 h (by decide : kd 0 = 10) dX12_feed_1 ?_
  refine g_nmI zf ?_
  clear zf; intro vq1 zf
  refine g_bipush h 20 (v := 20) (by decide) dX12_feed_4 ?_
  refine g_iadd h dX12_feed_6 ?_
  refine g_sipush h 700 (v := 700) (by decide) dX12_feed_7 ?_
  refine g_ic_le h 15 (by decide) zf dX12_feed_10 ?_ ?_ <;> clear zf <;> intro zf
  · refine g_aload_n h 0 rfl dX12_feed_15 ?_
    refine g_iload_n h 1 rfl dX12_feed_16 ?_
    have zf1 := bd_some zf
    clear zf; obtain ⟨Mq2, zq, zf⟩ := zf1
    refine g_callVwv (As := [.int x1]) (rest := []) h ceX12_tapeNumber mlX12_89 imX12_tapeNumber seX12_tapeNumber (by rfl) (kd_lt (by rw [(by decide : kd 0 = 10)]; decide)) (ent_10 (by decide : kd 0 = 10)) rfl rfl ⟨by decide, by decide⟩ ⟨by decide, by decide⟩ rfl dX12_feed_17 rfl (Nat.le_of_ble_eq_true rfl) (cmX12_tapeNumber zq) ?_
    refine g_aload_n h 0 rfl dX12_feed_20 ?_
    refine g_iload_n h 2 rfl dX12_feed_21 ?_
    have zf1 := bd_some zf
    clear zf; obtain ⟨Mq3, zq, zf⟩ := zf1
    refine g_callVwv (As := [.int x2]) (rest := []) h ceX12_tapeNumber mlX12_89 imX12_tapeNumber seX12_tapeNumber (by rfl) (kd_lt (by rw [(by decide : kd 0 = 10)]; decide)) (ent_10 (by decide : kd 0 = 10)) rfl rfl ⟨by decide, by decide⟩ ⟨by decide, by decide⟩ rfl dX12_feed_22 rfl (Nat.le_of_ble_eq_true rfl) (cmX12_tapeNumber zq) ?_
    refine g_aload_n h 0 rfl dX12_feed_25 ?_
    refine g_iload_n h 3 rfl dX12_feed_26 ?_
    have zf1 := bd_some zf
    clear zf; obtain ⟨Mq4, zq, zf⟩ := zf1
    refine g_callVwv (As := [.int x3]) (rest := []) h ceX12_tapeNumber mlX12_89 imX12_tapeNumber seX12_tapeNumber (by rfl) (kd_lt (by rw [(by decide : kd 0 = 10)]; decide)) (ent_10 (by decide : kd 0 = 10)) rfl rfl ⟨by decide, by decide⟩ ⟨by decide, by decide⟩ rfl dX12_feed_27 rfl (Nat.le_of_ble_eq_true rfl) (cmX12_tapeNumber zq) ?_
    refine g_aload_n h 0 rfl dX12_feed_30 ?_
    refine g_iload h 4 rfl dX12_feed_31 ?_
    have zf1 := bd_some zf
    clear zf; obtain ⟨Mq5, zq, zf⟩ := zf1
    refine g_callVwv (As := [.int x4]) (rest := []) h ceX12_tapeNumber mlX12_89 imX12_tapeNumber seX12_tapeNumber (by rfl) (kd_lt (by rw [(by decide : kd 0 = 10)]; decide)) (ent_10 (by decide : kd 0 = 10)) rfl rfl ⟨by decide, by decide⟩ ⟨by decide, by decide⟩ rfl dX12_feed_33 rfl (Nat.le_of_ble_eq_true rfl) (cmX12_tapeNumber zq) ?_
    refine g_aload_n h 0 rfl dX12_feed_36 ?_
    refine g_iload h 5 rfl dX12_feed_37 ?_
    have zf1 := bd_some zf
    clear zf; obtain ⟨Mq6, zq, zf⟩ := zf1
    refine g_callVwv (As := [.int x5]) (rest := []) h ceX12_tapeNumber mlX12_89 imX12_tapeNumber seX12_tapeNumber (by rfl) (kd_lt (by rw [(by decide : kd 0 = 10)]; decide)) (ent_10 (by decide : kd 0 = 10)) rfl rfl ⟨by decide, by decide⟩ ⟨by decide, by decide⟩ rfl dX12_feed_39 rfl (Nat.le_of_ble_eq_true rfl) (cmX12_tapeNumber zq) ?_
    refine g_aload_n h 0 rfl dX12_feed_42 ?_
    refine gfX12_13 h (by decide : kd 0 = 10) dX12_feed_43 ?_
    refine g_nmI zf ?_
    clear zf; intro vq7 zf
    obtain rfl := Option.some.inj zf
    exact g_iret h rfl ⟨rfl, rfl⟩ (Nat.le_refl _) (Nat.le_refl _) dX12_feed_46
  · refine g_iconst h (-1) (v := (-1)) (by decide) dX12_feed_13 ?_
    obtain rfl := Option.some.inj zf
    exact g_iret h rfl ⟨rfl, rfl⟩ (Nat.le_refl _) (Nat.le_refl _) dX12_feed_14

theorem cmX12_feed {l : Launch} {w : WX} {M : Mem} {x1 : Int32} {x2 : Int32} {x3 : Int32} {x4 : Int32} {x5 : Int32} {res : (Int32 × Mem)} (zf : fX12_feed M x1 x2 x3 x4 x5 = some res) : CM l w yX12_feed cX12_feed 6 (some .int) { frames := 1, cells := 0, slots := 0, locals := 22 } 0 0 [rv w 0, .int x1, .int x2, .int x3, .int x4, .int x5] M (Pwi res) := by
  refine CM_of (by decide) (Nat.le_of_ble_eq_true rfl) (fun G hw hl h => ?_)
  subst hw
  exact kX12_feed_e0 h zf

