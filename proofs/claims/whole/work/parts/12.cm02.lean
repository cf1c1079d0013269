-- X12_forget
theorem kX12_forget_e0 {G : GX} (h : OKm G cX12_forget RX12 1 none { frames := 0, cells := 0, slots := 0, locals := 0 }) {M : Mem} {res : Mem} (zf : fX12_forget M = some res) : GG G (Qm G (Pwv res) 0 0) 0 0 0 [(0, rv G.1 0)] [] M := by
  unfold fX12_forget at zf
  refine g_aload_n h 0 rfl dX12_forget_0 ?_
  refine gfX12_69 h (by decide : kd 0 = 10) dX12_forget_1 ?_
  refine g_iconst h 0 (v := 0) (by decide) dX12_forget_4 ?_
  refine pfX12_122 h (by decide : kd 93 = 8) dX12_forget_5 ?_
  refine g_nmM zf ?_
  clear zf; intro Mq1 zf
  obtain rfl := Option.some.inj zf
  exact g_vret h rfl ⟨rfl, rfl⟩ (Nat.le_refl _) (Nat.le_refl _) dX12_forget_8

theorem cmX12_forget {l : Launch} {w : WX} {M : Mem} {res : Mem} (zf : fX12_forget M = some res) : CM l w yX12_forget cX12_forget 1 none { frames := 0, cells := 0, slots := 0, locals := 0 } 0 0 [rv w 0] M (Pwv res) := by
  refine CM_of (by decide) (Nat.le_of_ble_eq_true rfl) (fun G hw hl h => ?_)
  subst hw
  exact kX12_forget_e0 h zf

-- X12_gloryWithSwap
theorem kX12_gloryWithSwap_e0 {G : GX} (h : OKm G cX12_gloryWithSwap RX12 5 (some .int) { frames := 9, cells := 0, slots := 0, locals := 229 }) {M : Mem} {x1 : Int32} {x2 : Int32} {x3 : Int32} {res : (Int32 × Mem)} (zf : fX12_gloryWithSwap M x1 x2 x3 = some res) : GG G (Qm G (Pwi res) 0 0) 0 0 0 [(0, rv G.1 0), (1, .int x1), (2, .int x2), (3, .int x3)] [] M := by
  unfold fX12_gloryWithSwap at zf
  refine g_aload_n h 0 rfl dX12_gloryWithSwap_0 ?_
  refine gfX12_56 h (by decide : kd 0 = 10) dX12_gloryWithSwap_1 ?_
  refine g_aload_n h 0 rfl dX12_gloryWithSwap_4 ?_
  refine gfX12_52 h (by decide : kd 0 = 10) dX12_gloryWithSwap_5 ?_
  have zf1 := bd_some zf
  clear zf; obtain ⟨Mq1, zq, zf⟩ := zf1
  refine g_callVwv (As := [rv G.1 81]) (rest := []) h ceX3_become mlX12_115 imX3_become seX3_become (by rfl) (kd_lt (by rw [(by decide : kd 86 = 2)]; decide)) (ent_2 (by decide : kd 86 = 2)) rfl rfl ⟨by decide, by decide⟩ ⟨by decide, by decide⟩ rfl dX12_gloryWithSwap_8 rfl (Nat.le_of_ble_eq_true rfl) (cmX3_become zq) ?_
  refine g_iload_n h 1 rfl dX12_gloryWithSwap_11 ?_
  refine g_bipush h 6 (v := 6) (by decide) dX12_gloryWithSwap_12 ?_
  refine g_imul h dX12_gloryWithSwap_14 ?_
  refine g_nmI zf ?_
  clear zf; intro vq2 zf
  refine g_istore h [(4, .int vq2), (0, rv G.1 0), (1, .int x1), (2, .int x2), (3, .int x3)] (by decide) rfl dX12_gloryWithSwap_15 ?_
  refine g_aload_n h 1 rfl dX12_gloryWithSwap_17 ?_
  refine gfX12_56 h (by decide : kd 0 = 10) dX12_gloryWithSwap_18 ?_
  refine gfX12_214 h (by decide : kd 86 = 2) dX12_gloryWithSwap_21 ?_
  change GG G _ _ _ _ _ (rv G.1 89 :: _) _
  refine g_iload h 0 rfl dX12_gloryWithSwap_24 ?_
  refine g_iload_n h 3 rfl dX12_gloryWithSwap_26 ?_
  refine g_iadd h dX12_gloryWithSwap_27 ?_
  refine g_aload_n h 1 rfl dX12_gloryWithSwap_28 ?_
  refine gfX12_52 h (by decide : kd 0 = 10) dX12_gloryWithSwap_29 ?_
  refine gfX12_214 h (by decide : kd 81 = 2) dX12_gloryWithSwap_32 ?_
  change GG G _ _ _ _ _ (rv G.1 84 :: _) _
  refine g_iload h 0 rfl dX12_gloryWithSwap_35 ?_
  refine g_iload_n h 4 rfl dX12_gloryWithSwap_37 ?_
  refine g_iadd h dX12_gloryWithSwap_38 ?_
  refine g_iald h 12 (by decide : kd 84 = 20) (by decide) zf dX12_gloryWithSwap_39 ?_
  clear zf; intro vq3 zf
  refine g_iast h 12 (by decide : kd 89 = 20) (by decide) zf dX12_gloryWithSwap_40 ?_
  clear zf; intro Mq4 zf
  refine g_aload_n h 1 rfl dX12_gloryWithSwap_41 ?_
  refine gfX12_56 h (by decide : kd 0 = 10) dX12_gloryWithSwap_42 ?_
  refine gfX12_214 h (by decide : kd 86 = 2) dX12_gloryWithSwap_45 ?_
  change GG G _ _ _ _ _ (rv G.1 89 :: _) _
  refine g_iload h 0 rfl dX12_gloryWithSwap_48 ?_
  refine g_iload_n h 4 rfl dX12_gloryWithSwap_50 ?_
  refine g_iadd h dX12_gloryWithSwap_51 ?_
  refine g_aload_n h 1 rfl dX12_gloryWithSwap_52 ?_
  refine gfX12_52 h (by decide : kd 0 = 10) dX12_gloryWithSwap_53 ?_
  refine gfX12_214 h (by decide : kd 81 = 2) dX12_gloryWithSwap_56 ?_
  change GG G _ _ _ _ _ (rv G.1 84 :: _) _
  refine g_iload h 0 rfl dX12_gloryWithSwap_59 ?_
  refine g_iload_n h 3 rfl dX12_gloryWithSwap_61 ?_
  refine g_iadd h dX12_gloryWithSwap_62 ?_
  refine g_iald h 12 (by decide : kd 84 = 20) (by decide) zf dX12_gloryWithSwap_63 ?_
  clear zf; intro vq5 zf
  refine g_iast h 12 (by decide : kd 89 = 20) (by decide) zf dX12_gloryWithSwap_64 ?_
  clear zf; intro Mq6 zf
  refine g_aload_n h 1 rfl dX12_gloryWithSwap_65 ?_
  refine gfX12_36 h (by decide : kd 0 = 10) dX12_gloryWithSwap_66 ?_
  refine g_aload_n h 1 rfl dX12_gloryWithSwap_69 ?_
  refine gfX12_56 h (by decide : kd 0 = 10) dX12_gloryWithSwap_70 ?_
  refine g_bipush h 30 (v := 30) (by decide) dX12_gloryWithSwap_73 ?_
  have zf1 := bd_some zf
  clear zf; obtain ⟨Mq7, zq, zf⟩ := zf1
  refine g_callVwv (As := [rv G.1 86, .int 30]) (rest := []) h ceX7_passMany mlX12_244 imX7_passMany seX7_passMany (by rfl) (kd_lt (by rw [(by decide : kd 28 = 6)]; decide)) (ent_6 (by decide : kd 28 = 6)) rfl rfl ⟨by decide, by decide⟩ ⟨by decide, by decide⟩ rfl dX12_gloryWithSwap_75 rfl (Nat.le_of_ble_eq_true rfl) (cmX7_passMany zq) ?_
  refine g_aload_n h 1 rfl dX12_gloryWithSwap_78 ?_
  refine gfX12_56 h (by decide : kd 0 = 10) dX12_gloryWithSwap_79 ?_
  refine gfX12_191 h (by decide : kd 86 = 2) dX12_gloryWithSwap_82 ?_
  change GG G _ _ _ _ _ (rv G.1 88 :: _) _
  refine g_iload_n h 2 rfl dX12_gloryWithSwap_85 ?_
  refine g_iald h 2 (by decide : kd 88 = 20) (by decide) zf dX12_gloryWithSwap_86 ?_
  clear zf; intro vq8 zf
  obtain rfl := Option.some.inj zf
  exact g_iret h rfl ⟨rfl, rfl⟩ (Nat.le_refl _) (Nat.le_refl _) dX12_gloryWithSwap_87

theorem cmX12_gloryWithSwap {l : Launch} {w : WX} {M : Mem} {x1 : Int32} {x2 : Int32} {x3 : Int32} {res : (Int32 × Mem)} (zf : fX12_gloryWithSwap M x1 x2 x3 = some res) : CM l w yX12_gloryWithSwap cX12_gloryWithSwap 5 (some .int) { frames := 9, cells := 0, slots := 0, locals := 229 } 0 0 [rv w 0, .int x1, .int x2, .int x3] M (Pwi res) := by
  refine CM_of (by decide) (Nat.le_of_ble_eq_true rfl) (fun G hw hl h => ?_)
  subst hw
  exact kX12_gloryWithSwap_e0 h zf

-- X12_image
theorem kX12_image_e0 {G : GX} (h : OKm G cX12_image RX12 1 none { frames := 2, cells := 0, slots := 0, locals := 222 }) {M : Mem} {res : Mem} (zf : fX12_image M = some res) : GG G (Qm G (Pwv res) 0 0) 0 0 0 [(0, rv G.1 0)] [] M := by
  unfold fX12_image at zf
  refine g_aload_n h 0 rfl dX12_image_0 ?_
  refine gfX12_52 h (by decide : kd 0 = 10) dX12_image_1 ?_
  refine g_aload_n h 0 rfl dX12_image_4 ?_
  refine gfX12_77 h (by decide : kd 0 = 10) dX12_image_5 ?_
  refine g_iconst h 0 (v := 0) (by decide) dX12_image_8 ?_
  have zf1 := bd_some zf
  clear zf; obtain ⟨Mq1, zq, zf⟩ := zf1
  refine g_callVwv (As := [rv G.1 96, .int 0]) (rest := []) h ceX3_write mlX12_369 imX3_write seX3_write (by rfl) (kd_lt (by rw [(by decide : kd 81 = 2)]; decide)) (ent_2 (by decide : kd 81 = 2)) rfl rfl ⟨by decide, by decide⟩ ⟨by decide, by decide⟩ rfl dX12_image_9 rfl (Nat.le_of_ble_eq_true rfl) (cmX3_write zq) ?_
  refine g_aload_n h 0 rfl dX12_image_12 ?_
  refine gfX12_80 h (by decide : kd 0 = 10) dX12_image_13 ?_
  refine g_aload_n h 0 rfl dX12_image_16 ?_
  refine gfX12_62 h (by decide : kd 0 = 10) dX12_image_17 ?_
  have zf1 := bd_some zf
  clear zf; obtain ⟨Mq2, zq, zf⟩ := zf1
  refine g_callVwv (As := [rv G.1 91]) (rest := []) h ceX1_become mlX12_373 imX1_become seX1_become (by rfl) (kd_lt (by rw [(by decide : kd 97 = 0)]; decide)) (ent_0 (by decide : kd 97 = 0)) rfl rfl ⟨by decide, by decide⟩ ⟨by decide, by decide⟩ rfl dX12_image_20 rfl (Nat.le_of_ble_eq_true rfl) (cmX1_become zq) ?_
  refine g_aload_n h 0 rfl dX12_image_23 ?_
  refine gfX12_83 h (by decide : kd 0 = 10) dX12_image_24 ?_
  refine g_aload_n h 0 rfl dX12_image_27 ?_
  refine gfX12_69 h (by decide : kd 0 = 10) dX12_image_28 ?_
  have zf1 := bd_some zf
  clear zf; obtain ⟨Mq3, zq, zf⟩ := zf1
  refine g_callVwv (As := [rv G.1 93]) (rest := []) h ceX9_become mlX12_376 imX9_become seX9_become (by rfl) (kd_lt (by rw [(by decide : kd 99 = 8)]; decide)) (ent_8 (by decide : kd 99 = 8)) rfl rfl ⟨by decide, by decide⟩ ⟨by decide, by decide⟩ rfl dX12_image_31 rfl (Nat.le_of_ble_eq_true rfl) (cmX9_become zq) ?_
  refine g_aload_n h 0 rfl dX12_image_34 ?_
  refine g_iconst h 1 (v := 1) (by decide) dX12_image_35 ?_
  refine pfX12_73 h (by decide : kd 0 = 10) (by decide) dX12_image_36 ?_
  refine g_nmM zf ?_
  clear zf; intro Mq4 zf
  obtain rfl := Option.some.inj zf
  exact g_vret h rfl ⟨rfl, rfl⟩ (Nat.le_refl _) (Nat.le_refl _) dX12_image_39

theorem cmX12_image {l : Launch} {w : WX} {M : Mem} {res : Mem} (zf : fX12_image M = some res) : CM l w yX12_image cX12_image 1 none { frames := 2, cells := 0, slots := 0, locals := 222 } 0 0 [rv w 0] M (Pwv res) := by
  refine CM_of (by decide) (Nat.le_of_ble_eq_true rfl) (fun G hw hl h => ?_)
  subst hw
  exact kX12_image_e0 h zf

-- X12_least
theorem kX12_least_b42 {G : GX} (h : OKm G cX12_least RX12 4 (some .int) { frames := 10, cells := 0, slots := 0, locals := 250 }) {a6 : Mem → Int32 → Int32 → Int32 → Option (Int32 × Mem)} (zh6 : ∀ (M : Mem) (x1 : Int32) (x2 : Int32) (x3 : Int32) (res : (Int32 × Mem)), a6 M x1 x2 x3 = some res → GG G (Qm G (Pwi res) 0 0) 0 0 6 [(0, rv G.1 0), (1, .int x1), (2, .int x2), (3, .int x3)] [] M) {M : Mem} {x1 : Int32} {x2 : Int32} {x3 : Int32} {res : (Int32 × Mem)} (zf : fX12_least_b42 a6 M x1 x2 x3 = some res) : GG G (Qm G (Pwi res) 0 0) 0 0 42 [(0, rv G.1 0), (1, .int x1), (2, .int x2), (3, .int x3)] [] M := by
  unfold fX12_least_b42 at zf
  refine g_iinc h 3 3 rfl (v := x3 + 1) (congrArg (fun z => x3 + z) (by decide : Int32.ofInt (1) = (1 : Int32))) [(3, .int (x3 + 1)), (0, rv G.1 0), (1, .int x1), (2, .int x2)] (by decide) rfl dX12_least_42 ?_
  refine g_nmV zf ?_
  clear zf; intro vq3 zf
  refine g_goto h 6 (by decide) dX12_least_45 ?_
  refine g_sub h [1, 2, 3, 0] rfl ?_
  exact zh6 _ _ _ _ _ zf

theorem kX12_least_b32 {G : GX} (h : OKm G cX12_least RX12 4 (some .int) { frames := 10, cells := 0, slots := 0, locals := 250 }) {a6 : Mem → Int32 → Int32 → Int32 → Option (Int32 × Mem)} (zh6 : ∀ (M : Mem) (x1 : Int32) (x2 : Int32) (x3 : Int32) (res : (Int32 × Mem)), a6 M x1 x2 x3 = some res → GG G (Qm G (Pwi res) 0 0) 0 0 6 [(0, rv G.1 0), (1, .int x1), (2, .int x2), (3, .int x3)] [] M) {M : Mem} {x3 : Int32} {res : (Int32 × Mem)} (zf : fX12_least_b32 a6 M x3 = some res) : GG G (Qm G (Pwi res) 0 0) 0 0 32 [(0, rv G.1 0), (3, .int x3)] [] M := by
  unfold fX12_least_b32 at zf
  refine g_iload_n h 1 rfl dX12_least_32 ?_
  refine g_istore_n h rfl [(1, .int x3), (0, rv G.1 0), (3, .int x3)] (by decide) rfl dX12_least_33 ?_
  refine g_aload_n h 1 rfl dX12_least_34 ?_
  refine gfX12_56 h (by decide : kd 0 = 10) dX12_least_35 ?_
  refine gfX12_144 h (by decide : kd 86 = 2) dX12_least_38 ?_
  refine g_nmI zf ?_
  clear zf; intro vq2 zf
  refine g_istore_n h rfl [(2, .int vq2), (1, .int x3), (0, rv G.1 0), (3, .int x3)] (by decide) rfl dX12_least_41 ?_
  refine g_sub h [2, 1, 0, 3] rfl ?_
  exact kX12_least_b42 h zh6 zf

theorem kX12_least_l6 {G : GX} (h : OKm G cX12_least RX12 4 (some .int) { frames := 10, cells := 0, slots := 0, locals := 250 }) : ∀ (n : Nat) (M : Mem) (x1 : Int32) (x2 : Int32) (x3 : Int32) (res : (Int32 × Mem)), fX12_least_l6 n M x1 x2 x3 = some res → GG G (Qm G (Pwi res) 0 0) 0 0 6 [(0, rv G.1 0), (1, .int x1), (2, .int x2), (3, .int x3)] [] M := by
  intro n
  induction n with
  | zero => intro M x1 x2 x3 res zf; rw [fX12_least_l6] at zf; cases zf
  | succ n ih =>
    intro M x1 x2 x3 res zf
    rw [fX12_least_l6] at zf
    refine g_iload_n h 3 rfl dX12_least_6 ?_
    refine g_iconst h 5 (v := 5) (by decide) dX12_least_7 ?_
    refine g_ic_gt h 48 (by decide) zf dX12_least_8 ?_ ?_ <;> clear zf <;> intro zf
    · refine g_iload_n h 1 rfl dX12_least_48 ?_
      obtain rfl := Option.some.inj zf
      exact g_iret h rfl ⟨rfl, rfl⟩ (Nat.le_refl _) (Nat.le_refl _) dX12_least_49
    · refine g_aload_n h 0 rfl dX12_least_11 ?_
      refine g_iload_n h 3 rfl dX12_least_12 ?_
      have zf1 := bd_some zf
      clear zf; obtain ⟨Mq1, zq, zf⟩ := zf1
      refine g_callVwv (As := [.int x3]) (rest := []) h ceX12_passWithTerm mlX12_269 imX12_passWithTerm seX12_passWithTerm (by rfl) (kd_lt (by rw [(by decide : kd 0 = 10)]; decide)) (ent_10 (by decide : kd 0 = 10)) rfl rfl ⟨by decide, by decide⟩ ⟨by decide, by decide⟩ rfl dX12_least_13 rfl (Nat.le_of_ble_eq_true rfl) (cmX12_passWithTerm zq) ?_
      refine g_iload_n h 3 rfl dX12_least_16 ?_
      refine g_iconst h 1 (v := 1) (by decide) dX12_least_17 ?_
      refine g_ic_eq h 32 (by decide) zf dX12_least_18 ?_ ?_ <;> clear zf <;> intro zf
      · refine g_sub h [0, 3] rfl ?_
        exact kX12_least_b32 h ih zf
      · refine g_aload_n h 0 rfl dX12_least_21 ?_
        refine gfX12_56 h (by decide : kd 0 = 10) dX12_least_22 ?_
        refine gfX12_144 h (by decide : kd 86 = 2) dX12_least_25 ?_
        refine g_nmI zf ?_
        clear zf; intro vq4 zf
        refine g_iload_n h 2 rfl dX12_least_28 ?_
        refine g_ic_ge h 42 (by decide) zf dX12_least_29 ?_ ?_ <;> clear zf <;> intro zf
        · refine g_sub h [0, 1, 2, 3] rfl ?_
          exact kX12_least_b42 h ih zf
        · refine g_sub h [0, 3] rfl ?_
          exact kX12_least_b32 h ih zf

theorem kX12_least_e0 {G : GX} (h : OKm G cX12_least RX12 4 (some .int) { frames := 10, cells := 0, slots := 0, locals := 250 }) {M : Mem} {res : (Int32 × Mem)} (zf : fX12_least M = some res) : GG G (Qm G (Pwi res) 0 0) 0 0 0 [(0, rv G.1 0)] [] M := by
  unfold fX12_least at zf
  refine g_iconst h 1 (v := 1) (by decide) dX12_least_0 ?_
  refine g_istore_n h rfl [(1, .int 1), (0, rv G.1 0)] (by decide) rfl dX12_least_1 ?_
  refine g_iconst h 0 (v := 0) (by decide) dX12_least_2 ?_
  refine g_istore_n h rfl [(2, .int 0), (1, .int 1), (0, rv G.1 0)] (by decide) rfl dX12_least_3 ?_
  refine g_iconst h 1 (v := 1) (by decide) dX12_least_4 ?_
  refine g_istore_n h rfl [(3, .int 1), (2, .int 0), (1, .int 1), (0, rv G.1 0)] (by decide) rfl dX12_least_5 ?_
  refine g_sub h [3, 2, 1, 0] rfl ?_
  exact kX12_least_l6 h _ _ _ _ _ _ zf

theorem cmX12_least {l : Launch} {w : WX} {M : Mem} {res : (Int32 × Mem)} (zf : fX12_least M = some res) : CM l w yX12_least cX12_least 4 (some .int) { frames := 10, cells := 0, slots := 0, locals := 250 } 0 0 [rv w 0] M (Pwi res) := by
  refine CM_of (by decide) (Nat.le_of_ble_eq_true rfl) (fun G hw hl h => ?_)
  subst hw
  exact kX12_least_e0 h zf

-- X12_loan
theorem kX12_loan_b11 {G : GX} (h : OKm G cX12_loan RX12 2 (some .int) { frames := 6, cells := 0, slots := 0, locals := 243 }) {M : Mem} {res : (Int32 × Mem)} (zf : fX12_loan_b11 M = some res) : GG G (Qm G (Pwi res) 0 0) 0 0 11 [(0, rv G.1 0)] [] M := by
  unfold fX12_loan_b11 at zf
  refine g_aload_n h 0 rfl dX12_loan_11 ?_
  refine g_iconst h 1 (v := 1) (by decide) dX12_loan_12 ?_
  have zf1 := b2_some zf
  clear zf; obtain ⟨vq1, Mq2, zq, zf⟩ := zf1
  refine g_callVwi (As := [.int 1]) (rest := []) h ceX12_refuse mlX12_238 imX12_refuse seX12_refuse (by rfl) (kd_lt (by rw [(by decide : kd 0 = 10)]; decide)) (ent_10 (by decide : kd 0 = 10)) rfl rfl ⟨by decide, by decide⟩ ⟨by decide, by decide⟩ rfl dX12_loan_13 rfl (Nat.le_of_ble_eq_true rfl) (cmX12_refuse zq) ?_
  obtain rfl := Option.some.inj zf
  exact g_iret h rfl ⟨rfl, rfl⟩ (Nat.le_refl _) (Nat.le_refl _) dX12_loan_16

theorem kX12_loan_e0 {G : GX} (h : OKm G cX12_loan RX12 2 (some .int) { frames := 6, cells := 0, slots := 0, locals := 243 }) {M : Mem} {x1 : Int32} {res : (Int32 × Mem)} (zf : fX12_loan M x1 = some res) : GG G (Qm G (Pwi res) 0 0) 0 0 0 [(0, rv G.1 0), (1, .int x1)] [] M := by
  unfold fX12_loan at zf
  refine g_iload_n h 1 rfl dX12_loan_0 ?_
  refine g_iconst h 1 (v := 1) (by decide) dX12_loan_1 ?_
  refine g_ic_lt h 11 (by decide) zf dX12_loan_2 ?_ ?_ <;> clear zf <;> intro zf
  · refine g_sub h [0] rfl ?_
    exact kX12_loan_b11 h zf
  · refine g_iload_n h 1 rfl dX12_loan_5 ?_
    refine g_bipush h 99 (v := 99) (by decide) dX12_loan_6 ?_
    refine g_ic_le h 17 (by decide) zf dX12_loan_8 ?_ ?_ <;> clear zf <;> intro zf
    · refine g_aload_n h 0 rfl dX12_loan_17 ?_
      refine gfX12_62 h (by decide : kd 0 = 10) dX12_loan_18 ?_
      refine g_aload_n h 0 rfl dX12_loan_21 ?_
      refine gfX12_52 h (by decide : kd 0 = 10) dX12_loan_22 ?_
      have zf1 := bd_some zf
      clear zf; obtain ⟨Mq3, zq, zf⟩ := zf1
      refine g_callVwv (As := [rv G.1 81]) (rest := []) h ceX1_keep mlX12_241 imX1_keep seX1_keep (by rfl) (kd_lt (by rw [(by decide : kd 91 = 0)]; decide)) (ent_0 (by decide : kd 91 = 0)) rfl rfl ⟨by decide, by decide⟩ ⟨by decide, by decide⟩ rfl dX12_loan_25 rfl (Nat.le_of_ble_eq_true rfl) (cmX1_keep zq) ?_
      refine g_aload_n h 0 rfl dX12_loan_28 ?_
      refine gfX12_52 h (by decide : kd 0 = 10) dX12_loan_29 ?_
      refine g_sipush h 999 (v := 999) (by decide) dX12_loan_32 ?_
      refine g_aload_n h 0 rfl dX12_loan_35 ?_
      refine gfX12_52 h (by decide : kd 0 = 10) dX12_loan_36 ?_
      refine gfX12_123 h (by decide : kd 81 = 2) dX12_loan_39 ?_
      refine g_nmI zf ?_
      clear zf; intro vq4 zf
      refine g_iload_n h 1 rfl dX12_loan_42 ?_
      refine g_iadd h dX12_loan_43 ?_
      refine g_mmin h mlX12_248 smMathmin initMath ceMathmin (by decide) (Nat.le_of_ble_eq_true rfl) (Nat.le_of_ble_eq_true rfl) (Nat.le_of_ble_eq_true rfl) dX12_loan_44 ?_
      refine g_nmI zf ?_
      clear zf; intro vq5 zf
      refine pfX12_123 h (by decide : kd 81 = 2) dX12_loan_47 ?_
      refine g_nmM zf ?_
      clear zf; intro Mq6 zf
      refine g_aload_n h 0 rfl dX12_loan_50 ?_
      refine gfX12_52 h (by decide : kd 0 = 10) dX12_loan_51 ?_
      refine g_sipush h 999 (v := 999) (by decide) dX12_loan_54 ?_
      refine g_aload_n h 0 rfl dX12_loan_57 ?_
      refine gfX12_52 h (by decide : kd 0 = 10) dX12_loan_58 ?_
      refine gfX12_129 h (by decide : kd 81 = 2) dX12_loan_61 ?_
      refine g_nmI zf ?_
      clear zf; intro vq7 zf
      refine g_iload_n h 1 rfl dX12_loan_64 ?_
      refine g_iadd h dX12_loan_65 ?_
      refine g_mmin h mlX12_248 smMathmin initMath ceMathmin (by decide) (Nat.le_of_ble_eq_true rfl) (Nat.le_of_ble_eq_true rfl) (Nat.le_of_ble_eq_true rfl) dX12_loan_66 ?_
      refine g_nmI zf ?_
      clear zf; intro vq8 zf
      refine pfX12_129 h (by decide : kd 81 = 2) dX12_loan_69 ?_
      refine g_nmM zf ?_
      clear zf; intro Mq9 zf
      refine g_aload_n h 0 rfl dX12_loan_72 ?_
      refine gfX12_52 h (by decide : kd 0 = 10) dX12_loan_73 ?_
      refine gfX12_123 h (by decide : kd 81 = 2) dX12_loan_76 ?_
      refine g_nmI zf ?_
      clear zf; intro vq10 zf
      obtain rfl := Option.some.inj zf
      exact g_iret h rfl ⟨rfl, rfl⟩ (Nat.le_refl _) (Nat.le_refl _) dX12_loan_79
    · refine g_sub h [0] rfl ?_
      exact kX12_loan_b11 h zf

theorem cmX12_loan {l : Launch} {w : WX} {M : Mem} {x1 : Int32} {res : (Int32 × Mem)} (zf : fX12_loan M x1 = some res) : CM l w yX12_loan cX12_loan 2 (some .int) { frames := 6, cells := 0, slots := 0, locals := 243 } 0 0 [rv w 0, .int x1] M (Pwi res) := by
  refine CM_of (by decide) (Nat.le_of_ble_eq_true rfl) (fun G hw hl h => ?_)
  subst hw
  exact kX12_loan_e0 h zf

-- X12_rests
theorem kX12_rests_b84 {G : GX} (h : OKm G cX12_rests RX12 8 (some .boolean) { frames := 1, cells := 0, slots := 0, locals := 20 }) {a19 : Mem → Int32 → Int32 → Int32 → Int32 → Option Int32} (zh19 : ∀ (M : Mem) (x1 : Int32) (x2 : Int32) (x3 : Int32) (x4 : Int32) (res : Int32), a19 M x1 x2 x3 x4 = some res → GG G (Qm G (Pri res M) 0 0) 0 0 19 [(0, rv G.1 0), (1, .int x1), (2, .int x2), (3, .int x3), (4, .int x4)] [] M) {M : Mem} {x1 : Int32} {x2 : Int32} {x3 : Int32} {x4 : Int32} {x6 : Int32} {s0 : Int32} {res : Int32} (zf : fX12_rests_b84 a19 M x1 x2 x3 x4 x6 s0 = some res) : GG G (Qm G (Pri res M) 0 0) 0 0 84 [(0, rv G.1 0), (1, .int x1), (2, .int x2), (3, .int x3), (4, .int x4), (6, .int x6)] [.int s0] M := by
  unfold fX12_rests_b84 at zf
  refine g_istore h [(7, .int s0), (0, rv G.1 0), (1, .int x1), (2, .int x2), (3, .int x3), (4, .int x4), (6, .int x6)] (by decide) rfl dX12_rests_84 ?_
  refine g_iload h 0 rfl dX12_rests_86 ?_
  refine g_iconst h 2 (v := 2) (by decide) dX12_rests_88 ?_
  refine g_iload h 6 rfl dX12_rests_89 ?_
  refine g_iconst h 1 (v := 1) (by decide) dX12_rests_91 ?_
  refine g_isub h dX12_rests_92 ?_
  refine g_imul h dX12_rests_93 ?_
  refine g_iadd h dX12_rests_94 ?_
  refine g_iconst h 2 (v := 2) (by decide) dX12_rests_95 ?_
  refine g_iload_n h 3 rfl dX12_rests_96 ?_
  refine g_iload h 6 rfl dX12_rests_97 ?_
  refine g_isub h dX12_rests_99 ?_
  refine g_imul h dX12_rests_100 ?_
  refine g_isub h dX12_rests_101 ?_
  refine g_if_ge h 107 (by decide) zf dX12_rests_102 ?_ ?_ <;> clear zf <;> intro zf
  · refine g_iinc h 4 5 rfl (v := x4 + 1) (congrArg (fun z => x4 + z) (by decide : Int32.ofInt (1) = (1 : Int32))) [(4, .int (x4 + 1)), (7, .int s0), (0, rv G.1 0), (1, .int x1), (2, .int x2), (3, .int x3), (6, .int x6)] (by decide) rfl dX12_rests_107 ?_
    refine g_nmV zf ?_
    clear zf; intro vq5 zf
    refine g_goto h 19 (by decide) dX12_rests_110 ?_
    refine g_sub h [2, 3, 4, 5, 0] rfl ?_
    exact zh19 _ _ _ _ _ _ zf
  · refine g_iconst h 0 (v := 0) (by decide) dX12_rests_105 ?_
    obtain rfl := Option.some.inj zf
    exact g_zret h (by decide) rfl ⟨rfl, rfl⟩ (Nat.le_refl _) (Nat.le_refl _) dX12_rests_106

theorem kX12_rests_b53 {G : GX} (h : OKm G cX12_rests RX12 8 (some .boolean) { frames := 1, cells := 0, slots := 0, locals := 20 }) {a19 : Mem → Int32 → Int32 → Int32 → Int32 → Option Int32} (zh19 : ∀ (M : Mem) (x1 : Int32) (x2 : Int32) (x3 : Int32) (x4 : Int32) (res : Int32), a19 M x1 x2 x3 x4 = some res → GG G (Qm G (Pri res M) 0 0) 0 0 19 [(0, rv G.1 0), (1, .int x1), (2, .int x2), (3, .int x3), (4, .int x4)] [] M) {M : Mem} {x1 : Int32} {x2 : Int32} {x3 : Int32} {x4 : Int32} {x5 : Int32} {s0 : Int32} {res : Int32} (zf : fX12_rests_b53 a19 M x1 x2 x3 x4 x5 s0 = some res) : GG G (Qm G (Pri res M) 0 0) 0 0 53 [(0, rv G.1 0), (1, .int x1), (2, .int x2), (3, .int x3), (4, .int x4), (5, .int x5)] [.int s0] M := by
  unfold fX12_rests_b53 at zf
  refine g_istore h [(6, .int s0), (0, rv G.1 0), (1, .int x1), (2, .int x2), (3, .int x3), (4, .int x4), (5, .int x5)] (by decide) rfl dX12_rests_53 ?_
  refine g_iload h 6 rfl dX12_rests_55 ?_
  refine g_if_eq h 73 (by decide) zf dX12_rests_57 ?_ ?_ <;> clear zf <;> intro zf
  · refine g_aload_n h 1 rfl dX12_rests_73 ?_
    refine gfX12_52 h (by decide : kd 0 = 10) dX12_rests_74 ?_
    refine gfX12_220 h (by decide : kd 81 = 2) dX12_rests_77 ?_
    change GG G _ _ _ _ _ (rv G.1 85 :: _) _
    refine g_iload h 5 rfl dX12_rests_80 ?_
    refine g_iald h 6 (by decide : kd 85 = 20) (by decide) zf dX12_rests_82 ?_
    clear zf; intro vq4 zf
    refine g_ineg h dX12_rests_83 ?_
    refine g_sub h [1, 2, 3, 4, 5, 0] rfl ?_
    exact kX12_rests_b84 h zh19 zf
  · refine g_aload_n h 1 rfl dX12_rests_60 ?_
    refine gfX12_52 h (by decide : kd 0 = 10) dX12_rests_61 ?_
    refine gfX12_220 h (by decide : kd 81 = 2) dX12_rests_64 ?_
    change GG G _ _ _ _ _ (rv G.1 85 :: _) _
    refine g_iload h 5 rfl dX12_rests_67 ?_
    refine g_iald h 6 (by decide : kd 85 = 20) (by decide) zf dX12_rests_69 ?_
    clear zf; intro vq6 zf
    refine g_goto h 84 (by decide) dX12_rests_70 ?_
    refine g_sub h [1, 2, 3, 4, 5, 0] rfl ?_
    exact kX12_rests_b84 h zh19 zf

theorem kX12_rests_b39 {G : GX} (h : OKm G cX12_rests RX12 8 (some .boolean) { frames := 1, cells := 0, slots := 0, locals := 20 }) {a19 : Mem → Int32 → Int32 → Int32 → Int32 → Option Int32} (zh19 : ∀ (M : Mem) (x1 : Int32) (x2 : Int32) (x3 : Int32) (x4 : Int32) (res : Int32), a19 M x1 x2 x3 x4 = some res → GG G (Qm G (Pri res M) 0 0) 0 0 19 [(0, rv G.1 0), (1, .int x1), (2, .int x2), (3, .int x3), (4, .int x4)] [] M) {M : Mem} {x1 : Int32} {x2 : Int32} {x3 : Int32} {x4 : Int32} {s0 : Int32} {res : Int32} (zf : fX12_rests_b39 a19 M x1 x2 x3 x4 s0 = some res) : GG G (Qm G (Pri res M) 0 0) 0 0 39 [(0, rv G.1 0), (1, .int x1), (2, .int x2), (3, .int x3), (4, .int x4)] [.int s0] M := by
  unfold fX12_rests_b39 at zf
  refine g_istore h [(5, .int s0), (0, rv G.1 0), (1, .int x1), (2, .int x2), (3, .int x3), (4, .int x4)] (by decide) rfl dX12_rests_39 ?_
  refine g_iload h 0 rfl dX12_rests_41 ?_
  refine g_if_eq h 50 (by decide) zf dX12_rests_43 ?_ ?_ <;> clear zf <;> intro zf
  · refine g_iload_n h 3 rfl dX12_rests_50 ?_
    refine g_iload_n h 4 rfl dX12_rests_51 ?_
    refine g_isub h dX12_rests_52 ?_
    refine g_sub h [1, 2, 3, 4, 5, 0] rfl ?_
    exact kX12_rests_b53 h zh19 zf
  · refine g_iload_n h 4 rfl dX12_rests_46 ?_
    refine g_goto h 53 (by decide) dX12_rests_47 ?_
    refine g_sub h [1, 2, 3, 4, 5, 0] rfl ?_
    exact kX12_rests_b53 h zh19 zf

theorem kX12_rests_l19 {G : GX} (h : OKm G cX12_rests RX12 8 (some .boolean) { frames := 1, cells := 0, slots := 0, locals := 20 }) : ∀ (n : Nat) (M : Mem) (x1 : Int32) (x2 : Int32) (x3 : Int32) (x4 : Int32) (res : Int32), fX12_rests_l19 n M x1 x2 x3 x4 = some res → GG G (Qm G (Pri res M) 0 0) 0 0 19 [(0, rv G.1 0), (1, .int x1), (2, .int x2), (3, .int x3), (4, .int x4)] [] M := by
  intro n
  induction n with
  | zero => intro M x1 x2 x3 x4 res zf; rw [fX12_rests_l19] at zf; cases zf
  | succ n ih =>
    intro M x1 x2 x3 x4 res zf
    rw [fX12_rests_l19] at zf
    refine g_iload h 4 rfl dX12_rests_19 ?_
    refine g_iload_n h 2 rfl dX12_rests_21 ?_
    refine g_ic_ge h 113 (by decide) zf dX12_rests_22 ?_ ?_ <;> clear zf <;> intro zf
    · refine g_iconst h 1 (v := 1) (by decide) dX12_rests_113 ?_
      obtain rfl := Option.some.inj zf
      exact g_zret h (by decide) rfl ⟨rfl, rfl⟩ (Nat.le_refl _) (Nat.le_refl _) dX12_rests_114
    · refine g_iload_n h 1 rfl dX12_rests_25 ?_
      refine g_iload h 4 rfl dX12_rests_26 ?_
      refine g_ishr h dX12_rests_28 ?_
      refine g_iconst h 1 (v := 1) (by decide) dX12_rests_29 ?_
      refine g_iand h dX12_rests_30 ?_
      refine g_if_eq h 38 (by decide) zf dX12_rests_31 ?_ ?_ <;> clear zf <;> intro zf
      · refine g_iconst h 0 (v := 0) (by decide) dX12_rests_38 ?_
        refine g_sub h [0, 1, 2, 3, 4] rfl ?_
        exact kX12_rests_b39 h ih zf
      · refine g_iconst h 1 (v := 1) (by decide) dX12_rests_34 ?_
        refine g_goto h 39 (by decide) dX12_rests_35 ?_
        refine g_sub h [0, 1, 2, 3, 4] rfl ?_
        exact kX12_rests_b39 h ih zf

theorem kX12_rests_e0 {G : GX} (h : OKm G cX12_rests RX12 8 (some .boolean) { frames := 1, cells := 0, slots := 0, locals := 20 }) {M : Mem} {x1 : Int32} {res : Int32} (zf : fX12_rests M x1 = some res) : GG G (Qm G (Pri res M) 0 0) 0 0 0 [(0, rv G.1 0), (1, .int x1)] [] M := by
  unfold fX12_rests at zf
  refine g_aload_n h 0 rfl dX12_rests_0 ?_
  refine gfX12_36 h (by decide : kd 0 = 10) dX12_rests_1 ?_
  refine gfX12_111 h (by decide : kd 28 = 6) dX12_rests_4 ?_
  refine g_nmR zf ?_
  clear zf; intro oq1 zf
  have zf1 := pre_ck zf
  clear zf; obtain ⟨zk_oq1, zf⟩ := zf1
  refine gfX12_155 h zk_oq1 dX12_rests_7 ?_
  refine g_nmI zf ?_
  clear zf; intro vq2 zf
  refine g_istore_n h rfl [(2, .int vq2), (0, rv G.1 0), (1, .int x1)] (by decide) rfl dX12_rests_10 ?_
  refine g_iload_n h 2 rfl dX12_rests_11 ?_
  have zf1 := bd_some zf
  clear zf; obtain ⟨vq3, zq, zf⟩ := zf1
  refine g_callSri (As := [.int x1]) (rest := []) h ceJ6_bitCount_0f7a4 mlX12_306 smJ6_bitCount_0f7a4 rfl rfl ⟨by decide, by decide⟩ ⟨by decide, by decide⟩ rfl dX12_rests_12 rfl (Nat.le_of_ble_eq_true rfl) (cmJ6_bitCount_0f7a4 zq) ?_
  refine g_istore_n h rfl [(3, .int vq3), (2, .int vq2), (0, rv G.1 0), (1, .int x1)] (by decide) rfl dX12_rests_15 ?_
  refine g_iconst h 0 (v := 0) (by decide) dX12_rests_16 ?_
  refine g_istore h [(4, .int 0), (3, .int vq3), (2, .int vq2), (0, rv G.1 0), (1, .int x1)] (by decide) rfl dX12_rests_17 ?_
  refine g_sub h [3, 4, 2, 1, 0] rfl ?_
  exact kX12_rests_l19 h _ _ _ _ _ _ _ zf

theorem cmX12_rests {l : Launch} {w : WX} {M : Mem} {x1 : Int32} {res : Int32} (zf : fX12_rests M x1 = some res) : CM l w yX12_rests cX12_rests 8 (some .boolean) { frames := 1, cells := 0, slots := 0, locals := 20 } 0 0 [rv w 0, .int x1] M (Pri res M) := by
  refine CM_of (by decide) (Nat.le_of_ble_eq_true rfl) (fun G hw hl h => ?_)
  subst hw
  exact kX12_rests_e0 h zf

-- X12_restore
theorem kX12_restore_e0 {G : GX} (h : OKm G cX12_restore RX12 1 (some .boolean) { frames := 2, cells := 0, slots := 0, locals := 222 }) {M : Mem} {res : (Int32 × Mem)} (zf : fX12_restore M = some res) : GG G (Qm G (Pwi res) 0 0) 0 0 0 [(0, rv G.1 0)] [] M := by
  unfold fX12_restore at zf
  refine g_aload_n h 0 rfl dX12_restore_0 ?_
  refine gfX12_73 h (by decide : kd 0 = 10) dX12_restore_1 ?_
  refine g_nmI zf ?_
  clear zf; intro vq1 zf
  refine g_if_ne h 9 (by decide) zf dX12_restore_4 ?_ ?_ <;> clear zf <;> intro zf
  · refine g_aload_n h 0 rfl dX12_restore_9 ?_
    refine gfX12_52 h (by decide : kd 0 = 10) dX12_restore_10 ?_
    refine g_aload_n h 0 rfl dX12_restore_13 ?_
    refine gfX12_77 h (by decide : kd 0 = 10) dX12_restore_14 ?_
    refine g_iconst h 0 (v := 0) (by decide) dX12_restore_17 ?_
    have zf1 := bd_some zf
    clear zf; obtain ⟨Mq2, zq, zf⟩ := zf1
    refine g_callVwv (As := [rv G.1 96, .int 0]) (rest := []) h ceX3_read mlX12_379 imX3_read seX3_read (by rfl) (kd_lt (by rw [(by decide : kd 81 = 2)]; decide)) (ent_2 (by decide : kd 81 = 2)) rfl rfl ⟨by decide, by decide⟩ ⟨by decide, by decide⟩ rfl dX12_restore_18 rfl (Nat.le_of_ble_eq_true rfl) (cmX3_read zq) ?_
    refine g_aload_n h 0 rfl dX12_restore_21 ?_
    refine gfX12_62 h (by decide : kd 0 = 10) dX12_restore_22 ?_
    refine g_aload_n h 0 rfl dX12_restore_25 ?_
    refine gfX12_80 h (by decide : kd 0 = 10) dX12_restore_26 ?_
    have zf1 := bd_some zf
    clear zf; obtain ⟨Mq3, zq, zf⟩ := zf1
    refine g_callVwv (As := [rv G.1 97]) (rest := []) h ceX1_become mlX12_373 imX1_become seX1_become (by rfl) (kd_lt (by rw [(by decide : kd 91 = 0)]; decide)) (ent_0 (by decide : kd 91 = 0)) rfl rfl ⟨by decide, by decide⟩ ⟨by decide, by decide⟩ rfl dX12_restore_29 rfl (Nat.le_of_ble_eq_true rfl) (cmX1_become zq) ?_
    refine g_aload_n h 0 rfl dX12_restore_32 ?_
    refine gfX12_69 h (by decide : kd 0 = 10) dX12_restore_33 ?_
    refine g_aload_n h 0 rfl dX12_restore_36 ?_
    refine gfX12_83 h (by decide : kd 0 = 10) dX12_restore_37 ?_
    have zf1 := bd_some zf
    clear zf; obtain ⟨Mq4, zq, zf⟩ := zf1
    refine g_callVwv (As := [rv G.1 99]) (rest := []) h ceX9_become mlX12_376 imX9_become seX9_become (by rfl) (kd_lt (by rw [(by decide : kd 93 = 8)]; decide)) (ent_8 (by decide : kd 93 = 8)) rfl rfl ⟨by decide, by decide⟩ ⟨by decide, by decide⟩ rfl dX12_restore_40 rfl (Nat.le_of_ble_eq_true rfl) (cmX9_become zq) ?_
    refine g_iconst h 1 (v := 1) (by decide) dX12_restore_43 ?_
    obtain rfl := Option.some.inj zf
    exact g_zret h (by decide) rfl ⟨rfl, rfl⟩ (Nat.le_refl _) (Nat.le_refl _) dX12_restore_44
  · refine g_iconst h 0 (v := 0) (by decide) dX12_restore_7 ?_
    obtain rfl := Option.some.inj zf
    exact g_zret h (by decide) rfl ⟨rfl, rfl⟩ (Nat.le_refl _) (Nat.le_refl _) dX12_restore_8

theorem cmX12_restore {l : Launch} {w : WX} {M : Mem} {res : (Int32 × Mem)} (zf : fX12_restore M = some res) : CM l w yX12_restore cX12_restore 1 (some .boolean) { frames := 2, cells := 0, slots := 0, locals := 222 } 0 0 [rv w 0] M (Pwi res) := by
  refine CM_of (by decide) (Nat.le_of_ble_eq_true rfl) (fun G hw hl h => ?_)
  subst hw
  exact kX12_restore_e0 h zf

-- X12_ruin
theorem kX12_ruin_l13 {G : GX} (h : OKm G cX12_ruin RX12 2 (some .int) { frames := 9, cells := 0, slots := 0, locals := 229 }) : ∀ (n : Nat) (M : Mem) (x1 : Int32) (res : (Int32 × Mem)), fX12_ruin_l13 n M x1 = some res → GG G (Qm G (Pwi res) 0 0) 0 0 13 [(0, rv G.1 0), (1, .int x1)] [] M := by
  intro n
  induction n with
  | zero => intro M x1 res zf; rw [fX12_ruin_l13] at zf; cases zf
  | succ n ih =>
    intro M x1 res zf
    rw [fX12_ruin_l13] at zf
    refine g_iload_n h 1 rfl dX12_ruin_13 ?_
    refine g_bipush h 60 (v := 60) (by decide) dX12_ruin_14 ?_
    refine g_ic_gt h 56 (by decide) zf dX12_ruin_16 ?_ ?_ <;> clear zf <;> intro zf
    · refine g_iconst h (-1) (v := (-1)) (by decide) dX12_ruin_56 ?_
      obtain rfl := Option.some.inj zf
      exact g_iret h rfl ⟨rfl, rfl⟩ (Nat.le_refl _) (Nat.le_refl _) dX12_ruin_57
    · refine g_aload_n h 0 rfl dX12_ruin_19 ?_
      refine gfX12_56 h (by decide : kd 0 = 10) dX12_ruin_20 ?_
      refine gfX12_129 h (by decide : kd 86 = 2) dX12_ruin_23 ?_
      refine g_nmI zf ?_
      clear zf; intro vq2 zf
      refine g_aload_n h 0 rfl dX12_ruin_26 ?_
      refine gfX12_56 h (by decide : kd 0 = 10) dX12_ruin_27 ?_
      refine gfX12_123 h (by decide : kd 86 = 2) dX12_ruin_30 ?_
      refine g_nmI zf ?_
      clear zf; intro vq3 zf
      refine g_ic_le h 38 (by decide) zf dX12_ruin_33 ?_ ?_ <;> clear zf <;> intro zf
      · refine g_aload_n h 0 rfl dX12_ruin_38 ?_
        refine gfX12_36 h (by decide : kd 0 = 10) dX12_ruin_39 ?_
        refine g_aload_n h 0 rfl dX12_ruin_42 ?_
        refine gfX12_56 h (by decide : kd 0 = 10) dX12_ruin_43 ?_
        refine g_iconst h 1 (v := 1) (by decide) dX12_ruin_46 ?_
        have zf1 := bd_some zf
        clear zf; obtain ⟨Mq4, zq, zf⟩ := zf1
        refine g_callVwv (As := [rv G.1 86, .int 1]) (rest := []) h ceX7_passMany mlX12_244 imX7_passMany seX7_passMany (by rfl) (kd_lt (by rw [(by decide : kd 28 = 6)]; decide)) (ent_6 (by decide : kd 28 = 6)) rfl rfl ⟨by decide, by decide⟩ ⟨by decide, by decide⟩ rfl dX12_ruin_47 rfl (Nat.le_of_ble_eq_true rfl) (cmX7_passMany zq) ?_
        refine g_iinc h 1 1 rfl (v := x1 + 1) (congrArg (fun z => x1 + z) (by decide : Int32.ofInt (1) = (1 : Int32))) [(1, .int (x1 + 1)), (0, rv G.1 0)] (by decide) rfl dX12_ruin_50 ?_
        refine g_nmV zf ?_
        clear zf; intro vq5 zf
        refine g_goto h 13 (by decide) dX12_ruin_53 ?_
        refine g_sub h [1, 0] rfl ?_
        exact ih _ _ _ zf
      · refine g_iload_n h 1 rfl dX12_ruin_36 ?_
        obtain rfl := Option.some.inj zf
        exact g_iret h rfl ⟨rfl, rfl⟩ (Nat.le_refl _) (Nat.le_refl _) dX12_ruin_37

theorem kX12_ruin_e0 {G : GX} (h : OKm G cX12_ruin RX12 2 (some .int) { frames := 9, cells := 0, slots := 0, locals := 229 }) {M : Mem} {res : (Int32 × Mem)} (zf : fX12_ruin M = some res) : GG G (Qm G (Pwi res) 0 0) 0 0 0 [(0, rv G.1 0)] [] M := by
  unfold fX12_ruin at zf
  refine g_aload_n h 0 rfl dX12_ruin_0 ?_
  refine gfX12_56 h (by decide : kd 0 = 10) dX12_ruin_1 ?_
  refine g_aload_n h 0 rfl dX12_ruin_4 ?_
  refine gfX12_52 h (by decide : kd 0 = 10) dX12_ruin_5 ?_
  have zf1 := bd_some zf
  clear zf; obtain ⟨Mq1, zq, zf⟩ := zf1
  refine g_callVwv (As := [rv G.1 81]) (rest := []) h ceX3_become mlX12_115 imX3_become seX3_become (by rfl) (kd_lt (by rw [(by decide : kd 86 = 2)]; decide)) (ent_2 (by decide : kd 86 = 2)) rfl rfl ⟨by decide, by decide⟩ ⟨by decide, by decide⟩ rfl dX12_ruin_8 rfl (Nat.le_of_ble_eq_true rfl) (cmX3_become zq) ?_
  refine g_iconst h 0 (v := 0) (by decide) dX12_ruin_11 ?_
  refine g_istore_n h rfl [(1, .int 0), (0, rv G.1 0)] (by decide) rfl dX12_ruin_12 ?_
  refine g_sub h [1, 0] rfl ?_
  exact kX12_ruin_l13 h _ _ _ _ zf

theorem cmX12_ruin {l : Launch} {w : WX} {M : Mem} {res : (Int32 × Mem)} (zf : fX12_ruin M = some res) : CM l w yX12_ruin cX12_ruin 2 (some .int) { frames := 9, cells := 0, slots := 0, locals := 229 } 0 0 [rv w 0] M (Pwi res) := by
  refine CM_of (by decide) (Nat.le_of_ble_eq_true rfl) (fun G hw hl h => ?_)
  subst hw
  exact kX12_ruin_e0 h zf

-- X12_see
theorem kX12_see_b34 {G : GX} (h : OKm G cX12_see RX12 3 (some .int) { frames := 1, cells := 0, slots := 0, locals := 22 }) {M : Mem} {res : (Int32 × Mem)} (zf : fX12_see_b34 M = some res) : GG G (Qm G (Pwi res) 0 0) 0 0 34 [(0, rv G.1 0)] [] M := by
  unfold fX12_see_b34 at zf
  refine g_aload_n h 0 rfl dX12_see_34 ?_
  refine g_iconst h 2 (v := 2) (by decide) dX12_see_35 ?_
  have zf1 := b2_some zf
  clear zf; obtain ⟨vq1, Mq2, zq, zf⟩ := zf1
  refine g_callVwi (As := [.int 2]) (rest := []) h ceX12_refuse mlX12_238 imX12_refuse seX12_refuse (by rfl) (kd_lt (by rw [(by decide : kd 0 = 10)]; decide)) (ent_10 (by decide : kd 0 = 10)) rfl rfl ⟨by decide, by decide⟩ ⟨by decide, by decide⟩ rfl dX12_see_36 rfl (Nat.le_of_ble_eq_true rfl) (cmX12_refuse zq) ?_
  obtain rfl := Option.some.inj zf
  exact g_iret h rfl ⟨rfl, rfl⟩ (Nat.le_refl _) (Nat.le_refl _) dX12_see_39

theorem kX12_see_e0 {G : GX} (h : OKm G cX12_see RX12 3 (some .int) { frames := 1, cells := 0, slots := 0, locals := 22 }) {M : Mem} {x1 : Int32} {x2 : Int32} {res : (Int32 × Mem)} (zf : fX12_see M x1 x2 = some res) : GG G (Qm G (Pwi res) 0 0) 0 0 0 [(0, rv G.1 0), (1, .int x1), (2, .int x2)] [] M := by
  unfold fX12_see at zf
  refine g_iload_n h 1 rfl dX12_see_0 ?_
  refine g_iconst h 1 (v := 1) (by decide) dX12_see_1 ?_
  refine g_ic_lt h 34 (by decide) zf dX12_see_2 ?_ ?_ <;> clear zf <;> intro zf
  · refine g_sub h [0] rfl ?_
    exact kX12_see_b34 h zf
  · refine g_iload_n h 1 rfl dX12_see_5 ?_
    refine g_bipush h 30 (v := 30) (by decide) dX12_see_6 ?_
    refine g_ic_gt h 34 (by decide) zf dX12_see_8 ?_ ?_ <;> clear zf <;> intro zf
    · refine g_sub h [0] rfl ?_
      exact kX12_see_b34 h zf
    · refine g_iload_n h 2 rfl dX12_see_11 ?_
      refine g_if_lt h 34 (by decide) zf dX12_see_12 ?_ ?_ <;> clear zf <;> intro zf
      · refine g_sub h [0] rfl ?_
        exact kX12_see_b34 h zf
      · refine g_iload_n h 2 rfl dX12_see_15 ?_
        refine g_sipush h 999 (v := 999) (by decide) dX12_see_16 ?_
        refine g_ic_gt h 34 (by decide) zf dX12_see_19 ?_ ?_ <;> clear zf <;> intro zf
        · refine g_sub h [0] rfl ?_
          exact kX12_see_b34 h zf
        · refine g_aload_n h 0 rfl dX12_see_22 ?_
          refine gfX12_69 h (by decide : kd 0 = 10) dX12_see_23 ?_
          refine g_iload_n h 1 rfl dX12_see_26 ?_
          refine g_iload_n h 2 rfl dX12_see_27 ?_
          have zf1 := b2_some zf
          clear zf; obtain ⟨vq3, Mq4, zq, zf⟩ := zf1
          refine g_callVwi (As := [.int x1, .int x2]) (rest := []) h ceX9_add mlX12_326 imX9_add seX9_add (by rfl) (kd_lt (by rw [(by decide : kd 93 = 8)]; decide)) (ent_8 (by decide : kd 93 = 8)) rfl rfl ⟨by decide, by decide⟩ ⟨by decide, by decide⟩ rfl dX12_see_28 rfl (Nat.le_of_ble_eq_true rfl) (cmX9_add zq) ?_
          refine g_if_ne h 40 (by decide) zf dX12_see_31 ?_ ?_ <;> clear zf <;> intro zf
          · refine g_aload_n h 0 rfl dX12_see_40 ?_
            refine gfX12_69 h (by decide : kd 0 = 10) dX12_see_41 ?_
            refine gfX12_122 h (by decide : kd 93 = 8) dX12_see_44 ?_
            refine g_nmI zf ?_
            clear zf; intro vq5 zf
            obtain rfl := Option.some.inj zf
            exact g_iret h rfl ⟨rfl, rfl⟩ (Nat.le_refl _) (Nat.le_refl _) dX12_see_47
          · refine g_sub h [0] rfl ?_
            exact kX12_see_b34 h zf

theorem cmX12_see {l : Launch} {w : WX} {M : Mem} {x1 : Int32} {x2 : Int32} {res : (Int32 × Mem)} (zf : fX12_see M x1 x2 = some res) : CM l w yX12_see cX12_see 3 (some .int) { frames := 1, cells := 0, slots := 0, locals := 22 } 0 0 [rv w 0, .int x1, .int x2] M (Pwi res) := by
  refine CM_of (by decide) (Nat.le_of_ble_eq_true rfl) (fun G hw hl h => ?_)
  subst hw
  exact kX12_see_e0 h zf

-- X12_term
theorem kX12_term_b10 {G : GX} (h : OKm G cX12_term RX12 3 (some .int) { frames := 3, cells := 0, slots := 0, locals := 243 }) {M : Mem} {res : (Int32 × Mem)} (zf : fX12_term_b10 M = some res) : GG G (Qm G (Pwi res) 0 0) 0 0 10 [(0, rv G.1 0)] [] M := by
  unfold fX12_term_b10 at zf
  refine g_aload_n h 0 rfl dX12_term_10 ?_
  refine g_iconst h 1 (v := 1) (by decide) dX12_term_11 ?_
  have zf1 := b2_some zf
  clear zf; obtain ⟨vq1, Mq2, zq, zf⟩ := zf1
  refine g_callVwi (As := [.int 1]) (rest := []) h ceX12_refuse mlX12_238 imX12_refuse seX12_refuse (by rfl) (kd_lt (by rw [(by decide : kd 0 = 10)]; decide)) (ent_10 (by decide : kd 0 = 10)) rfl rfl ⟨by decide, by decide⟩ ⟨by decide, by decide⟩ rfl dX12_term_12 rfl (Nat.le_of_ble_eq_true rfl) (cmX12_refuse zq) ?_
  obtain rfl := Option.some.inj zf
  exact g_iret h rfl ⟨rfl, rfl⟩ (Nat.le_refl _) (Nat.le_refl _) dX12_term_15

theorem kX12_term_e0 {G : GX} (h : OKm G cX12_term RX12 3 (some .int) { frames := 3, cells := 0, slots := 0, locals := 243 }) {M : Mem} {x1 : Int32} {res : (Int32 × Mem)} (zf : fX12_term M x1 = some res) : GG G (Qm G (Pwi res) 0 0) 0 0 0 [(0, rv G.1 0), (1, .int x1)] [] M := by
  unfold fX12_term at zf
  refine g_iload_n h 1 rfl dX12_term_0 ?_
  refine g_iconst h 1 (v := 1) (by decide) dX12_term_1 ?_
  refine g_ic_lt h 10 (by decide) zf dX12_term_2 ?_ ?_ <;> clear zf <;> intro zf
  · refine g_sub h [0] rfl ?_
    exact kX12_term_b10 h zf
  · refine g_iload_n h 1 rfl dX12_term_5 ?_
    refine g_iconst h 5 (v := 5) (by decide) dX12_term_6 ?_
    refine g_ic_le h 16 (by decide) zf dX12_term_7 ?_ ?_ <;> clear zf <;> intro zf
    · refine g_aload_n h 0 rfl dX12_term_16 ?_
      refine gfX12_62 h (by decide : kd 0 = 10) dX12_term_17 ?_
      refine g_aload_n h 0 rfl dX12_term_20 ?_
      refine gfX12_52 h (by decide : kd 0 = 10) dX12_term_21 ?_
      have zf1 := bd_some zf
      clear zf; obtain ⟨Mq3, zq, zf⟩ := zf1
      refine g_callVwv (As := [rv G.1 81]) (rest := []) h ceX1_keep mlX12_241 imX1_keep seX1_keep (by rfl) (kd_lt (by rw [(by decide : kd 91 = 0)]; decide)) (ent_0 (by decide : kd 91 = 0)) rfl rfl ⟨by decide, by decide⟩ ⟨by decide, by decide⟩ rfl dX12_term_24 rfl (Nat.le_of_ble_eq_true rfl) (cmX1_keep zq) ?_
      refine g_aload_n h 0 rfl dX12_term_27 ?_
      refine gfX12_52 h (by decide : kd 0 = 10) dX12_term_28 ?_
      refine gfX12_141 h (by decide : kd 81 = 2) dX12_term_31 ?_
      refine g_nmI zf ?_
      clear zf; intro vq4 zf
      refine g_istore_n h rfl [(2, .int vq4), (0, rv G.1 0), (1, .int x1)] (by decide) rfl dX12_term_34 ?_
      refine g_aload_n h 1 rfl dX12_term_35 ?_
      refine gfX12_52 h (by decide : kd 0 = 10) dX12_term_36 ?_
      refine g_iload_n h 2 rfl dX12_term_39 ?_
      refine pfX12_141 h (by decide : kd 81 = 2) dX12_term_40 ?_
      refine g_nmM zf ?_
      clear zf; intro Mq5 zf
      refine g_iload_n h 0 rfl dX12_term_43 ?_
      obtain rfl := Option.some.inj zf
      exact g_iret h rfl ⟨rfl, rfl⟩ (Nat.le_refl _) (Nat.le_refl _) dX12_term_44
    · refine g_sub h [0] rfl ?_
      exact kX12_term_b10 h zf

theorem cmX12_term {l : Launch} {w : WX} {M : Mem} {x1 : Int32} {res : (Int32 × Mem)} (zf : fX12_term M x1 = some res) : CM l w yX12_term cX12_term 3 (some .int) { frames := 3, cells := 0, slots := 0, locals := 243 } 0 0 [rv w 0, .int x1] M (Pwi res) := by
  refine CM_of (by decide) (Nat.le_of_ble_eq_true rfl) (fun G hw hl h => ?_)
  subst hw
  exact kX12_term_e0 h zf

-- X12_undo
theorem kX12_undo_e0 {G : GX} (h : OKm G cX12_undo RX12 1 (some .int) { frames := 3, cells := 0, slots := 0, locals := 243 }) {M : Mem} {res : (Int32 × Mem)} (zf : fX12_undo M = some res) : GG G (Qm G (Pwi res) 0 0) 0 0 0 [(0, rv G.1 0)] [] M := by
  unfold fX12_undo at zf
  refine g_aload_n h 0 rfl dX12_undo_0 ?_
  refine gfX12_62 h (by decide : kd 0 = 10) dX12_undo_1 ?_
  refine g_aload_n h 0 rfl dX12_undo_4 ?_
  refine gfX12_52 h (by decide : kd 0 = 10) dX12_undo_5 ?_
  have zf1 := b2_some zf
  clear zf; obtain ⟨vq1, Mq2, zq, zf⟩ := zf1
  refine g_callVwi (As := [rv G.1 81]) (rest := []) h ceX1_takeBack mlX12_257 imX1_takeBack seX1_takeBack (by rfl) (kd_lt (by rw [(by decide : kd 91 = 0)]; decide)) (ent_0 (by decide : kd 91 = 0)) rfl rfl ⟨by decide, by decide⟩ ⟨by decide, by decide⟩ rfl dX12_undo_8 rfl (Nat.le_of_ble_eq_true rfl) (cmX1_takeBack zq) ?_
  refine g_if_eq h 24 (by decide) zf dX12_undo_11 ?_ ?_ <;> clear zf <;> intro zf
  · refine g_iconst h (-1) (v := (-1)) (by decide) dX12_undo_24 ?_
    obtain rfl := Option.some.inj zf
    exact g_iret h rfl ⟨rfl, rfl⟩ (Nat.le_refl _) (Nat.le_refl _) dX12_undo_25
  · refine g_aload_n h 0 rfl dX12_undo_14 ?_
    refine gfX12_62 h (by decide : kd 0 = 10) dX12_undo_15 ?_
    refine gfX12_119 h (by decide : kd 91 = 0) dX12_undo_18 ?_
    refine g_nmI zf ?_
    clear zf; intro vq3 zf
    refine g_goto h 25 (by decide) dX12_undo_21 ?_
    obtain rfl := Option.some.inj zf
    exact g_iret h rfl ⟨rfl, rfl⟩ (Nat.le_refl _) (Nat.le_refl _) dX12_undo_25

theorem cmX12_undo {l : Launch} {w : WX} {M : Mem} {res : (Int32 × Mem)} (zf : fX12_undo M = some res) : CM l w yX12_undo cX12_undo 1 (some .int) { frames := 3, cells := 0, slots := 0, locals := 243 } 0 0 [rv w 0] M (Pwi res) := by
  refine CM_of (by decide) (Nat.le_of_ble_eq_true rfl) (fun G hw hl h => ?_)
  subst hw
  exact kX12_undo_e0 h zf

-- X12_years
theorem kX12_years_b26 {G : GX} (h : OKm G cX12_years RX12 2 (some .int) { frames := 9, cells := 0, slots := 0, locals := 243 }) {M : Mem} {res : (Int32 × Mem)} (zf : fX12_years_b26 M = some res) : GG G (Qm G (Pwi res) 0 0) 0 0 26 [(0, rv G.1 0)] [] M := by
  unfold fX12_years_b26 at zf
  refine g_aload_n h 0 rfl dX12_years_26 ?_
  refine g_iconst h 1 (v := 1) (by decide) dX12_years_27 ?_
  have zf1 := b2_some zf
  clear zf; obtain ⟨vq1, Mq2, zq, zf⟩ := zf1
  refine g_callVwi (As := [.int 1]) (rest := []) h ceX12_refuse mlX12_238 imX12_refuse seX12_refuse (by rfl) (kd_lt (by rw [(by decide : kd 0 = 10)]; decide)) (ent_10 (by decide : kd 0 = 10)) rfl rfl ⟨by decide, by decide⟩ ⟨by decide, by decide⟩ rfl dX12_years_28 rfl (Nat.le_of_ble_eq_true rfl) (cmX12_refuse zq) ?_
  obtain rfl := Option.some.inj zf
  exact g_iret h rfl ⟨rfl, rfl⟩ (Nat.le_refl _) (Nat.le_refl _) dX12_years_31

theorem kX12_years_e0 {G : GX} (h : OKm G cX12_years RX12 2 (some .int) { frames := 9, cells := 0, slots := 0, locals := 243 }) {M : Mem} {x1 : Int32} {res : (Int32 × Mem)} (zf : fX12_years M x1 = some res) : GG G (Qm G (Pwi res) 0 0) 0 0 0 [(0, rv G.1 0), (1, .int x1)] [] M := by
  unfold fX12_years at zf
  refine g_iload_n h 1 rfl dX12_years_0 ?_
  refine g_iconst h 1 (v := 1) (by decide) dX12_years_1 ?_
  refine g_ic_lt h 26 (by decide) zf dX12_years_2 ?_ ?_ <;> clear zf <;> intro zf
  · refine g_sub h [0] rfl ?_
    exact kX12_years_b26 h zf
  · refine g_iload_n h 1 rfl dX12_years_5 ?_
    refine g_bipush h 20 (v := 20) (by decide) dX12_years_6 ?_
    refine g_ic_gt h 26 (by decide) zf dX12_years_8 ?_ ?_ <;> clear zf <;> intro zf
    · refine g_sub h [0] rfl ?_
      exact kX12_years_b26 h zf
    · refine g_aload_n h 0 rfl dX12_years_11 ?_
      refine gfX12_52 h (by decide : kd 0 = 10) dX12_years_12 ?_
      refine gfX12_132 h (by decide : kd 81 = 2) dX12_years_15 ?_
      refine g_nmI zf ?_
      clear zf; intro vq3 zf
      refine g_iload_n h 1 rfl dX12_years_18 ?_
      refine g_iadd h dX12_years_19 ?_
      refine g_sipush h 999 (v := 999) (by decide) dX12_years_20 ?_
      refine g_ic_le h 32 (by decide) zf dX12_years_23 ?_ ?_ <;> clear zf <;> intro zf
      · refine g_aload_n h 0 rfl dX12_years_32 ?_
        refine gfX12_62 h (by decide : kd 0 = 10) dX12_years_33 ?_
        refine g_aload_n h 0 rfl dX12_years_36 ?_
        refine gfX12_52 h (by decide : kd 0 = 10) dX12_years_37 ?_
        have zf1 := bd_some zf
        clear zf; obtain ⟨Mq4, zq, zf⟩ := zf1
        refine g_callVwv (As := [rv G.1 81]) (rest := []) h ceX1_keep mlX12_241 imX1_keep seX1_keep (by rfl) (kd_lt (by rw [(by decide : kd 91 = 0)]; decide)) (ent_0 (by decide : kd 91 = 0)) rfl rfl ⟨by decide, by decide⟩ ⟨by decide, by decide⟩ rfl dX12_years_40 rfl (Nat.le_of_ble_eq_true rfl) (cmX1_keep zq) ?_
        refine g_aload_n h 0 rfl dX12_years_43 ?_
        refine gfX12_36 h (by decide : kd 0 = 10) dX12_years_44 ?_
        refine g_aload_n h 0 rfl dX12_years_47 ?_
        refine gfX12_52 h (by decide : kd 0 = 10) dX12_years_48 ?_
        refine g_iload_n h 1 rfl dX12_years_51 ?_
        have zf1 := bd_some zf
        clear zf; obtain ⟨Mq5, zq, zf⟩ := zf1
        refine g_callVwv (As := [rv G.1 81, .int x1]) (rest := []) h ceX7_passMany mlX12_244 imX7_passMany seX7_passMany (by rfl) (kd_lt (by rw [(by decide : kd 28 = 6)]; decide)) (ent_6 (by decide : kd 28 = 6)) rfl rfl ⟨by decide, by decide⟩ ⟨by decide, by decide⟩ rfl dX12_years_52 rfl (Nat.le_of_ble_eq_true rfl) (cmX7_passMany zq) ?_
        refine g_aload_n h 0 rfl dX12_years_55 ?_
        refine gfX12_52 h (by decide : kd 0 = 10) dX12_years_56 ?_
        refine gfX12_132 h (by decide : kd 81 = 2) dX12_years_59 ?_
        refine g_nmI zf ?_
        clear zf; intro vq6 zf
        obtain rfl := Option.some.inj zf
        exact g_iret h rfl ⟨rfl, rfl⟩ (Nat.le_refl _) (Nat.le_refl _) dX12_years_62
      · refine g_sub h [0] rfl ?_
        exact kX12_years_b26 h zf

theorem cmX12_years {l : Launch} {w : WX} {M : Mem} {x1 : Int32} {res : (Int32 × Mem)} (zf : fX12_years M x1 = some res) : CM l w yX12_years cX12_years 2 (some .int) { frames := 9, cells := 0, slots := 0, locals := 243 } 0 0 [rv w 0, .int x1] M (Pwi res) := by
  refine CM_of (by decide) (Nat.le_of_ble_eq_true rfl) (fun G hw hl h => ?_)
  subst hw
  exact kX12_years_e0 h zf

-- X13_ahead0
theorem kX13_ahead0_e0 {G : GX} (h : OKm G cX13_ahead0 RX13 3 (some .int) { frames := 0, cells := 0, slots := 0, locals := 0 }) {M : Mem} {x1 : Int32} {x2 : Int32} {res : Int32} (zf : fX13_ahead0 M x1 x2 = some res) : GG G (Qm G (Pri res M) 0 0) 0 0 0 [(0, rv G.1 103), (1, .int x1), (2, .int x2)] [] M := by
  unfold fX13_ahead0 at zf
  refine g_aload_n h 0 rfl dX13_ahead0_0 ?_
  refine gfX13_108 h (by decide : kd 103 = 11) dX13_ahead0_1 ?_
  refine g_iload_n h 1 rfl dX13_ahead0_4 ?_
  refine g_bipush h 6 (v := 6) (by decide) dX13_ahead0_5 ?_
  refine g_iadd h dX13_ahead0_7 ?_
  refine g_iload_n h 2 rfl dX13_ahead0_8 ?_
  refine g_iadd h dX13_ahead0_9 ?_
  refine g_iald h 186 (by decide : kd 133 = 20) (by decide) zf dX13_ahead0_10 ?_
  clear zf; intro vq1 zf
  refine g_aload_n h 0 rfl dX13_ahead0_11 ?_
  refine gfX13_108 h (by decide : kd 103 = 11) dX13_ahead0_12 ?_
  refine g_iload_n h 1 rfl dX13_ahead0_15 ?_
  refine g_bipush h 6 (v := 6) (by decide) dX13_ahead0_16 ?_
  refine g_iadd h dX13_ahead0_18 ?_
  refine g_iconst h 1 (v := 1) (by decide) dX13_ahead0_19 ?_
  refine g_iadd h dX13_ahead0_20 ?_
  refine g_iload_n h 2 rfl dX13_ahead0_21 ?_
  refine g_isub h dX13_ahead0_22 ?_
  refine g_iald h 186 (by decide : kd 133 = 20) (by decide) zf dX13_ahead0_23 ?_
  clear zf; intro vq2 zf
  refine g_isub h dX13_ahead0_24 ?_
  obtain rfl := Option.some.inj zf
  exact g_iret h rfl ⟨rfl, rfl⟩ (Nat.le_refl _) (Nat.le_refl _) dX13_ahead0_25

theorem cmX13_ahead0 {l : Launch} {w : WX} {M : Mem} {x1 : Int32} {x2 : Int32} {res : Int32} (zf : fX13_ahead0 M x1 x2 = some res) : CM l w yX13_ahead0 cX13_ahead0 3 (some .int) { frames := 0, cells := 0, slots := 0, locals := 0 } 0 0 [rv w 103, .int x1, .int x2] M (Pri res M) := by
  refine CM_of (by decide) (Nat.le_of_ble_eq_true rfl) (fun G hw hl h => ?_)
  subst hw
  exact kX13_ahead0_e0 h zf

-- X13_isGood
theorem kX13_isGood_e0 {G : GX} (h : OKm G cX13_isGood RX13 1 (some .boolean) { frames := 0, cells := 0, slots := 0, locals := 0 }) {M : Mem} {res : Int32} (zf : fX13_isGood M = some res) : GG G (Qm G (Pri res M) 0 0) 0 0 0 [(0, rv G.1 103)] [] M := by
  unfold fX13_isGood at zf
  refine g_aload_n h 0 rfl dX13_isGood_0 ?_
  refine gfX13_197 h (by decide : kd 103 = 11) dX13_isGood_1 ?_
  refine g_nmI zf ?_
  clear zf; intro vq1 zf
  refine g_if_ne h 11 (by decide) zf dX13_isGood_4 ?_ ?_ <;> clear zf <;> intro zf
  · refine g_iconst h 0 (v := 0) (by decide) dX13_isGood_11 ?_
    obtain rfl := Option.some.inj zf
    exact g_zret h (by decide) rfl ⟨rfl, rfl⟩ (Nat.le_refl _) (Nat.le_refl _) dX13_isGood_12
  · refine g_iconst h 1 (v := 1) (by decide) dX13_isGood_7 ?_
    refine g_goto h 12 (by decide) dX13_isGood_8 ?_
    obtain rfl := Option.some.inj zf
    exact g_zret h (by decide) rfl ⟨rfl, rfl⟩ (Nat.le_refl _) (Nat.le_refl _) dX13_isGood_12

theorem cmX13_isGood {l : Launch} {w : WX} {M : Mem} {res : Int32} (zf : fX13_isGood M = some res) : CM l w yX13_isGood cX13_isGood 1 (some .boolean) { frames := 0, cells := 0, slots := 0, locals := 0 } 0 0 [rv w 103] M (Pri res M) := by
  refine CM_of (by decide) (Nat.le_of_ble_eq_true rfl) (fun G hw hl h => ?_)
  subst hw
  exact kX13_isGood_e0 h zf

-- X13_wrong
theorem kX13_wrong_e0 {G : GX} (h : OKm G cX13_wrong RX13 2 none { frames := 0, cells := 0, slots := 0, locals := 0 }) {M : Mem} {x1 : Int32} {res : Mem} (zf : fX13_wrong M x1 = some res) : GG G (Qm G (Pwv res) 0 0) 0 0 0 [(0, rv G.1 103), (1, .int x1)] [] M := by
  unfold fX13_wrong at zf
  refine g_aload_n h 0 rfl dX13_wrong_0 ?_
  refine gfX13_197 h (by decide : kd 103 = 11) dX13_wrong_1 ?_
  refine g_nmI zf ?_
  clear zf; intro vq1 zf
  refine g_if_eq h 8 (by decide) zf dX13_wrong_4 ?_ ?_ <;> clear zf <;> intro zf
  · refine g_aload_n h 0 rfl dX13_wrong_8 ?_
    refine g_iload_n h 1 rfl dX13_wrong_9 ?_
    refine pfX13_197 h (by decide : kd 103 = 11) dX13_wrong_10 ?_
    refine g_nmM zf ?_
    clear zf; intro Mq2 zf
    refine g_aload_n h 0 rfl dX13_wrong_13 ?_
    refine g_aload_n h 0 rfl dX13_wrong_14 ?_
    refine gfX13_161 h (by decide : kd 103 = 11) dX13_wrong_15 ?_
    refine g_nmI zf ?_
    clear zf; intro vq3 zf
    refine pfX13_56 h (by decide : kd 103 = 11) dX13_wrong_18 ?_
    refine g_nmM zf ?_
    clear zf; intro Mq4 zf
    obtain rfl := Option.some.inj zf
    exact g_vret h rfl ⟨rfl, rfl⟩ (Nat.le_refl _) (Nat.le_refl _) dX13_wrong_21
  · obtain rfl := Option.some.inj zf
    exact g_vret h rfl ⟨rfl, rfl⟩ (Nat.le_refl _) (Nat.le_refl _) dX13_wrong_7

theorem cmX13_wrong {l : Launch} {w : WX} {M : Mem} {x1 : Int32} {res : Mem} (zf : fX13_wrong M x1 = some res) : CM l w yX13_wrong cX13_wrong 2 none { frames := 0, cells := 0, slots := 0, locals := 0 } 0 0 [rv w 103, .int x1] M (Pwv res) := by
  refine CM_of (by decide) (Nat.le_of_ble_eq_true rfl) (fun G hw hl h => ?_)
  subst hw
  exact kX13_wrong_e0 h zf

-- X13_byteAt
theorem kX13_byteAt_e0 {G : GX} (h : OKm G cX13_byteAt RX13 2 (some .int) { frames := 0, cells := 0, slots := 0, locals := 0 }) {M : Mem} {x1 : Int32} {res : Int32} (zf : fX13_byteAt M x1 = some res) : GG G (Qm G (Pri res M) 0 0) 0 0 0 [(0, rv G.1 103), (1, .int x1)] [] M := by
  unfold fX13_byteAt at zf
  refine g_iload_n h 1 rfl dX13_byteAt_0 ?_
  refine g_aload_n h 0 rfl dX13_byteAt_1 ?_
  refine gfX13_151 h (by decide : kd 103 = 11) dX13_byteAt_2 ?_
  refine g_nmI zf ?_
  clear zf; intro vq1 zf
  refine g_ic_ge h 17 (by decide) zf dX13_byteAt_5 ?_ ?_ <;> clear zf <;> intro zf
  · refine g_iconst h 0 (v := 0) (by decide) dX13_byteAt_17 ?_
    obtain rfl := Option.some.inj zf
    exact g_iret h rfl ⟨rfl, rfl⟩ (Nat.le_refl _) (Nat.le_refl _) dX13_byteAt_18
  · refine g_aload_n h 0 rfl dX13_byteAt_8 ?_
    refine gfX13_53 h (by decide : kd 103 = 11) dX13_byteAt_9 ?_
    refine g_iload_n h 1 rfl dX13_byteAt_12 ?_
    refine g_iald h 700 (by decide : kd 116 = 20) (by decide) zf dX13_byteAt_13 ?_
    clear zf; intro vq2 zf
    refine g_goto h 18 (by decide) dX13_byteAt_14 ?_
    obtain rfl := Option.some.inj zf
    exact g_iret h rfl ⟨rfl, rfl⟩ (Nat.le_refl _) (Nat.le_refl _) dX13_byteAt_18

theorem cmX13_byteAt {l : Launch} {w : WX} {M : Mem} {x1 : Int32} {res : Int32} (zf : fX13_byteAt M x1 = some res) : CM l w yX13_byteAt cX13_byteAt 2 (some .int) { frames := 0, cells := 0, slots := 0, locals := 0 } 0 0 [rv w 103, .int x1] M (Pri res M) := by
  refine CM_of (by decide) (Nat.le_of_ble_eq_true rfl) (fun G hw hl h => ?_)
  subst hw
  exact kX13_byteAt_e0 h zf

-- X13_isLetter
theorem kX13_isLetter_e0 {G : GX} {M : Mem} (h : OKm G cX13_isLetter RX13 1 (some .boolean) { frames := 0, cells := 0, slots := 0, locals := 0 }) {x0 : Int32} {res : Int32} (zf : fX13_isLetter x0 = some res) : GG G (Qm G (Pri res M) 0 0) 0 0 0 [(0, .int x0)] [] M := by
  unfold fX13_isLetter at zf
  refine g_iload_n h 0 rfl dX13_isLetter_0 ?_
  refine g_bipush h 97 (v := 97) (by decide) dX13_isLetter_1 ?_
  refine g_ic_lt h 16 (by decide) zf dX13_isLetter_3 ?_ ?_ <;> clear zf <;> intro zf
  · refine g_iconst h 0 (v := 0) (by decide) dX13_isLetter_16 ?_
    obtain rfl := Option.some.inj zf
    exact g_zret h (by decide) rfl ⟨rfl, rfl⟩ (Nat.le_refl _) (Nat.le_refl _) dX13_isLetter_17
  · refine g_iload_n h 0 rfl dX13_isLetter_6 ?_
    refine g_bipush h 122 (v := 122) (by decide) dX13_isLetter_7 ?_
    refine g_ic_gt h 16 (by decide) zf dX13_isLetter_9 ?_ ?_ <;> clear zf <;> intro zf
    · refine g_iconst h 0 (v := 0) (by decide) dX13_isLetter_16 ?_
      obtain rfl := Option.some.inj zf
      exact g_zret h (by decide) rfl ⟨rfl, rfl⟩ (Nat.le_refl _) (Nat.le_refl _) dX13_isLetter_17
    · refine g_iconst h 1 (v := 1) (by decide) dX13_isLetter_12 ?_
      refine g_goto h 17 (by decide) dX13_isLetter_13 ?_
      obtain rfl := Option.some.inj zf
      exact g_zret h (by decide) rfl ⟨rfl, rfl⟩ (Nat.le_refl _) (Nat.le_refl _) dX13_isLetter_17

theorem cmX13_isLetter {l : Launch} {w : WX} {M : Mem} {x0 : Int32} {res : Int32} (zf : fX13_isLetter x0 = some res) : CM l w yX13_isLetter cX13_isLetter 1 (some .boolean) { frames := 0, cells := 0, slots := 0, locals := 0 } 0 0 [.int x0] M (Pri res M) := by
  refine CM_of (by decide) (Nat.le_of_ble_eq_true rfl) (fun G hw hl h => ?_)
  subst hw
  exact kX13_isLetter_e0 h zf

-- X13_isDigit
theorem kX13_isDigit_e0 {G : GX} {M : Mem} (h : OKm G cX13_isDigit RX13 1 (some .boolean) { frames := 0, cells := 0, slots := 0, locals := 0 }) {x0 : Int32} {res : Int32} (zf : fX13_isDigit x0 = some res) : GG G (Qm G (Pri res M) 0 0) 0 0 0 [(0, .int x0)] [] M := by
  unfold fX13_isDigit at zf
  refine g_iload_n h 0 rfl dX13_isDigit_0 ?_
  refine g_bipush h 48 (v := 48) (by decide) dX13_isDigit_1 ?_
  refine g_ic_lt h 16 (by decide) zf dX13_isDigit_3 ?_ ?_ <;> clear zf <;> intro zf
  · refine g_iconst h 0 (v := 0) (by decide) dX13_isDigit_16 ?_
    obtain rfl := Option.some.inj zf
    exact g_zret h (by decide) rfl ⟨rfl, rfl⟩ (Nat.le_refl _) (Nat.le_refl _) dX13_isDigit_17
  · refine g_iload_n h 0 rfl dX13_isDigit_6 ?_
    refine g_bipush h 57 (v := 57) (by decide) dX13_isDigit_7 ?_
    refine g_ic_gt h 16 (by decide) zf dX13_isDigit_9 ?_ ?_ <;> clear zf <;> intro zf
    · refine g_iconst h 0 (v := 0) (by decide) dX13_isDigit_16 ?_
      obtain rfl := Option.some.inj zf
      exact g_zret h (by decide) rfl ⟨rfl, rfl⟩ (Nat.le_refl _) (Nat.le_refl _) dX13_isDigit_17
    · refine g_iconst h 1 (v := 1) (by decide) dX13_isDigit_12 ?_
      refine g_goto h 17 (by decide) dX13_isDigit_13 ?_
      obtain rfl := Option.some.inj zf
      exact g_zret h (by decide) rfl ⟨rfl, rfl⟩ (Nat.le_refl _) (Nat.le_refl _) dX13_isDigit_17

theorem cmX13_isDigit {l : Launch} {w : WX} {M : Mem} {x0 : Int32} {res : Int32} (zf : fX13_isDigit x0 = some res) : CM l w yX13_isDigit cX13_isDigit 1 (some .boolean) { frames := 0, cells := 0, slots := 0, locals := 0 } 0 0 [.int x0] M (Pri res M) := by
  refine CM_of (by decide) (Nat.le_of_ble_eq_true rfl) (fun G hw hl h => ?_)
  subst hw
  exact kX13_isDigit_e0 h zf

-- X13_goes
theorem kX13_goes_b331 {G : GX} (h : OKm G cX13_goes RX13 2 none { frames := 1, cells := 0, slots := 0, locals := 21 }) {M : Mem} {res : Mem} (zf : fX13_goes_b331 M = some res) : GG G (Qm G (Pwv res) 0 0) 0 0 331 [(0, rv G.1 103)] [] M := by
  unfold fX13_goes_b331 at zf
  refine g_aload_n h 0 rfl dX13_goes_331 ?_
  refine g_aload_n h 0 rfl dX13_goes_332 ?_
  refine gfX13_154 h (by decide : kd 103 = 11) dX13_goes_333 ?_
  refine g_nmI zf ?_
  clear zf; intro vq17 zf
  refine g_aload_n h 0 rfl dX13_goes_336 ?_
  refine gfX13_161 h (by decide : kd 103 = 11) dX13_goes_337 ?_
  refine g_nmI zf ?_
  clear zf; intro vq18 zf
  refine g_isub h dX13_goes_340 ?_
  refine pfX13_184 h (by decide : kd 103 = 11) dX13_goes_341 ?_
  refine g_nmM zf ?_
  clear zf; intro Mq19 zf
  obtain rfl := Option.some.inj zf
  exact g_vret h rfl ⟨rfl, rfl⟩ (Nat.le_refl _) (Nat.le_refl _) dX13_goes_344

theorem kX13_goes_b328 {G : GX} (h : OKm G cX13_goes RX13 2 none { frames := 1, cells := 0, slots := 0, locals := 21 }) {M : Mem} {s0 : Int32} {res : Mem} (zf : fX13_goes_b328 M s0 = some res) : GG G (Qm G (Pwv res) 0 0) 0 0 328 [(0, rv G.1 103)] [.int s0, rv G.1 103] M := by
  unfold fX13_goes_b328 at zf
  refine pfX13_174 h (by decide : kd 103 = 11) dX13_goes_328 ?_
  refine g_nmM zf ?_
  clear zf; intro Mq16 zf
  refine g_sub h [0] rfl ?_
  exact kX13_goes_b331 h zf

theorem kX13_goes_b323 {G : GX} (h : OKm G cX13_goes RX13 2 none { frames := 1, cells := 0, slots := 0, locals := 21 }) {M : Mem} {res : Mem} (zf : fX13_goes_b323 M = some res) : GG G (Qm G (Pwv res) 0 0) 0 0 323 [(0, rv G.1 103)] [rv G.1 103] M := by
  unfold fX13_goes_b323 at zf
  refine g_iconst h 3 (v := 3) (by decide) dX13_goes_323 ?_
  refine g_goto h 328 (by decide) dX13_goes_324 ?_
  refine g_sub h [0] rfl ?_
  exact kX13_goes_b328 h zf

theorem kX13_goes_b237 {G : GX} (h : OKm G cX13_goes RX13 2 none { frames := 1, cells := 0, slots := 0, locals := 21 }) {a187 : Mem → Option Mem} (zh187 : ∀ (M : Mem) (res : Mem), a187 M = some res → GG G (Qm G (Pwv res) 0 0) 0 0 187 [(0, rv G.1 103)] [] M) {M : Mem} {res : Mem} (zf : fX13_goes_b237 a187 M = some res) : GG G (Qm G (Pwv res) 0 0) 0 0 237 [(0, rv G.1 103)] [] M := by
  unfold fX13_goes_b237 at zf
  refine g_aload_n h 0 rfl dX13_goes_237 ?_
  refine g_dup h rfl dX13_goes_238 ?_
  refine gfX13_154 h (by decide : kd 103 = 11) dX13_goes_239 ?_
  refine g_nmI zf ?_
  clear zf; intro vq26 zf
  refine g_iconst h 1 (v := 1) (by decide) dX13_goes_242 ?_
  refine g_iadd h dX13_goes_243 ?_
  refine pfX13_154 h (by decide : kd 103 = 11) dX13_goes_244 ?_
  refine g_nmM zf ?_
  clear zf; intro Mq27 zf
  refine g_goto h 187 (by decide) dX13_goes_247 ?_
  refine g_sub h [0] rfl ?_
  exact zh187 _ _ zf

theorem kX13_goes_l187 {G : GX} (h : OKm G cX13_goes RX13 2 none { frames := 1, cells := 0, slots := 0, locals := 21 }) : ∀ (n : Nat) (M : Mem) (res : Mem), fX13_goes_l187 n M = some res → GG G (Qm G (Pwv res) 0 0) 0 0 187 [(0, rv G.1 103)] [] M := by
  intro n
  induction n with
  | zero => intro M res zf; rw [fX13_goes_l187] at zf; cases zf
  | succ n ih =>
    intro M res zf
    rw [fX13_goes_l187] at zf
    refine g_aload_n h 0 rfl dX13_goes_187 ?_
    refine g_aload_n h 0 rfl dX13_goes_188 ?_
    refine gfX13_154 h (by decide : kd 103 = 11) dX13_goes_189 ?_
    refine g_nmI zf ?_
    clear zf; intro vq20 zf
    have zf1 := bd_some zf
    clear zf; obtain ⟨vq21, zq, zf⟩ := zf1
    refine g_callVri (As := [.int vq20]) (rest := []) h ceX13_byteAt mlX13_157 imX13_byteAt seX13_byteAt (by rfl) (kd_lt (by rw [(by decide : kd 103 = 11)]; decide)) (ent_11 (by decide : kd 103 = 11)) rfl rfl ⟨by decide, by decide⟩ ⟨by decide, by decide⟩ rfl dX13_goes_192 rfl (Nat.le_of_ble_eq_true rfl) (cmX13_byteAt zq) ?_
    have zf1 := bd_some zf
    clear zf; obtain ⟨vq22, zq, zf⟩ := zf1
    refine g_callSri (As := [.int vq21]) (rest := []) h ceX13_isDigit mlX13_181 smX13_isDigit rfl rfl ⟨by decide, by decide⟩ ⟨by decide, by decide⟩ rfl dX13_goes_195 rfl (Nat.le_of_ble_eq_true rfl) (cmX13_isDigit zq) ?_
    refine g_if_eq h 250 (by decide) zf dX13_goes_198 ?_ ?_ <;> clear zf <;> intro zf
    · refine g_aload_n h 0 rfl dX13_goes_250 ?_
      refine g_iconst h 2 (v := 2) (by decide) dX13_goes_251 ?_
      refine pfX13_174 h (by decide : kd 103 = 11) dX13_goes_252 ?_
      refine g_nmM zf ?_
      clear zf; intro Mq23 zf
      refine g_goto h 331 (by decide) dX13_goes_255 ?_
      refine g_sub h [0] rfl ?_
      exact kX13_goes_b331 h zf
    · refine g_aload_n h 0 rfl dX13_goes_201 ?_
      refine gfX13_154 h (by decide : kd 103 = 11) dX13_goes_202 ?_
      refine g_nmI zf ?_
      clear zf; intro vq24 zf
      refine g_aload_n h 0 rfl dX13_goes_205 ?_
      refine gfX13_161 h (by decide : kd 103 = 11) dX13_goes_206 ?_
      refine g_nmI zf ?_
      clear zf; intro vq25 zf
      refine g_isub h dX13_goes_209 ?_
      refine g_iconst h 4 (v := 4) (by decide) dX13_goes_210 ?_
      refine g_ic_ge h 237 (by decide) zf dX13_goes_211 ?_ ?_ <;> clear zf <;> intro zf
      · refine g_sub h [0] rfl ?_
        exact kX13_goes_b237 h ih zf
      · refine g_aload_n h 0 rfl dX13_goes_214 ?_
        refine g_bipush h 10 (v := 10) (by decide) dX13_goes_215 ?_
        refine g_aload_n h 0 rfl dX13_goes_217 ?_
        refine gfX13_168 h (by decide : kd 103 = 11) dX13_goes_218 ?_
        refine g_nmI zf ?_
        clear zf; intro vq28 zf
        refine g_imul h dX13_goes_221 ?_
        refine g_aload_n h 0 rfl dX13_goes_222 ?_
        refine g_aload_n h 0 rfl dX13_goes_223 ?_
        refine gfX13_154 h (by decide : kd 103 = 11) dX13_goes_224 ?_
        refine g_nmI zf ?_
        clear zf; intro vq29 zf
        have zf1 := bd_some zf
        clear zf; obtain ⟨vq30, zq, zf⟩ := zf1
        refine g_callVri (As := [.int vq29]) (rest := [.int (10 * vq28), rv G.1 103]) h ceX13_byteAt mlX13_157 imX13_byteAt seX13_byteAt (by rfl) (kd_lt (by rw [(by decide : kd 103 = 11)]; decide)) (ent_11 (by decide : kd 103 = 11)) rfl rfl ⟨by decide, by decide⟩ ⟨by decide, by decide⟩ rfl dX13_goes_227 rfl (Nat.le_of_ble_eq_true rfl) (cmX13_byteAt zq) ?_
        refine g_iadd h dX13_goes_230 ?_
        refine g_bipush h 48 (v := 48) (by decide) dX13_goes_231 ?_
        refine g_isub h dX13_goes_233 ?_
        refine pfX13_168 h (by decide : kd 103 = 11) dX13_goes_234 ?_
        refine g_nmM zf ?_
        clear zf; intro Mq31 zf
        refine g_sub h [0] rfl ?_
        exact kX13_goes_b237 h ih zf

theorem kX13_goes_b159 {G : GX} (h : OKm G cX13_goes RX13 2 none { frames := 1, cells := 0, slots := 0, locals := 21 }) {a108 : Mem → Option Mem} (zh108 : ∀ (M : Mem) (res : Mem), a108 M = some res → GG G (Qm G (Pwv res) 0 0) 0 0 108 [(0, rv G.1 103)] [] M) {M : Mem} {res : Mem} (zf : fX13_goes_b159 a108 M = some res) : GG G (Qm G (Pwv res) 0 0) 0 0 159 [(0, rv G.1 103)] [] M := by
  unfold fX13_goes_b159 at zf
  refine g_aload_n h 0 rfl dX13_goes_159 ?_
  refine g_dup h rfl dX13_goes_160 ?_
  refine gfX13_154 h (by decide : kd 103 = 11) dX13_goes_161 ?_
  refine g_nmI zf ?_
  clear zf; intro vq38 zf
  refine g_iconst h 1 (v := 1) (by decide) dX13_goes_164 ?_
  refine g_iadd h dX13_goes_165 ?_
  refine pfX13_154 h (by decide : kd 103 = 11) dX13_goes_166 ?_
  refine g_nmM zf ?_
  clear zf; intro Mq39 zf
  refine g_goto h 108 (by decide) dX13_goes_169 ?_
  refine g_sub h [0] rfl ?_
  exact zh108 _ _ zf

theorem kX13_goes_l108 {G : GX} (h : OKm G cX13_goes RX13 2 none { frames := 1, cells := 0, slots := 0, locals := 21 }) : ∀ (n : Nat) (M : Mem) (res : Mem), fX13_goes_l108 n M = some res → GG G (Qm G (Pwv res) 0 0) 0 0 108 [(0, rv G.1 103)] [] M := by
  intro n
  induction n with
  | zero => intro M res zf; rw [fX13_goes_l108] at zf; cases zf
  | succ n ih =>
    intro M res zf
    rw [fX13_goes_l108] at zf
    refine g_aload_n h 0 rfl dX13_goes_108 ?_
    refine g_aload_n h 0 rfl dX13_goes_109 ?_
    refine gfX13_154 h (by decide : kd 103 = 11) dX13_goes_110 ?_
    refine g_nmI zf ?_
    clear zf; intro vq32 zf
    have zf1 := bd_some zf
    clear zf; obtain ⟨vq33, zq, zf⟩ := zf1
    refine g_callVri (As := [.int vq32]) (rest := []) h ceX13_byteAt mlX13_157 imX13_byteAt seX13_byteAt (by rfl) (kd_lt (by rw [(by decide : kd 103 = 11)]; decide)) (ent_11 (by decide : kd 103 = 11)) rfl rfl ⟨by decide, by decide⟩ ⟨by decide, by decide⟩ rfl dX13_goes_113 rfl (Nat.le_of_ble_eq_true rfl) (cmX13_byteAt zq) ?_
    have zf1 := bd_some zf
    clear zf; obtain ⟨vq34, zq, zf⟩ := zf1
    refine g_callSri (As := [.int vq33]) (rest := []) h ceX13_isLetter mlX13_177 smX13_isLetter rfl rfl ⟨by decide, by decide⟩ ⟨by decide, by decide⟩ rfl dX13_goes_116 rfl (Nat.le_of_ble_eq_true rfl) (cmX13_isLetter zq) ?_
    refine g_if_eq h 172 (by decide) zf dX13_goes_119 ?_ ?_ <;> clear zf <;> intro zf
    · refine g_aload_n h 0 rfl dX13_goes_172 ?_
      refine g_iconst h 1 (v := 1) (by decide) dX13_goes_173 ?_
      refine pfX13_174 h (by decide : kd 103 = 11) dX13_goes_174 ?_
      refine g_nmM zf ?_
      clear zf; intro Mq35 zf
      refine g_goto h 331 (by decide) dX13_goes_177 ?_
      refine g_sub h [0] rfl ?_
      exact kX13_goes_b331 h zf
    · refine g_aload_n h 0 rfl dX13_goes_122 ?_
      refine gfX13_154 h (by decide : kd 103 = 11) dX13_goes_123 ?_
      refine g_nmI zf ?_
      clear zf; intro vq36 zf
      refine g_aload_n h 0 rfl dX13_goes_126 ?_
      refine gfX13_161 h (by decide : kd 103 = 11) dX13_goes_127 ?_
      refine g_nmI zf ?_
      clear zf; intro vq37 zf
      refine g_isub h dX13_goes_130 ?_
      refine g_bipush h 8 (v := 8) (by decide) dX13_goes_131 ?_
      refine g_ic_ge h 159 (by decide) zf dX13_goes_133 ?_ ?_ <;> clear zf <;> intro zf
      · refine g_sub h [0] rfl ?_
        exact kX13_goes_b159 h ih zf
      · refine g_aload_n h 0 rfl dX13_goes_136 ?_
        refine g_aload_n h 0 rfl dX13_goes_137 ?_
        refine gfX13_164 h (by decide : kd 103 = 11) dX13_goes_138 ?_
        refine g_nmL zf ?_
        clear zf; intro vq40 zf
        refine g_iconst h 5 (v := 5) (by decide) dX13_goes_141 ?_
        refine g_lshl h dX13_goes_142 ?_
        refine g_aload_n h 0 rfl dX13_goes_143 ?_
        refine g_aload_n h 0 rfl dX13_goes_144 ?_
        refine gfX13_154 h (by decide : kd 103 = 11) dX13_goes_145 ?_
        refine g_nmI zf ?_
        clear zf; intro vq41 zf
        have zf1 := bd_some zf
        clear zf; obtain ⟨vq42, zq, zf⟩ := zf1
        refine g_callVri (As := [.int vq41]) (rest := [.long ((vq40 : Int64) <<< (Int32.toInt64 5 &&& 63 : Int64)), rv G.1 103]) h ceX13_byteAt mlX13_157 imX13_byteAt seX13_byteAt (by rfl) (kd_lt (by rw [(by decide : kd 103 = 11)]; decide)) (ent_11 (by decide : kd 103 = 11)) rfl rfl ⟨by decide, by decide⟩ ⟨by decide, by decide⟩ rfl dX13_goes_148 rfl (Nat.le_of_ble_eq_true rfl) (cmX13_byteAt zq) ?_
        refine g_bipush h 96 (v := 96) (by decide) dX13_goes_151 ?_
        refine g_isub h dX13_goes_153 ?_
        refine g_i2l h dX13_goes_154 ?_
        refine g_lor h dX13_goes_155 ?_
        refine pfX13_164 h (by decide : kd 103 = 11) dX13_goes_156 ?_
        refine g_nmM zf ?_
        clear zf; intro Mq43 zf
        refine g_sub h [0] rfl ?_
        exact kX13_goes_b159 h ih zf

theorem kX13_goes_b50 {G : GX} (h : OKm G cX13_goes RX13 2 none { frames := 1, cells := 0, slots := 0, locals := 21 }) {M : Mem} {res : Mem} (zf : fX13_goes_b50 M = some res) : GG G (Qm G (Pwv res) 0 0) 0 0 50 [(0, rv G.1 103)] [] M := by
  unfold fX13_goes_b50 at zf
  refine g_aload_n h 0 rfl dX13_goes_50 ?_
  refine g_aload_n h 0 rfl dX13_goes_51 ?_
  refine gfX13_154 h (by decide : kd 103 = 11) dX13_goes_52 ?_
  refine g_nmI zf ?_
  clear zf; intro vq3 zf
  refine pfX13_161 h (by decide : kd 103 = 11) dX13_goes_55 ?_
  refine g_nmM zf ?_
  clear zf; intro Mq4 zf
  refine g_aload_n h 0 rfl dX13_goes_58 ?_
  refine g_lconst h 0 (v := 0) (by decide) dX13_goes_59 ?_
  refine pfX13_164 h (by decide : kd 103 = 11) dX13_goes_60 ?_
  refine g_nmM zf ?_
  clear zf; intro Mq5 zf
  refine g_aload_n h 0 rfl dX13_goes_63 ?_
  refine g_iconst h 0 (v := 0) (by decide) dX13_goes_64 ?_
  refine pfX13_168 h (by decide : kd 103 = 11) dX13_goes_65 ?_
  refine g_nmM zf ?_
  clear zf; intro Mq6 zf
  refine g_aload_n h 0 rfl dX13_goes_68 ?_
  refine g_aload_n h 0 rfl dX13_goes_69 ?_
  refine gfX13_154 h (by decide : kd 103 = 11) dX13_goes_70 ?_
  refine g_nmI zf ?_
  clear zf; intro vq7 zf
  have zf1 := bd_some zf
  clear zf; obtain ⟨vq8, zq, zf⟩ := zf1
  refine g_callVri (As := [.int vq7]) (rest := []) h ceX13_byteAt mlX13_157 imX13_byteAt seX13_byteAt (by rfl) (kd_lt (by rw [(by decide : kd 103 = 11)]; decide)) (ent_11 (by decide : kd 103 = 11)) rfl rfl ⟨by decide, by decide⟩ ⟨by decide, by decide⟩ rfl dX13_goes_73 rfl (Nat.le_of_ble_eq_true rfl) (cmX13_byteAt zq) ?_
  refine g_istore_n h rfl [(1, .int vq8), (0, rv G.1 103)] (by decide) rfl dX13_goes_76 ?_
  refine g_aload_n h 1 rfl dX13_goes_77 ?_
  refine g_iload_n h 0 rfl dX13_goes_78 ?_
  refine pfX13_171 h (by decide : kd 103 = 11) dX13_goes_79 ?_
  refine g_nmM zf ?_
  clear zf; intro Mq9 zf
  refine g_aload_n h 1 rfl dX13_goes_82 ?_
  refine gfX13_154 h (by decide : kd 103 = 11) dX13_goes_83 ?_
  refine g_nmI zf ?_
  clear zf; intro vq10 zf
  refine g_aload_n h 1 rfl dX13_goes_86 ?_
  refine gfX13_151 h (by decide : kd 103 = 11) dX13_goes_87 ?_
  refine g_nmI zf ?_
  clear zf; intro vq11 zf
  refine g_ic_lt h 101 (by decide) zf dX13_goes_90 ?_ ?_ <;> clear zf <;> intro zf
  · refine g_iload_n h 0 rfl dX13_goes_101 ?_
    have zf1 := bd_some zf
    clear zf; obtain ⟨vq12, zq, zf⟩ := zf1
    refine g_callSri (As := [.int vq8]) (rest := []) h ceX13_isLetter mlX13_177 smX13_isLetter rfl rfl ⟨by decide, by decide⟩ ⟨by decide, by decide⟩ rfl dX13_goes_102 rfl (Nat.le_of_ble_eq_true rfl) (cmX13_isLetter zq) ?_
    refine g_if_eq h 180 (by decide) zf dX13_goes_105 ?_ ?_ <;> clear zf <;> intro zf
    · refine g_iload_n h 0 rfl dX13_goes_180 ?_
      have zf1 := bd_some zf
      clear zf; obtain ⟨vq13, zq, zf⟩ := zf1
      refine g_callSri (As := [.int vq8]) (rest := []) h ceX13_isDigit mlX13_181 smX13_isDigit rfl rfl ⟨by decide, by decide⟩ ⟨by decide, by decide⟩ rfl dX13_goes_181 rfl (Nat.le_of_ble_eq_true rfl) (cmX13_isDigit zq) ?_
      refine g_if_eq h 258 (by decide) zf dX13_goes_184 ?_ ?_ <;> clear zf <;> intro zf
      · refine g_aload_n h 1 rfl dX13_goes_258 ?_
        refine g_dup h rfl dX13_goes_259 ?_
        refine gfX13_154 h (by decide : kd 103 = 11) dX13_goes_260 ?_
        refine g_nmI zf ?_
        clear zf; intro vq14 zf
        refine g_iconst h 1 (v := 1) (by decide) dX13_goes_263 ?_
        refine g_iadd h dX13_goes_264 ?_
        refine pfX13_154 h (by decide : kd 103 = 11) dX13_goes_265 ?_
        refine g_nmM zf ?_
        clear zf; intro Mq15 zf
        refine g_aload_n h 1 rfl dX13_goes_268 ?_
        refine g_iload_n h 0 rfl dX13_goes_269 ?_
        refine g_bipush h 59 (v := 59) (by decide) dX13_goes_270 ?_
        refine g_ic_eq h 323 (by decide) zf dX13_goes_272 ?_ ?_ <;> clear zf <;> intro zf
        · refine g_sub h [1] rfl ?_
          exact kX13_goes_b323 h zf
        · refine g_iload_n h 0 rfl dX13_goes_275 ?_
          refine g_bipush h 40 (v := 40) (by decide) dX13_goes_276 ?_
          refine g_ic_eq h 323 (by decide) zf dX13_goes_278 ?_ ?_ <;> clear zf <;> intro zf
          · refine g_sub h [1] rfl ?_
            exact kX13_goes_b323 h zf
          · refine g_iload_n h 0 rfl dX13_goes_281 ?_
            refine g_bipush h 41 (v := 41) (by decide) dX13_goes_282 ?_
            refine g_ic_eq h 323 (by decide) zf dX13_goes_284 ?_ ?_ <;> clear zf <;> intro zf
            · refine g_sub h [1] rfl ?_
              exact kX13_goes_b323 h zf
            · refine g_iload_n h 0 rfl dX13_goes_287 ?_
              refine g_bipush h 43 (v := 43) (by decide) dX13_goes_288 ?_
              refine g_ic_eq h 323 (by decide) zf dX13_goes_290 ?_ ?_ <;> clear zf <;> intro zf
              · refine g_sub h [1] rfl ?_
                exact kX13_goes_b323 h zf
              · refine g_iload_n h 0 rfl dX13_goes_293 ?_
                refine g_bipush h 45 (v := 45) (by decide) dX13_goes_294 ?_
                refine g_ic_eq h 323 (by decide) zf dX13_goes_296 ?_ ?_ <;> clear zf <;> intro zf
                · refine g_sub h [1] rfl ?_
                  exact kX13_goes_b323 h zf
                · refine g_iload_n h 0 rfl dX13_goes_299 ?_
                  refine g_bipush h 42 (v := 42) (by decide) dX13_goes_300 ?_
                  refine g_ic_eq h 323 (by decide) zf dX13_goes_302 ?_ ?_ <;> clear zf <;> intro zf
                  · refine g_sub h [1] rfl ?_
                    exact kX13_goes_b323 h zf
                  · refine g_iload_n h 0 rfl dX13_goes_305 ?_
                    refine g_bipush h 47 (v := 47) (by decide) dX13_goes_306 ?_
                    refine g_ic_eq h 323 (by decide) zf dX13_goes_308 ?_ ?_ <;> clear zf <;> intro zf
                    · refine g_sub h [1] rfl ?_
                      exact kX13_goes_b323 h zf
                    · refine g_iload_n h 0 rfl dX13_goes_311 ?_
                      refine g_bipush h 60 (v := 60) (by decide) dX13_goes_312 ?_
                      refine g_ic_eq h 323 (by decide) zf dX13_goes_314 ?_ ?_ <;> clear zf <;> intro zf
                      · refine g_sub h [1] rfl ?_
                        exact kX13_goes_b323 h zf
                      · refine g_iload_n h 0 rfl dX13_goes_317 ?_
                        refine g_bipush h 61 (v := 61) (by decide) dX13_goes_318 ?_
                        refine g_ic_ne h 327 (by decide) zf dX13_goes_320 ?_ ?_ <;> clear zf <;> intro zf
                        · refine g_iconst h 4 (v := 4) (by decide) dX13_goes_327 ?_
                          refine g_sub h [1] rfl ?_
                          exact kX13_goes_b328 h zf
                        · refine g_sub h [1] rfl ?_
                          exact kX13_goes_b323 h zf
      · refine g_sub h [1] rfl ?_
        exact kX13_goes_l187 h _ _ _ zf
    · refine g_sub h [1] rfl ?_
      exact kX13_goes_l108 h _ _ _ zf
  · refine g_aload_n h 1 rfl dX13_goes_93 ?_
    refine g_iconst h 0 (v := 0) (by decide) dX13_goes_94 ?_
    refine pfX13_174 h (by decide : kd 103 = 11) dX13_goes_95 ?_
    refine g_nmM zf ?_
    clear zf; intro Mq44 zf
    refine g_goto h 331 (by decide) dX13_goes_98 ?_
    refine g_sub h [1] rfl ?_
    exact kX13_goes_b331 h zf

theorem kX13_goes_b37 {G : GX} (h : OKm G cX13_goes RX13 2 none { frames := 1, cells := 0, slots := 0, locals := 21 }) {a0 : Mem → Option Mem} (zh0 : ∀ (M : Mem) (res : Mem), a0 M = some res → GG G (Qm G (Pwv res) 0 0) 0 0 0 [(0, rv G.1 103)] [] M) {M : Mem} {res : Mem} (zf : fX13_goes_b37 a0 M = some res) : GG G (Qm G (Pwv res) 0 0) 0 0 37 [(0, rv G.1 103)] [] M := by
  unfold fX13_goes_b37 at zf
  refine g_aload_n h 0 rfl dX13_goes_37 ?_
  refine g_dup h rfl dX13_goes_38 ?_
  refine gfX13_154 h (by decide : kd 103 = 11) dX13_goes_39 ?_
  refine g_nmI zf ?_
  clear zf; intro vq47 zf
  refine g_iconst h 1 (v := 1) (by decide) dX13_goes_42 ?_
  refine g_iadd h dX13_goes_43 ?_
  refine pfX13_154 h (by decide : kd 103 = 11) dX13_goes_44 ?_
  refine g_nmM zf ?_
  clear zf; intro Mq48 zf
  refine g_goto h 0 (by decide) dX13_goes_47 ?_
  refine g_sub h [0] rfl ?_
  exact zh0 _ _ zf

theorem kX13_goes_l0 {G : GX} (h : OKm G cX13_goes RX13 2 none { frames := 1, cells := 0, slots := 0, locals := 21 }) : ∀ (n : Nat) (M : Mem) (res : Mem), fX13_goes_l0 n M = some res → GG G (Qm G (Pwv res) 0 0) 0 0 0 [(0, rv G.1 103)] [] M := by
  intro n
  induction n with
  | zero => intro M res zf; rw [fX13_goes_l0] at zf; cases zf
  | succ n ih =>
    intro M res zf
    rw [fX13_goes_l0] at zf
    refine g_aload_n h 0 rfl dX13_goes_0 ?_
    refine gfX13_154 h (by decide : kd 103 = 11) dX13_goes_1 ?_
    refine g_nmI zf ?_
    clear zf; intro vq1 zf
    refine g_aload_n h 0 rfl dX13_goes_4 ?_
    refine gfX13_151 h (by decide : kd 103 = 11) dX13_goes_5 ?_
    refine g_nmI zf ?_
    clear zf; intro vq2 zf
    refine g_ic_ge h 50 (by decide) zf dX13_goes_8 ?_ ?_ <;> clear zf <;> intro zf
    · refine g_sub h [0] rfl ?_
      exact kX13_goes_b50 h zf
    · refine g_aload_n h 0 rfl dX13_goes_11 ?_
      refine g_aload_n h 0 rfl dX13_goes_12 ?_
      refine gfX13_154 h (by decide : kd 103 = 11) dX13_goes_13 ?_
      refine g_nmI zf ?_
      clear zf; intro vq45 zf
      have zf1 := bd_some zf
      clear zf; obtain ⟨vq46, zq, zf⟩ := zf1
      refine g_callVri (As := [.int vq45]) (rest := []) h ceX13_byteAt mlX13_157 imX13_byteAt seX13_byteAt (by rfl) (kd_lt (by rw [(by decide : kd 103 = 11)]; decide)) (ent_11 (by decide : kd 103 = 11)) rfl rfl ⟨by decide, by decide⟩ ⟨by decide, by decide⟩ rfl dX13_goes_16 rfl (Nat.le_of_ble_eq_true rfl) (cmX13_byteAt zq) ?_
      refine g_bipush h 32 (v := 32) (by decide) dX13_goes_19 ?_
      refine g_ic_eq h 37 (by decide) zf dX13_goes_21 ?_ ?_ <;> clear zf <;> intro zf
      · refine g_sub h [0] rfl ?_
        exact kX13_goes_b37 h ih zf
      · refine g_aload_n h 0 rfl dX13_goes_24 ?_
        refine g_aload_n h 0 rfl dX13_goes_25 ?_
        refine gfX13_154 h (by decide : kd 103 = 11) dX13_goes_26 ?_
        refine g_nmI zf ?_
        clear zf; intro vq49 zf
        have zf1 := bd_some zf
        clear zf; obtain ⟨vq50, zq, zf⟩ := zf1
        refine g_callVri (As := [.int vq49]) (rest := []) h ceX13_byteAt mlX13_157 imX13_byteAt seX13_byteAt (by rfl) (kd_lt (by rw [(by decide : kd 103 = 11)]; decide)) (ent_11 (by decide : kd 103 = 11)) rfl rfl ⟨by decide, by decide⟩ ⟨by decide, by decide⟩ rfl dX13_goes_29 rfl (Nat.le_of_ble_eq_true rfl) (cmX13_byteAt zq) ?_
        refine g_bipush h 10 (v := 10) (by decide) dX13_goes_32 ?_
        refine g_ic_ne h 50 (by decide) zf dX13_goes_34 ?_ ?_ <;> clear zf <;> intro zf
        · refine g_sub h [0] rfl ?_
          exact kX13_goes_b50 h zf
        · refine g_sub h [0] rfl ?_
          exact kX13_goes_b37 h ih zf

theorem kX13_goes_e0 {G : GX} (h : OKm G cX13_goes RX13 2 none { frames := 1, cells := 0, slots := 0, locals := 21 }) {M : Mem} {res : Mem} (zf : fX13_goes M = some res) : GG G (Qm G (Pwv res) 0 0) 0 0 0 [(0, rv G.1 103)] [] M := by
  unfold fX13_goes at zf
  refine g_sub h [0] rfl ?_
  exact kX13_goes_l0 h _ _ _ zf

theorem cmX13_goes {l : Launch} {w : WX} {M : Mem} {res : Mem} (zf : fX13_goes M = some res) : CM l w yX13_goes cX13_goes 2 none { frames := 1, cells := 0, slots := 0, locals := 21 } 0 0 [rv w 103] M (Pwv res) := by
  refine CM_of (by decide) (Nat.le_of_ble_eq_true rfl) (fun G hw hl h => ?_)
  subst hw
  exact kX13_goes_e0 h zf

-- X13_among
theorem kX13_among_b54 {G : GX} (h : OKm G cX13_among RX13 3 (some .int) { frames := 2, cells := 0, slots := 0, locals := 42 }) {M : Mem} {res : (Int32 × Mem)} (zf : fX13_among_b54 M = some res) : GG G (Qm G (Pwi res) 0 0) 0 0 54 [(0, rv G.1 103)] [] M := by
  unfold fX13_among_b54 at zf
  refine g_aload_n h 0 rfl dX13_among_54 ?_
  refine gfX13_168 h (by decide : kd 103 = 11) dX13_among_55 ?_
  refine g_nmI zf ?_
  clear zf; intro vq5 zf
  refine g_istore_n h rfl [(2, .int vq5), (0, rv G.1 103)] (by decide) rfl dX13_among_58 ?_
  refine g_aload_n h 1 rfl dX13_among_59 ?_
  have zf1 := bd_some zf
  clear zf; obtain ⟨vq6, zq, zf⟩ := zf1
  refine g_callVri (As := []) (rest := []) h ceX13_isGood mlX13_200 imX13_isGood seX13_isGood (by rfl) (kd_lt (by rw [(by decide : kd 103 = 11)]; decide)) (ent_11 (by decide : kd 103 = 11)) rfl rfl ⟨by decide, by decide⟩ ⟨by decide, by decide⟩ rfl dX13_among_60 rfl (Nat.le_of_ble_eq_true rfl) (cmX13_isGood zq) ?_
  refine g_if_eq h 70 (by decide) zf dX13_among_63 ?_ ?_ <;> clear zf <;> intro zf
  · refine g_iload_n h 0 rfl dX13_among_70 ?_
    obtain rfl := Option.some.inj zf
    exact g_iret h rfl ⟨rfl, rfl⟩ (Nat.le_refl _) (Nat.le_refl _) dX13_among_71
  · refine g_aload_n h 1 rfl dX13_among_66 ?_
    have zf1 := bd_some zf
    clear zf; obtain ⟨Mq7, zq, zf⟩ := zf1
    refine g_callVwv (As := []) (rest := []) h ceX13_goes mlX13_204 imX13_goes seX13_goes (by rfl) (kd_lt (by rw [(by decide : kd 103 = 11)]; decide)) (ent_11 (by decide : kd 103 = 11)) rfl rfl ⟨by decide, by decide⟩ ⟨by decide, by decide⟩ rfl dX13_among_67 rfl (Nat.le_of_ble_eq_true rfl) (cmX13_goes zq) ?_
    refine g_iload_n h 0 rfl dX13_among_70 ?_
    obtain rfl := Option.some.inj zf
    exact g_iret h rfl ⟨rfl, rfl⟩ (Nat.le_refl _) (Nat.le_refl _) dX13_among_71

theorem kX13_among_e0 {G : GX} (h : OKm G cX13_among RX13 3 (some .int) { frames := 2, cells := 0, slots := 0, locals := 42 }) {M : Mem} {x1 : Int32} {res : (Int32 × Mem)} (zf : fX13_among M x1 = some res) : GG G (Qm G (Pwi res) 0 0) 0 0 0 [(0, rv G.1 103), (1, .int x1)] [] M := by
  unfold fX13_among at zf
  refine g_aload_n h 0 rfl dX13_among_0 ?_
  have zf1 := bd_some zf
  clear zf; obtain ⟨vq1, zq, zf⟩ := zf1
  refine g_callVri (As := []) (rest := []) h ceX13_isGood mlX13_200 imX13_isGood seX13_isGood (by rfl) (kd_lt (by rw [(by decide : kd 103 = 11)]; decide)) (ent_11 (by decide : kd 103 = 11)) rfl rfl ⟨by decide, by decide⟩ ⟨by decide, by decide⟩ rfl dX13_among_1 rfl (Nat.le_of_ble_eq_true rfl) (cmX13_isGood zq) ?_
  refine g_if_ne h 9 (by decide) zf dX13_among_4 ?_ ?_ <;> clear zf <;> intro zf
  · refine g_aload_n h 0 rfl dX13_among_9 ?_
    refine gfX13_174 h (by decide : kd 103 = 11) dX13_among_10 ?_
    refine g_nmI zf ?_
    clear zf; intro vq2 zf
    refine g_iconst h 2 (v := 2) (by decide) dX13_among_13 ?_
    refine g_ic_eq h 25 (by decide) zf dX13_among_14 ?_ ?_ <;> clear zf <;> intro zf
    · refine g_aload_n h 0 rfl dX13_among_25 ?_
      refine gfX13_184 h (by decide : kd 103 = 11) dX13_among_26 ?_
      refine g_nmI zf ?_
      clear zf; intro vq3 zf
      refine g_iconst h 4 (v := 4) (by decide) dX13_among_29 ?_
      refine g_ic_le h 41 (by decide) zf dX13_among_30 ?_ ?_ <;> clear zf <;> intro zf
      · refine g_aload_n h 0 rfl dX13_among_41 ?_
        refine gfX13_168 h (by decide : kd 103 = 11) dX13_among_42 ?_
        refine g_nmI zf ?_
        clear zf; intro vq4 zf
        refine g_iload_n h 1 rfl dX13_among_45 ?_
        refine g_ic_lt h 54 (by decide) zf dX13_among_46 ?_ ?_ <;> clear zf <;> intro zf
        · refine g_sub h [0] rfl ?_
          exact kX13_among_b54 h zf
        · refine g_aload_n h 0 rfl dX13_among_49 ?_
          refine g_iconst h 3 (v := 3) (by decide) dX13_among_50 ?_
          have zf1 := bd_some zf
          clear zf; obtain ⟨Mq8, zq, zf⟩ := zf1
          refine g_callVwv (As := [.int 3]) (rest := []) h ceX13_wrong mlX13_207 imX13_wrong seX13_wrong (by rfl) (kd_lt (by rw [(by decide : kd 103 = 11)]; decide)) (ent_11 (by decide : kd 103 = 11)) rfl rfl ⟨by decide, by decide⟩ ⟨by decide, by decide⟩ rfl dX13_among_51 rfl (Nat.le_of_ble_eq_true rfl) (cmX13_wrong zq) ?_
          refine g_sub h [0] rfl ?_
          exact kX13_among_b54 h zf
      · refine g_aload_n h 0 rfl dX13_among_33 ?_
        refine g_iconst h 2 (v := 2) (by decide) dX13_among_34 ?_
        have zf1 := bd_some zf
        clear zf; obtain ⟨Mq9, zq, zf⟩ := zf1
        refine g_callVwv (As := [.int 2]) (rest := []) h ceX13_wrong mlX13_207 imX13_wrong seX13_wrong (by rfl) (kd_lt (by rw [(by decide : kd 103 = 11)]; decide)) (ent_11 (by decide : kd 103 = 11)) rfl rfl ⟨by decide, by decide⟩ ⟨by decide, by decide⟩ rfl dX13_among_35 rfl (Nat.le_of_ble_eq_true rfl) (cmX13_wrong zq) ?_
        refine g_goto h 54 (by decide) dX13_among_38 ?_
        refine g_sub h [0] rfl ?_
        exact kX13_among_b54 h zf
    · refine g_aload_n h 0 rfl dX13_among_17 ?_
      refine g_iconst h 1 (v := 1) (by decide) dX13_among_18 ?_
      have zf1 := bd_some zf
      clear zf; obtain ⟨Mq10, zq, zf⟩ := zf1
      refine g_callVwv (As := [.int 1]) (rest := []) h ceX13_wrong mlX13_207 imX13_wrong seX13_wrong (by rfl) (kd_lt (by rw [(by decide : kd 103 = 11)]; decide)) (ent_11 (by decide : kd 103 = 11)) rfl rfl ⟨by decide, by decide⟩ ⟨by decide, by decide⟩ rfl dX13_among_19 rfl (Nat.le_of_ble_eq_true rfl) (cmX13_wrong zq) ?_
      refine g_goto h 54 (by decide) dX13_among_22 ?_
      refine g_sub h [0] rfl ?_
      exact kX13_among_b54 h zf
  · refine g_iconst h 0 (v := 0) (by decide) dX13_among_7 ?_
    obtain rfl := Option.some.inj zf
    exact g_iret h rfl ⟨rfl, rfl⟩ (Nat.le_refl _) (Nat.le_refl _) dX13_among_8

theorem cmX13_among {l : Launch} {w : WX} {M : Mem} {x1 : Int32} {res : (Int32 × Mem)} (zf : fX13_among M x1 = some res) : CM l w yX13_among cX13_among 3 (some .int) { frames := 2, cells := 0, slots := 0, locals := 42 } 0 0 [rv w 103, .int x1] M (Pwi res) := by
  refine CM_of (by decide) (Nat.le_of_ble_eq_true rfl) (fun G hw hl h => ?_)
  subst hw
  exact kX13_among_e0 h zf

-- X13_within
theorem kX13_within_e0 {G : GX} {M : Mem} (h : OKm G cX13_within RX13 3 (some .boolean) { frames := 0, cells := 0, slots := 0, locals := 0 }) {x0 : Int32} {x1 : Int32} {x2 : Int32} {res : Int32} (zf : fX13_within x0 x1 x2 = some res) : GG G (Qm G (Pri res M) 0 0) 0 0 0 [(0, .int x0), (1, .int x1), (2, .int x2)] [] M := by
  unfold fX13_within at zf
  refine g_iload_n h 0 rfl dX13_within_0 ?_
  refine g_iload_n h 1 rfl dX13_within_1 ?_
  refine g_ic_lt h 14 (by decide) zf dX13_within_2 ?_ ?_ <;> clear zf <;> intro zf
  · refine g_iconst h 0 (v := 0) (by decide) dX13_within_14 ?_
    obtain rfl := Option.some.inj zf
    exact g_zret h (by decide) rfl ⟨rfl, rfl⟩ (Nat.le_refl _) (Nat.le_refl _) dX13_within_15
  · refine g_iload_n h 0 rfl dX13_within_5 ?_
    refine g_iload_n h 2 rfl dX13_within_6 ?_
    refine g_ic_gt h 14 (by decide) zf dX13_within_7 ?_ ?_ <;> clear zf <;> intro zf
    · refine g_iconst h 0 (v := 0) (by decide) dX13_within_14 ?_
      obtain rfl := Option.some.inj zf
      exact g_zret h (by decide) rfl ⟨rfl, rfl⟩ (Nat.le_refl _) (Nat.le_refl _) dX13_within_15
    · refine g_iconst h 1 (v := 1) (by decide) dX13_within_10 ?_
      refine g_goto h 15 (by decide) dX13_within_11 ?_
      obtain rfl := Option.some.inj zf
      exact g_zret h (by decide) rfl ⟨rfl, rfl⟩ (Nat.le_refl _) (Nat.le_refl _) dX13_within_15

theorem cmX13_within {l : Launch} {w : WX} {M : Mem} {x0 : Int32} {x1 : Int32} {x2 : Int32} {res : Int32} (zf : fX13_within x0 x1 x2 = some res) : CM l w yX13_within cX13_within 3 (some .boolean) { frames := 0, cells := 0, slots := 0, locals := 0 } 0 0 [.int x0, .int x1, .int x2] M (Pri res M) := by
  refine CM_of (by decide) (Nat.le_of_ble_eq_true rfl) (fun G hw hl h => ?_)
  subst hw
  exact kX13_within_e0 h zf

-- X13_right
theorem kX13_right_b16 {G : GX} (h : OKm G cX13_right RX13 3 (some .boolean) { frames := 0, cells := 0, slots := 0, locals := 0 }) {M : Mem} {res : (Int32 × Mem)} (zf : fX13_right_b16 M = some res) : GG G (Qm G (Pwi res) 0 0) 0 0 16 [(0, rv G.1 103)] [] M := by
  unfold fX13_right_b16 at zf
  refine g_aload_n h 0 rfl dX13_right_16 ?_
  refine gfX13_141 h (by decide : kd 103 = 11) dX13_right_17 ?_
  refine g_nmI zf ?_
  clear zf; intro vq2 zf
  refine g_if_ne h 27 (by decide) zf dX13_right_20 ?_ ?_ <;> clear zf <;> intro zf
  · refine g_iconst h 0 (v := 0) (by decide) dX13_right_27 ?_
    obtain rfl := Option.some.inj zf
    exact g_zret h (by decide) rfl ⟨rfl, rfl⟩ (Nat.le_refl _) (Nat.le_refl _) dX13_right_28
  · refine g_iconst h 1 (v := 1) (by decide) dX13_right_23 ?_
    refine g_goto h 28 (by decide) dX13_right_24 ?_
    obtain rfl := Option.some.inj zf
    exact g_zret h (by decide) rfl ⟨rfl, rfl⟩ (Nat.le_refl _) (Nat.le_refl _) dX13_right_28

theorem kX13_right_e0 {G : GX} (h : OKm G cX13_right RX13 3 (some .boolean) { frames := 0, cells := 0, slots := 0, locals := 0 }) {M : Mem} {x1 : Int32} {x2 : Int32} {res : (Int32 × Mem)} (zf : fX13_right M x1 x2 = some res) : GG G (Qm G (Pwi res) 0 0) 0 0 0 [(0, rv G.1 103), (1, .int x1), (2, .int x2)] [] M := by
  unfold fX13_right at zf
  refine g_aload_n h 0 rfl dX13_right_0 ?_
  refine gfX13_141 h (by decide : kd 103 = 11) dX13_right_1 ?_
  refine g_nmI zf ?_
  clear zf; intro vq1 zf
  refine g_if_ne h 16 (by decide) zf dX13_right_4 ?_ ?_ <;> clear zf <;> intro zf
  · refine g_sub h [0] rfl ?_
    exact kX13_right_b16 h zf
  · refine g_iload_n h 1 rfl dX13_right_7 ?_
    refine g_if_ne h 16 (by decide) zf dX13_right_8 ?_ ?_ <;> clear zf <;> intro zf
    · refine g_sub h [0] rfl ?_
      exact kX13_right_b16 h zf
    · refine g_aload_n h 0 rfl dX13_right_11 ?_
      refine g_iload_n h 2 rfl dX13_right_12 ?_
      refine pfX13_141 h (by decide : kd 103 = 11) dX13_right_13 ?_
      refine g_nmM zf ?_
      clear zf; intro Mq3 zf
      refine g_sub h [0] rfl ?_
      exact kX13_right_b16 h zf

theorem cmX13_right {l : Launch} {w : WX} {M : Mem} {x1 : Int32} {x2 : Int32} {res : (Int32 × Mem)} (zf : fX13_right M x1 x2 = some res) : CM l w yX13_right cX13_right 3 (some .boolean) { frames := 0, cells := 0, slots := 0, locals := 0 } 0 0 [rv w 103, .int x1, .int x2] M (Pwi res) := by
  refine CM_of (by decide) (Nat.le_of_ble_eq_true rfl) (fun G hw hl h => ?_)
  subst hw
  exact kX13_right_e0 h zf

-- X13_isWhat
theorem kX13_isWhat_e0 {G : GX} (h : OKm G cX13_isWhat RX13 3 (some .boolean) { frames := 1, cells := 0, slots := 0, locals := 22 }) {M : Mem} {x1 : Int32} {x2 : Int32} {res : (Int32 × Mem)} (zf : fX13_isWhat M x1 x2 = some res) : GG G (Qm G (Pwi res) 0 0) 0 0 0 [(0, rv G.1 103), (1, .int x1), (2, .int x2)] [] M := by
  unfold fX13_isWhat at zf
  refine g_aload_n h 0 rfl dX13_isWhat_0 ?_
  refine g_iload_n h 1 rfl dX13_isWhat_1 ?_
  refine g_iconst h 0 (v := 0) (by decide) dX13_isWhat_2 ?_
  refine g_iload_n h 2 rfl dX13_isWhat_3 ?_
  have zf1 := bd_some zf
  clear zf; obtain ⟨vq1, zq, zf⟩ := zf1
  refine g_callSri (As := [.int x1, .int 0, .int x2]) (rest := [rv G.1 103]) h ceX13_within mlX13_407 smX13_within rfl rfl ⟨by decide, by decide⟩ ⟨by decide, by decide⟩ rfl dX13_isWhat_4 rfl (Nat.le_of_ble_eq_true rfl) (cmX13_within zq) ?_
  refine g_iconst h 1 (v := 1) (by decide) dX13_isWhat_7 ?_
  have zf1 := b2_some zf
  clear zf; obtain ⟨vq2, Mq3, zq, zf⟩ := zf1
  refine g_callVwi (As := [.int vq1, .int 1]) (rest := []) h ceX13_right mlX13_326 imX13_right seX13_right (by rfl) (kd_lt (by rw [(by decide : kd 103 = 11)]; decide)) (ent_11 (by decide : kd 103 = 11)) rfl rfl ⟨by decide, by decide⟩ ⟨by decide, by decide⟩ rfl dX13_isWhat_8 rfl (Nat.le_of_ble_eq_true rfl) (cmX13_right zq) ?_
  have zf1 := pre_ck zf
  clear zf; obtain ⟨zz9, zf⟩ := zf1
  obtain rfl := Option.some.inj zf
  exact g_zret h zz9 rfl ⟨rfl, rfl⟩ (Nat.le_refl _) (Nat.le_refl _) dX13_isWhat_11

theorem cmX13_isWhat {l : Launch} {w : WX} {M : Mem} {x1 : Int32} {x2 : Int32} {res : (Int32 × Mem)} (zf : fX13_isWhat M x1 x2 = some res) : CM l w yX13_isWhat cX13_isWhat 3 (some .boolean) { frames := 1, cells := 0, slots := 0, locals := 22 } 0 0 [rv w 103, .int x1, .int x2] M (Pwi res) := by
  refine CM_of (by decide) (Nat.le_of_ble_eq_true rfl) (fun G hw hl h => ?_)
  subst hw
  exact kX13_isWhat_e0 h zf

-- X13_lays0
theorem kX13_lays0_l2 {G : GX} (h : OKm G cX13_lays0 RX13 4 none { frames := 0, cells := 0, slots := 0, locals := 0 }) : ∀ (n : Nat) (M : Mem) (x1 : Int32) (x2 : Int32) (x3 : Int32) (res : Mem), fX13_lays0_l2 n M x1 x2 x3 = some res → GG G (Qm G (Pwv res) 0 0) 0 0 2 [(0, rv G.1 103), (1, .int x1), (2, .int x2), (3, .int x3)] [] M := by
  intro n
  induction n with
  | zero => intro M x1 x2 x3 res zf; rw [fX13_lays0_l2] at zf; cases zf
  | succ n ih =>
    intro M x1 x2 x3 res zf
    rw [fX13_lays0_l2] at zf
    refine g_iload_n h 3 rfl dX13_lays0_2 ?_
    refine g_bipush h 31 (v := 31) (by decide) dX13_lays0_3 ?_
    refine g_ic_ge h 30 (by decide) zf dX13_lays0_5 ?_ ?_ <;> clear zf <;> intro zf
    · obtain rfl := Option.some.inj zf
      exact g_vret h rfl ⟨rfl, rfl⟩ (Nat.le_refl _) (Nat.le_refl _) dX13_lays0_30
    · refine g_aload_n h 0 rfl dX13_lays0_8 ?_
      refine gfX13_108 h (by decide : kd 103 = 11) dX13_lays0_9 ?_
      refine g_iload_n h 2 rfl dX13_lays0_12 ?_
      refine g_iload_n h 3 rfl dX13_lays0_13 ?_
      refine g_iadd h dX13_lays0_14 ?_
      refine g_aload_n h 0 rfl dX13_lays0_15 ?_
      refine gfX13_108 h (by decide : kd 103 = 11) dX13_lays0_16 ?_
      refine g_iload_n h 1 rfl dX13_lays0_19 ?_
      refine g_iload_n h 3 rfl dX13_lays0_20 ?_
      refine g_iadd h dX13_lays0_21 ?_
      refine g_iald h 186 (by decide : kd 133 = 20) (by decide) zf dX13_lays0_22 ?_
      clear zf; intro vq1 zf
      refine g_iast h 186 (by decide : kd 133 = 20) (by decide) zf dX13_lays0_23 ?_
      clear zf; intro Mq2 zf
      refine g_iinc h 3 3 rfl (v := x3 + 1) (congrArg (fun z => x3 + z) (by decide : Int32.ofInt (1) = (1 : Int32))) [(3, .int (x3 + 1)), (0, rv G.1 103), (1, .int x1), (2, .int x2)] (by decide) rfl dX13_lays0_24 ?_
      refine g_nmV zf ?_
      clear zf; intro vq3 zf
      refine g_goto h 2 (by decide) dX13_lays0_27 ?_
      refine g_sub h [1, 2, 3, 0] rfl ?_
      exact ih _ _ _ _ _ zf

theorem kX13_lays0_e0 {G : GX} (h : OKm G cX13_lays0 RX13 4 none { frames := 0, cells := 0, slots := 0, locals := 0 }) {M : Mem} {x1 : Int32} {x2 : Int32} {res : Mem} (zf : fX13_lays0 M x1 x2 = some res) : GG G (Qm G (Pwv res) 0 0) 0 0 0 [(0, rv G.1 103), (1, .int x1), (2, .int x2)] [] M := by
  unfold fX13_lays0 at zf
  refine g_iconst h 0 (v := 0) (by decide) dX13_lays0_0 ?_
  refine g_istore_n h rfl [(3, .int 0), (0, rv G.1 103), (1, .int x1), (2, .int x2)] (by decide) rfl dX13_lays0_1 ?_
  refine g_sub h [1, 2, 3, 0] rfl ?_
  exact kX13_lays0_l2 h _ _ _ _ _ _ zf

theorem cmX13_lays0 {l : Launch} {w : WX} {M : Mem} {x1 : Int32} {x2 : Int32} {res : Mem} (zf : fX13_lays0 M x1 x2 = some res) : CM l w yX13_lays0 cX13_lays0 4 none { frames := 0, cells := 0, slots := 0, locals := 0 } 0 0 [rv w 103, .int x1, .int x2] M (Pwv res) := by
  refine CM_of (by decide) (Nat.le_of_ble_eq_true rfl) (fun G hw hl h => ?_)
  subst hw
  exact kX13_lays0_e0 h zf

-- X13_harvestOf
theorem kX13_harvestOf_e0 {G : GX} (h : OKm G cX13_harvestOf RX13 2 (some .int) { frames := 0, cells := 0, slots := 0, locals := 0 }) {M : Mem} {x1 : Int32} {res : Int32} (zf : fX13_harvestOf M x1 = some res) : GG G (Qm G (Pri res M) 0 0) 0 0 0 [(0, rv G.1 103), (1, .int x1)] [] M := by
  unfold fX13_harvestOf at zf
  refine g_aload_n h 0 rfl dX13_harvestOf_0 ?_
  refine gfX13_336 h (by decide : kd 103 = 11) dX13_harvestOf_1 ?_
  refine g_nmI zf ?_
  clear zf; intro vq1 zf
  refine g_if_ne h 12 (by decide) zf dX13_harvestOf_4 ?_ ?_ <;> clear zf <;> intro zf
  · refine g_aload_n h 0 rfl dX13_harvestOf_12 ?_
    refine gfX13_32 h (by decide : kd 103 = 11) dX13_harvestOf_13 ?_
    refine g_iload_n h 1 rfl dX13_harvestOf_16 ?_
    refine g_aload_n h 0 rfl dX13_harvestOf_17 ?_
    refine gfX13_336 h (by decide : kd 103 = 11) dX13_harvestOf_18 ?_
    refine g_nmI zf ?_
    clear zf; intro vq2 zf
    have zf1 := pre_if zf
    clear zf; obtain ⟨zne, zf⟩ := zf1
    refine g_irem h zne dX13_harvestOf_21 ?_
    refine g_iald h 10 (by decide : kd 109 = 20) (by decide) zf dX13_harvestOf_22 ?_
    clear zf; intro vq3 zf
    obtain rfl := Option.some.inj zf
    exact g_iret h rfl ⟨rfl, rfl⟩ (Nat.le_refl _) (Nat.le_refl _) dX13_harvestOf_23
  · refine g_bipush h 20 (v := 20) (by decide) dX13_harvestOf_7 ?_
    refine g_goto h 23 (by decide) dX13_harvestOf_9 ?_
    obtain rfl := Option.some.inj zf
    exact g_iret h rfl ⟨rfl, rfl⟩ (Nat.le_refl _) (Nat.le_refl _) dX13_harvestOf_23

theorem cmX13_harvestOf {l : Launch} {w : WX} {M : Mem} {x1 : Int32} {res : Int32} (zf : fX13_harvestOf M x1 = some res) : CM l w yX13_harvestOf cX13_harvestOf 2 (some .int) { frames := 0, cells := 0, slots := 0, locals := 0 } 0 0 [rv w 103, .int x1] M (Pri res M) := by
  refine CM_of (by decide) (Nat.le_of_ble_eq_true rfl) (fun G hw hl h => ?_)
  subst hw
  exact kX13_harvestOf_e0 h zf

-- X13_kept
theorem kX13_kept_e0 {G : GX} {M : Mem} (h : OKm G cX13_kept RX13 3 (some .int) { frames := 0, cells := 0, slots := 0, locals := 0 }) {x0 : Int32} {x1 : Int32} {x2 : Int32} {res : Int32} (zf : fX13_kept x0 x1 x2 = some res) : GG G (Qm G (Pri res M) 0 0) 0 0 0 [(0, .int x0), (1, .int x1), (2, .int x2)] [] M := by
  unfold fX13_kept at zf
  refine g_iload_n h 0 rfl dX13_kept_0 ?_
  refine g_iload_n h 1 rfl dX13_kept_1 ?_
  refine g_ic_ge h 9 (by decide) zf dX13_kept_2 ?_ ?_ <;> clear zf <;> intro zf
  · refine g_iload_n h 0 rfl dX13_kept_9 ?_
    refine g_iload_n h 2 rfl dX13_kept_10 ?_
    refine g_ic_le h 18 (by decide) zf dX13_kept_11 ?_ ?_ <;> clear zf <;> intro zf
    · refine g_iload_n h 0 rfl dX13_kept_18 ?_
      obtain rfl := Option.some.inj zf
      exact g_iret h rfl ⟨rfl, rfl⟩ (Nat.le_refl _) (Nat.le_refl _) dX13_kept_19
    · refine g_iload_n h 2 rfl dX13_kept_14 ?_
      refine g_goto h 19 (by decide) dX13_kept_15 ?_
      obtain rfl := Option.some.inj zf
      exact g_iret h rfl ⟨rfl, rfl⟩ (Nat.le_refl _) (Nat.le_refl _) dX13_kept_19
  · refine g_iload_n h 1 rfl dX13_kept_5 ?_
    refine g_goto h 19 (by decide) dX13_kept_6 ?_
    obtain rfl := Option.some.inj zf
    exact g_iret h rfl ⟨rfl, rfl⟩ (Nat.le_refl _) (Nat.le_refl _) dX13_kept_19

theorem cmX13_kept {l : Launch} {w : WX} {M : Mem} {x0 : Int32} {x1 : Int32} {x2 : Int32} {res : Int32} (zf : fX13_kept x0 x1 x2 = some res) : CM l w yX13_kept cX13_kept 3 (some .int) { frames := 0, cells := 0, slots := 0, locals := 0 } 0 0 [.int x0, .int x1, .int x2] M (Pri res M) := by
  refine CM_of (by decide) (Nat.le_of_ble_eq_true rfl) (fun G hw hl h => ?_)
  subst hw
  exact kX13_kept_e0 h zf

-- X13_gathers
theorem kX13_gathers_e0 {G : GX} (h : OKm G cX13_gathers RX13 3 none { frames := 1, cells := 0, slots := 0, locals := 22 }) {M : Mem} {x1 : Int32} {x2 : Int32} {res : Mem} (zf : fX13_gathers M x1 x2 = some res) : GG G (Qm G (Pwv res) 0 0) 0 0 0 [(0, rv G.1 103), (1, .int x1), (2, .int x2)] [] M := by
  unfold fX13_gathers at zf
  refine g_aload_n h 0 rfl dX13_gathers_0 ?_
  refine gfX13_108 h (by decide : kd 103 = 11) dX13_gathers_1 ?_
  refine g_iload_n h 1 rfl dX13_gathers_4 ?_
  refine g_iconst h 0 (v := 0) (by decide) dX13_gathers_5 ?_
  refine g_iadd h dX13_gathers_6 ?_
  refine g_aload_n h 0 rfl dX13_gathers_7 ?_
  refine gfX13_108 h (by decide : kd 103 = 11) dX13_gathers_8 ?_
  refine g_iload_n h 1 rfl dX13_gathers_11 ?_
  refine g_iconst h 0 (v := 0) (by decide) dX13_gathers_12 ?_
  refine g_iadd h dX13_gathers_13 ?_
  refine g_iald h 186 (by decide : kd 133 = 20) (by decide) zf dX13_gathers_14 ?_
  clear zf; intro vq1 zf
  refine g_iload_n h 2 rfl dX13_gathers_15 ?_
  refine g_iadd h dX13_gathers_16 ?_
  refine g_iconst h 0 (v := 0) (by decide) dX13_gathers_17 ?_
  refine g_sipush h 999 (v := 999) (by decide) dX13_gathers_18 ?_
  have zf1 := bd_some zf
  clear zf; obtain ⟨vq2, zq, zf⟩ := zf1
  refine g_callSri (As := [.int (vq1 + x2), .int 0, .int 999]) (rest := [.int (x1 + 0), rv G.1 133]) h ceX13_kept mlX13_381 smX13_kept rfl rfl ⟨by decide, by decide⟩ ⟨by decide, by decide⟩ rfl dX13_gathers_21 rfl (Nat.le_of_ble_eq_true rfl) (cmX13_kept zq) ?_
  refine g_iast h 186 (by decide : kd 133 = 20) (by decide) zf dX13_gathers_24 ?_
  clear zf; intro Mq3 zf
  refine g_aload_n h 0 rfl dX13_gathers_25 ?_
  refine gfX13_108 h (by decide : kd 103 = 11) dX13_gathers_26 ?_
  refine g_iload_n h 1 rfl dX13_gathers_29 ?_
  refine g_iconst h 2 (v := 2) (by decide) dX13_gathers_30 ?_
  refine g_iadd h dX13_gathers_31 ?_
  refine g_aload_n h 0 rfl dX13_gathers_32 ?_
  refine gfX13_108 h (by decide : kd 103 = 11) dX13_gathers_33 ?_
  refine g_iload_n h 1 rfl dX13_gathers_36 ?_
  refine g_iconst h 2 (v := 2) (by decide) dX13_gathers_37 ?_
  refine g_iadd h dX13_gathers_38 ?_
  refine g_iald h 186 (by decide : kd 133 = 20) (by decide) zf dX13_gathers_39 ?_
  clear zf; intro vq4 zf
  refine g_aload_n h 0 rfl dX13_gathers_40 ?_
  refine gfX13_108 h (by decide : kd 103 = 11) dX13_gathers_41 ?_
  refine g_iload_n h 1 rfl dX13_gathers_44 ?_
  refine g_iconst h 2 (v := 2) (by decide) dX13_gathers_45 ?_
  refine g_iadd h dX13_gathers_46 ?_
  refine g_iald h 186 (by decide : kd 133 = 20) (by decide) zf dX13_gathers_47 ?_
  clear zf; intro vq5 zf
  refine g_bipush h 10 (v := 10) (by decide) dX13_gathers_48 ?_
  refine g_idiv h (by decide) dX13_gathers_50 ?_
  refine g_iadd h dX13_gathers_51 ?_
  refine g_iconst h 0 (v := 0) (by decide) dX13_gathers_52 ?_
  refine g_sipush h 999 (v := 999) (by decide) dX13_gathers_53 ?_
  have zf1 := bd_some zf
  clear zf; obtain ⟨vq6, zq, zf⟩ := zf1
  refine g_callSri (As := [.int (vq4 + (vq5 / 10)), .int 0, .int 999]) (rest := [.int (x1 + 2), rv G.1 133]) h ceX13_kept mlX13_381 smX13_kept rfl rfl ⟨by decide, by decide⟩ ⟨by decide, by decide⟩ rfl dX13_gathers_56 rfl (Nat.le_of_ble_eq_true rfl) (cmX13_kept zq) ?_
  refine g_iast h 186 (by decide : kd 133 = 20) (by decide) zf dX13_gathers_59 ?_
  clear zf; intro Mq7 zf
  obtain rfl := Option.some.inj zf
  exact g_vret h rfl ⟨rfl, rfl⟩ (Nat.le_refl _) (Nat.le_refl _) dX13_gathers_60

theorem cmX13_gathers {l : Launch} {w : WX} {M : Mem} {x1 : Int32} {x2 : Int32} {res : Mem} (zf : fX13_gathers M x1 x2 = some res) : CM l w yX13_gathers cX13_gathers 3 none { frames := 1, cells := 0, slots := 0, locals := 22 } 0 0 [rv w 103, .int x1, .int x2] M (Pwv res) := by
  refine CM_of (by decide) (Nat.le_of_ble_eq_true rfl) (fun G hw hl h => ?_)
  subst hw
  exact kX13_gathers_e0 h zf

-- X13_wayOf
theorem kX13_wayOf_e0 {G : GX} (h : OKm G cX13_wayOf RX13 3 (some .int) { frames := 0, cells := 0, slots := 0, locals := 0 }) {M : Mem} {x1 : Int32} {x2 : Int32} {res : Int32} (zf : fX13_wayOf M x1 x2 = some res) : GG G (Qm G (Pri res M) 0 0) 0 0 0 [(0, rv G.1 103), (1, .int x1), (2, .int x2)] [] M := by
  unfold fX13_wayOf at zf
  refine g_aload_n h 0 rfl dX13_wayOf_0 ?_
  refine gfX13_29 h (by decide : kd 103 = 11) dX13_wayOf_1 ?_
  refine g_iload_n h 2 rfl dX13_wayOf_4 ?_
  refine g_iald h 2 (by decide : kd 108 = 20) (by decide) zf dX13_wayOf_5 ?_
  clear zf; intro vq1 zf
  refine g_if_ne h 13 (by decide) zf dX13_wayOf_6 ?_ ?_ <;> clear zf <;> intro zf
  · refine g_aload_n h 0 rfl dX13_wayOf_13 ?_
    refine gfX13_108 h (by decide : kd 103 = 11) dX13_wayOf_14 ?_
    refine g_iload_n h 1 rfl dX13_wayOf_17 ?_
    refine g_bipush h 13 (v := 13) (by decide) dX13_wayOf_18 ?_
    refine g_iadd h dX13_wayOf_20 ?_
    refine g_bipush h 6 (v := 6) (by decide) dX13_wayOf_21 ?_
    refine g_iload_n h 2 rfl dX13_wayOf_23 ?_
    refine g_imul h dX13_wayOf_24 ?_
    refine g_iadd h dX13_wayOf_25 ?_
    refine g_aload_n h 0 rfl dX13_wayOf_26 ?_
    refine gfX13_108 h (by decide : kd 103 = 11) dX13_wayOf_27 ?_
    refine g_iload_n h 1 rfl dX13_wayOf_30 ?_
    refine g_bipush h 10 (v := 10) (by decide) dX13_wayOf_31 ?_
    refine g_iadd h dX13_wayOf_33 ?_
    refine g_iload_n h 2 rfl dX13_wayOf_34 ?_
    refine g_iadd h dX13_wayOf_35 ?_
    refine g_iald h 186 (by decide : kd 133 = 20) (by decide) zf dX13_wayOf_36 ?_
    clear zf; intro vq2 zf
    refine g_aload_n h 0 rfl dX13_wayOf_37 ?_
    refine gfX13_29 h (by decide : kd 103 = 11) dX13_wayOf_38 ?_
    refine g_iload_n h 2 rfl dX13_wayOf_41 ?_
    refine g_iald h 2 (by decide : kd 108 = 20) (by decide) zf dX13_wayOf_42 ?_
    clear zf; intro vq3 zf
    have zf1 := pre_if zf
    clear zf; obtain ⟨zne, zf⟩ := zf1
    refine g_irem h zne dX13_wayOf_43 ?_
    refine g_iadd h dX13_wayOf_44 ?_
    refine g_iald h 186 (by decide : kd 133 = 20) (by decide) zf dX13_wayOf_45 ?_
    clear zf; intro vq4 zf
    obtain rfl := Option.some.inj zf
    exact g_iret h rfl ⟨rfl, rfl⟩ (Nat.le_refl _) (Nat.le_refl _) dX13_wayOf_46
  · refine g_iconst h (-1) (v := (-1)) (by decide) dX13_wayOf_9 ?_
    refine g_goto h 46 (by decide) dX13_wayOf_10 ?_
    obtain rfl := Option.some.inj zf
    exact g_iret h rfl ⟨rfl, rfl⟩ (Nat.le_refl _) (Nat.le_refl _) dX13_wayOf_46

theorem cmX13_wayOf {l : Launch} {w : WX} {M : Mem} {x1 : Int32} {x2 : Int32} {res : Int32} (zf : fX13_wayOf M x1 x2 = some res) : CM l w yX13_wayOf cX13_wayOf 3 (some .int) { frames := 0, cells := 0, slots := 0, locals := 0 } 0 0 [rv w 103, .int x1, .int x2] M (Pri res M) := by
  refine CM_of (by decide) (Nat.le_of_ble_eq_true rfl) (fun G hw hl h => ?_)
  subst hw
  exact kX13_wayOf_e0 h zf

-- X13_does
theorem kX13_does_e0 {G : GX} (h : OKm G cX13_does RX13 3 (some .boolean) { frames := 1, cells := 0, slots := 0, locals := 22 }) {M : Mem} {x1 : Int32} {x2 : Int32} {res : (Int32 × Mem)} (zf : fX13_does M x1 x2 = some res) : GG G (Qm G (Pwi res) 0 0) 0 0 0 [(0, rv G.1 103), (1, .int x1), (2, .int x2)] [] M := by
  unfold fX13_does at zf
  refine g_iload_n h 2 rfl dX13_does_0 ?_
  refine g_iconst h (-1) (v := (-1)) (by decide) dX13_does_1 ?_
  refine g_ic_ne h 7 (by decide) zf dX13_does_2 ?_ ?_ <;> clear zf <;> intro zf
  · refine g_aload_n h 0 rfl dX13_does_7 ?_
    refine gfX13_16 h (by decide : kd 103 = 11) dX13_does_8 ?_
    refine g_iload_n h 2 rfl dX13_does_11 ?_
    refine g_iald h 7 (by decide : kd 104 = 20) (by decide) zf dX13_does_12 ?_
    clear zf; intro vq1 zf
    refine g_aload_n h 0 rfl dX13_does_13 ?_
    refine gfX13_108 h (by decide : kd 103 = 11) dX13_does_14 ?_
    refine g_iload_n h 1 rfl dX13_does_17 ?_
    refine g_iconst h 0 (v := 0) (by decide) dX13_does_18 ?_
    refine g_iadd h dX13_does_19 ?_
    refine g_iald h 186 (by decide : kd 133 = 20) (by decide) zf dX13_does_20 ?_
    clear zf; intro vq2 zf
    refine g_ic_le h 39 (by decide) zf dX13_does_21 ?_ ?_ <;> clear zf <;> intro zf
    · refine g_aload_n h 0 rfl dX13_does_39 ?_
      refine gfX13_108 h (by decide : kd 103 = 11) dX13_does_40 ?_
      refine g_iload_n h 1 rfl dX13_does_43 ?_
      refine g_iconst h 0 (v := 0) (by decide) dX13_does_44 ?_
      refine g_iadd h dX13_does_45 ?_
      refine g_nmI zf ?_
      clear zf; intro vq3 zf
      refine g_dup2 h rfl rfl dX13_does_46 ?_
      refine g_iald h 186 (by decide : kd 133 = 20) (by decide) zf dX13_does_47 ?_
      clear zf; intro vq4 zf
      refine g_aload_n h 0 rfl dX13_does_48 ?_
      refine gfX13_16 h (by decide : kd 103 = 11) dX13_does_49 ?_
      refine g_iload_n h 2 rfl dX13_does_52 ?_
      refine g_iald h 7 (by decide : kd 104 = 20) (by decide) zf dX13_does_53 ?_
      clear zf; intro vq5 zf
      refine g_isub h dX13_does_54 ?_
      refine g_iast h 186 (by decide : kd 133 = 20) (by decide) zf dX13_does_55 ?_
      clear zf; intro Mq6 zf
      refine g_aload_n h 0 rfl dX13_does_56 ?_
      refine gfX13_108 h (by decide : kd 103 = 11) dX13_does_57 ?_
      refine g_iload_n h 1 rfl dX13_does_60 ?_
      refine g_iconst h 1 (v := 1) (by decide) dX13_does_61 ?_
      refine g_iadd h dX13_does_62 ?_
      refine g_aload_n h 0 rfl dX13_does_63 ?_
      refine gfX13_108 h (by decide : kd 103 = 11) dX13_does_64 ?_
      refine g_iload_n h 1 rfl dX13_does_67 ?_
      refine g_iconst h 1 (v := 1) (by decide) dX13_does_68 ?_
      refine g_iadd h dX13_does_69 ?_
      refine g_iald h 186 (by decide : kd 133 = 20) (by decide) zf dX13_does_70 ?_
      clear zf; intro vq7 zf
      refine g_aload_n h 0 rfl dX13_does_71 ?_
      refine gfX13_20 h (by decide : kd 103 = 11) dX13_does_72 ?_
      refine g_iload_n h 2 rfl dX13_does_75 ?_
      refine g_iald h 7 (by decide : kd 105 = 20) (by decide) zf dX13_does_76 ?_
      clear zf; intro vq8 zf
      refine g_iadd h dX13_does_77 ?_
      refine g_iconst h 0 (v := 0) (by decide) dX13_does_78 ?_
      refine g_bipush h 99 (v := 99) (by decide) dX13_does_79 ?_
      have zf1 := bd_some zf
      clear zf; obtain ⟨vq9, zq, zf⟩ := zf1
      refine g_callSri (As := [.int (vq7 + vq8), .int 0, .int 99]) (rest := [.int (x1 + 1), rv G.1 133]) h ceX13_kept mlX13_381 smX13_kept rfl rfl ⟨by decide, by decide⟩ ⟨by decide, by decide⟩ rfl dX13_does_81 rfl (Nat.le_of_ble_eq_true rfl) (cmX13_kept zq) ?_
      refine g_iast h 186 (by decide : kd 133 = 20) (by decide) zf dX13_does_84 ?_
      clear zf; intro Mq10 zf
      refine g_aload_n h 0 rfl dX13_does_85 ?_
      refine gfX13_108 h (by decide : kd 103 = 11) dX13_does_86 ?_
      refine g_iload_n h 1 rfl dX13_does_89 ?_
      refine g_iconst h 2 (v := 2) (by decide) dX13_does_90 ?_
      refine g_iadd h dX13_does_91 ?_
      refine g_aload_n h 0 rfl dX13_does_92 ?_
      refine gfX13_108 h (by decide : kd 103 = 11) dX13_does_93 ?_
      refine g_iload_n h 1 rfl dX13_does_96 ?_
      refine g_iconst h 2 (v := 2) (by decide) dX13_does_97 ?_
      refine g_iadd h dX13_does_98 ?_
      refine g_iald h 186 (by decide : kd 133 = 20) (by decide) zf dX13_does_99 ?_
      clear zf; intro vq11 zf
      refine g_aload_n h 0 rfl dX13_does_100 ?_
      refine gfX13_23 h (by decide : kd 103 = 11) dX13_does_101 ?_
      refine g_iload_n h 2 rfl dX13_does_104 ?_
      refine g_iald h 7 (by decide : kd 106 = 20) (by decide) zf dX13_does_105 ?_
      clear zf; intro vq12 zf
      refine g_iadd h dX13_does_106 ?_
      refine g_iconst h 0 (v := 0) (by decide) dX13_does_107 ?_
      refine g_sipush h 999 (v := 999) (by decide) dX13_does_108 ?_
      have zf1 := bd_some zf
      clear zf; obtain ⟨vq13, zq, zf⟩ := zf1
      refine g_callSri (As := [.int (vq11 + vq12), .int 0, .int 999]) (rest := [.int (x1 + 2), rv G.1 133]) h ceX13_kept mlX13_381 smX13_kept rfl rfl ⟨by decide, by decide⟩ ⟨by decide, by decide⟩ rfl dX13_does_111 rfl (Nat.le_of_ble_eq_true rfl) (cmX13_kept zq) ?_
      refine g_iast h 186 (by decide : kd 133 = 20) (by decide) zf dX13_does_114 ?_
      clear zf; intro Mq14 zf
      refine g_aload_n h 0 rfl dX13_does_115 ?_
      refine gfX13_108 h (by decide : kd 103 = 11) dX13_does_116 ?_
      refine g_iload_n h 1 rfl dX13_does_119 ?_
      refine g_bipush h 6 (v := 6) (by decide) dX13_does_120 ?_
      refine g_iadd h dX13_does_122 ?_
      refine g_aload_n h 0 rfl dX13_does_123 ?_
      refine gfX13_108 h (by decide : kd 103 = 11) dX13_does_124 ?_
      refine g_iload_n h 1 rfl dX13_does_127 ?_
      refine g_iconst h 4 (v := 4) (by decide) dX13_does_128 ?_
      refine g_iadd h dX13_does_129 ?_
      refine g_iald h 186 (by decide : kd 133 = 20) (by decide) zf dX13_does_130 ?_
      clear zf; intro vq15 zf
      refine g_iadd h dX13_does_131 ?_
      refine g_nmI zf ?_
      clear zf; intro vq16 zf
      refine g_dup2 h rfl rfl dX13_does_132 ?_
      refine g_iald h 186 (by decide : kd 133 = 20) (by decide) zf dX13_does_133 ?_
      clear zf; intro vq17 zf
      refine g_aload_n h 0 rfl dX13_does_134 ?_
      refine gfX13_26 h (by decide : kd 103 = 11) dX13_does_135 ?_
      refine g_iload_n h 2 rfl dX13_does_138 ?_
      refine g_iald h 7 (by decide : kd 107 = 20) (by decide) zf dX13_does_139 ?_
      clear zf; intro vq18 zf
      refine g_iadd h dX13_does_140 ?_
      refine g_iast h 186 (by decide : kd 133 = 20) (by decide) zf dX13_does_141 ?_
      clear zf; intro Mq19 zf
      refine g_iconst h 1 (v := 1) (by decide) dX13_does_142 ?_
      obtain rfl := Option.some.inj zf
      exact g_zret h (by decide) rfl ⟨rfl, rfl⟩ (Nat.le_refl _) (Nat.le_refl _) dX13_does_143
    · refine g_aload_n h 0 rfl dX13_does_24 ?_
      refine gfX13_108 h (by decide : kd 103 = 11) dX13_does_25 ?_
      refine g_iload_n h 1 rfl dX13_does_28 ?_
      refine g_bipush h 8 (v := 8) (by decide) dX13_does_29 ?_
      refine g_iadd h dX13_does_31 ?_
      refine g_nmI zf ?_
      clear zf; intro vq20 zf
      refine g_dup2 h rfl rfl dX13_does_32 ?_
      refine g_iald h 186 (by decide : kd 133 = 20) (by decide) zf dX13_does_33 ?_
      clear zf; intro vq21 zf
      refine g_iconst h 1 (v := 1) (by decide) dX13_does_34 ?_
      refine g_iadd h dX13_does_35 ?_
      refine g_iast h 186 (by decide : kd 133 = 20) (by decide) zf dX13_does_36 ?_
      clear zf; intro Mq22 zf
      refine g_iconst h 0 (v := 0) (by decide) dX13_does_37 ?_
      obtain rfl := Option.some.inj zf
      exact g_zret h (by decide) rfl ⟨rfl, rfl⟩ (Nat.le_refl _) (Nat.le_refl _) dX13_does_38
  · refine g_iconst h 0 (v := 0) (by decide) dX13_does_5 ?_
    obtain rfl := Option.some.inj zf
    exact g_zret h (by decide) rfl ⟨rfl, rfl⟩ (Nat.le_refl _) (Nat.le_refl _) dX13_does_6

theorem cmX13_does {l : Launch} {w : WX} {M : Mem} {x1 : Int32} {x2 : Int32} {res : (Int32 × Mem)} (zf : fX13_does M x1 x2 = some res) : CM l w yX13_does cX13_does 3 (some .boolean) { frames := 1, cells := 0, slots := 0, locals := 22 } 0 0 [rv w 103, .int x1, .int x2] M (Pwi res) := by
  refine CM_of (by decide) (Nat.le_of_ble_eq_true rfl) (fun G hw hl h => ?_)
  subst hw
  exact kX13_does_e0 h zf

-- X13_works
theorem kX13_works_e0 {G : GX} {M : Mem} (h : OKm G cX13_works RX13 3 (some .int) { frames := 0, cells := 0, slots := 0, locals := 0 }) {x0 : Int32} {x1 : Int32} {x2 : Int32} {res : Int32} (zf : fX13_works x0 x1 x2 = some res) : GG G (Qm G (Pri res M) 0 0) 0 0 0 [(0, .int x0), (1, .int x1), (2, .int x2)] [] M := by
  unfold fX13_works at zf
  refine g_iload_n h 0 rfl dX13_works_0 ?_
  by_cases zx0 : x0 = 4
  · rw [if_pos zx0] at zf
    refine g_tabIn h (off := 43) 44 (by rw [zx0]; decide) (by rw [zx0]; decide) (by rw [zx0]; decide) (by decide) dX13_works_1 ?_
    refine g_iload_n h 1 rfl dX13_works_44 ?_
    refine g_if_eq h 56 (by decide) zf dX13_works_45 ?_ ?_ <;> clear zf <;> intro zf
    · refine g_iconst h 0 (v := 0) (by decide) dX13_works_56 ?_
      obtain rfl := Option.some.inj zf
      exact g_iret h rfl ⟨rfl, rfl⟩ (Nat.le_refl _) (Nat.le_refl _) dX13_works_57
    · refine g_iload_n h 2 rfl dX13_works_48 ?_
      refine g_if_eq h 56 (by decide) zf dX13_works_49 ?_ ?_ <;> clear zf <;> intro zf
      · refine g_iconst h 0 (v := 0) (by decide) dX13_works_56 ?_
        obtain rfl := Option.some.inj zf
        exact g_iret h rfl ⟨rfl, rfl⟩ (Nat.le_refl _) (Nat.le_refl _) dX13_works_57
      · refine g_iconst h 1 (v := 1) (by decide) dX13_works_52 ?_
        refine g_goto h 57 (by decide) dX13_works_53 ?_
        obtain rfl := Option.some.inj zf
        exact g_iret h rfl ⟨rfl, rfl⟩ (Nat.le_refl _) (Nat.le_refl _) dX13_works_57
  rw [if_neg zx0] at zf
  have zy0 : x0.toInt ≠ 4 := fun q => zx0 (Int32.toInt_inj.mp (by rw [q]; rfl))
  by_cases zx1 : x0 = 5
  · rw [if_pos zx1] at zf
    refine g_tabIn h (off := 57) 58 (by rw [zx1]; decide) (by rw [zx1]; decide) (by rw [zx1]; decide) (by decide) dX13_works_1 ?_
    refine g_iload_n h 1 rfl dX13_works_58 ?_
    refine g_if_ne h 66 (by decide) zf dX13_works_59 ?_ ?_ <;> clear zf <;> intro zf
    · refine g_iconst h 1 (v := 1) (by decide) dX13_works_66 ?_
      refine g_goto h 71 (by decide) dX13_works_67 ?_
      obtain rfl := Option.some.inj zf
      exact g_iret h rfl ⟨rfl, rfl⟩ (Nat.le_refl _) (Nat.le_refl _) dX13_works_71
    · refine g_iload_n h 2 rfl dX13_works_62 ?_
      refine g_if_eq h 70 (by decide) zf dX13_works_63 ?_ ?_ <;> clear zf <;> intro zf
      · refine g_iconst h 0 (v := 0) (by decide) dX13_works_70 ?_
        obtain rfl := Option.some.inj zf
        exact g_iret h rfl ⟨rfl, rfl⟩ (Nat.le_refl _) (Nat.le_refl _) dX13_works_71
      · refine g_iconst h 1 (v := 1) (by decide) dX13_works_66 ?_
        refine g_goto h 71 (by decide) dX13_works_67 ?_
        obtain rfl := Option.some.inj zf
        exact g_iret h rfl ⟨rfl, rfl⟩ (Nat.le_refl _) (Nat.le_refl _) dX13_works_71
  rw [if_neg zx1] at zf
  have zy1 : x0.toInt ≠ 5 := fun q => zx1 (Int32.toInt_inj.mp (by rw [q]; rfl))
  by_cases zx2 : x0 = 6
  · rw [if_pos zx2] at zf
    refine g_tabIn h (off := 71) 72 (by rw [zx2]; decide) (by rw [zx2]; decide) (by rw [zx2]; decide) (by decide) dX13_works_1 ?_
    refine g_iload_n h 1 rfl dX13_works_72 ?_
    refine g_iload_n h 2 rfl dX13_works_73 ?_
    refine g_ic_ge h 81 (by decide) zf dX13_works_74 ?_ ?_ <;> clear zf <;> intro zf
    · refine g_iconst h 0 (v := 0) (by decide) dX13_works_81 ?_
      obtain rfl := Option.some.inj zf
      exact g_iret h rfl ⟨rfl, rfl⟩ (Nat.le_refl _) (Nat.le_refl _) dX13_works_82
    · refine g_iconst h 1 (v := 1) (by decide) dX13_works_77 ?_
      refine g_goto h 82 (by decide) dX13_works_78 ?_
      obtain rfl := Option.some.inj zf
      exact g_iret h rfl ⟨rfl, rfl⟩ (Nat.le_refl _) (Nat.le_refl _) dX13_works_82
  rw [if_neg zx2] at zf
  have zy2 : x0.toInt ≠ 6 := fun q => zx2 (Int32.toInt_inj.mp (by rw [q]; rfl))
  by_cases zx3 : x0 = 7
  · rw [if_pos zx3] at zf
    refine g_tabIn h (off := 82) 83 (by rw [zx3]; decide) (by rw [zx3]; decide) (by rw [zx3]; decide) (by decide) dX13_works_1 ?_
    refine g_iload_n h 1 rfl dX13_works_83 ?_
    refine g_iload_n h 2 rfl dX13_works_84 ?_
    refine g_ic_ne h 92 (by decide) zf dX13_works_85 ?_ ?_ <;> clear zf <;> intro zf
    · refine g_iconst h 0 (v := 0) (by decide) dX13_works_92 ?_
      obtain rfl := Option.some.inj zf
      exact g_iret h rfl ⟨rfl, rfl⟩ (Nat.le_refl _) (Nat.le_refl _) dX13_works_93
    · refine g_iconst h 1 (v := 1) (by decide) dX13_works_88 ?_
      refine g_goto h 93 (by decide) dX13_works_89 ?_
      obtain rfl := Option.some.inj zf
      exact g_iret h rfl ⟨rfl, rfl⟩ (Nat.le_refl _) (Nat.le_refl _) dX13_works_93
  rw [if_neg zx3] at zf
  have zy3 : x0.toInt ≠ 7 := fun q => zx3 (Int32.toInt_inj.mp (by rw [q]; rfl))
  by_cases zx4 : x0 = 8
  · rw [if_pos zx4] at zf
    refine g_tabIn h (off := 93) 94 (by rw [zx4]; decide) (by rw [zx4]; decide) (by rw [zx4]; decide) (by decide) dX13_works_1 ?_
    refine g_iload_n h 1 rfl dX13_works_94 ?_
    refine g_iload_n h 2 rfl dX13_works_95 ?_
    refine g_iadd h dX13_works_96 ?_
    obtain rfl := Option.some.inj zf
    exact g_iret h rfl ⟨rfl, rfl⟩ (Nat.le_refl _) (Nat.le_refl _) dX13_works_97
  rw [if_neg zx4] at zf
  have zy4 : x0.toInt ≠ 8 := fun q => zx4 (Int32.toInt_inj.mp (by rw [q]; rfl))
  by_cases zx5 : x0 = 9
  · rw [if_pos zx5] at zf
    refine g_tabIn h (off := 97) 98 (by rw [zx5]; decide) (by rw [zx5]; decide) (by rw [zx5]; decide) (by decide) dX13_works_1 ?_
    refine g_iload_n h 1 rfl dX13_works_98 ?_
    refine g_iload_n h 2 rfl dX13_works_99 ?_
    refine g_isub h dX13_works_100 ?_
    obtain rfl := Option.some.inj zf
    exact g_iret h rfl ⟨rfl, rfl⟩ (Nat.le_refl _) (Nat.le_refl _) dX13_works_101
  rw [if_neg zx5] at zf
  have zy5 : x0.toInt ≠ 9 := fun q => zx5 (Int32.toInt_inj.mp (by rw [q]; rfl))
  by_cases zx6 : x0 = 10
  · rw [if_pos zx6] at zf
    refine g_tabIn h (off := 101) 102 (by rw [zx6]; decide) (by rw [zx6]; decide) (by rw [zx6]; decide) (by decide) dX13_works_1 ?_
    refine g_iload_n h 1 rfl dX13_works_102 ?_
    refine g_iload_n h 2 rfl dX13_works_103 ?_
    refine g_imul h dX13_works_104 ?_
    obtain rfl := Option.some.inj zf
    exact g_iret h rfl ⟨rfl, rfl⟩ (Nat.le_refl _) (Nat.le_refl _) dX13_works_105
  rw [if_neg zx6] at zf
  have zy6 : x0.toInt ≠ 10 := fun q => zx6 (Int32.toInt_inj.mp (by rw [q]; rfl))
  refine g_tabOut h 106 (by omega) (by decide) dX13_works_1 ?_
  refine g_iload_n h 2 rfl dX13_works_106 ?_
  refine g_if_ne h 114 (by decide) zf dX13_works_107 ?_ ?_ <;> clear zf <;> intro zf
  · refine g_iload_n h 1 rfl dX13_works_114 ?_
    refine g_iload_n h 2 rfl dX13_works_115 ?_
    have zf1 := pre_if zf
    clear zf; obtain ⟨zne, zf⟩ := zf1
    refine g_idiv h zne dX13_works_116 ?_
    obtain rfl := Option.some.inj zf
    exact g_iret h rfl ⟨rfl, rfl⟩ (Nat.le_refl _) (Nat.le_refl _) dX13_works_117
  · refine g_iconst h 0 (v := 0) (by decide) dX13_works_110 ?_
    refine g_goto h 117 (by decide) dX13_works_111 ?_
    obtain rfl := Option.some.inj zf
    exact g_iret h rfl ⟨rfl, rfl⟩ (Nat.le_refl _) (Nat.le_refl _) dX13_works_117

theorem cmX13_works {l : Launch} {w : WX} {M : Mem} {x0 : Int32} {x1 : Int32} {x2 : Int32} {res : Int32} (zf : fX13_works x0 x1 x2 = some res) : CM l w yX13_works cX13_works 3 (some .int) { frames := 0, cells := 0, slots := 0, locals := 0 } 0 0 [.int x0, .int x1, .int x2] M (Pri res M) := by
  refine CM_of (by decide) (Nat.le_of_ble_eq_true rfl) (fun G hw hl h => ?_)
  subst hw
  exact kX13_works_e0 h zf

-- X13_reckons
theorem kX13_reckons_b140 {G : GX} (h : OKm G cX13_reckons RX13 5 (some .int) { frames := 1, cells := 0, slots := 0, locals := 22 }) {a4 : Mem → Int32 → Int32 → Option (Int32 × Mem)} (zh4 : ∀ (M : Mem) (x2 : Int32) (x3 : Int32) (res : (Int32 × Mem)), a4 M x2 x3 = some res → GG G (Qm G (Pwi res) 0 0) 0 0 4 [(0, rv G.1 103), (2, .int x2), (3, .int x3)] [] M) {M : Mem} {x2 : Int32} {x3 : Int32} {res : (Int32 × Mem)} (zf : fX13_reckons_b140 a4 M x2 x3 = some res) : GG G (Qm G (Pwi res) 0 0) 0 0 140 [(0, rv G.1 103), (2, .int x2), (3, .int x3)] [] M := by
  unfold fX13_reckons_b140 at zf
  refine g_goto h 4 (by decide) dX13_reckons_140 ?_
  refine g_sub h [0, 1, 2] rfl ?_
  exact zh4 _ _ _ _ zf

theorem kX13_reckons_b67 {G : GX} (h : OKm G cX13_reckons RX13 5 (some .int) { frames := 1, cells := 0, slots := 0, locals := 22 }) {a4 : Mem → Int32 → Int32 → Option (Int32 × Mem)} (zh4 : ∀ (M : Mem) (x2 : Int32) (x3 : Int32) (res : (Int32 × Mem)), a4 M x2 x3 = some res → GG G (Qm G (Pwi res) 0 0) 0 0 4 [(0, rv G.1 103), (2, .int x2), (3, .int x3)] [] M) {M : Mem} {x2 : Int32} {x3 : Int32} {s0 : Int32} {s1 : Int32} {res : (Int32 × Mem)} (zf : fX13_reckons_b67 a4 M x2 x3 s0 s1 = some res) : GG G (Qm G (Pwi res) 0 0) 0 0 67 [(0, rv G.1 103), (2, .int x2), (3, .int x3)] [.int s0, .int s1, rv G.1 136] M := by
  unfold fX13_reckons_b67 at zf
  refine g_iast h 950 (by decide : kd 136 = 20) (by decide) zf dX13_reckons_67 ?_
  clear zf; intro Mq7 zf
  refine g_iinc h 3 2 rfl (v := x3 + 1) (congrArg (fun z => x3 + z) (by decide : Int32.ofInt (1) = (1 : Int32))) [(3, .int (x3 + 1)), (0, rv G.1 103), (2, .int x2)] (by decide) rfl dX13_reckons_68 ?_
  refine g_nmV zf ?_
  clear zf; intro vq8 zf
  refine g_iinc h 2 2 rfl (v := x2 + 1) (congrArg (fun z => x2 + z) (by decide : Int32.ofInt (1) = (1 : Int32))) [(2, .int (x2 + 1)), (3, .int vq8), (0, rv G.1 103)] (by decide) rfl dX13_reckons_71 ?_
  refine g_nmV zf ?_
  clear zf; intro vq9 zf
  refine g_goto h 140 (by decide) dX13_reckons_74 ?_
  refine g_sub h [2, 0, 1] rfl ?_
  exact kX13_reckons_b140 h zh4 zf

theorem kX13_reckons_b36 {G : GX} (h : OKm G cX13_reckons RX13 5 (some .int) { frames := 1, cells := 0, slots := 0, locals := 22 }) {a4 : Mem → Int32 → Int32 → Option (Int32 × Mem)} (zh4 : ∀ (M : Mem) (x2 : Int32) (x3 : Int32) (res : (Int32 × Mem)), a4 M x2 x3 = some res → GG G (Qm G (Pwi res) 0 0) 0 0 4 [(0, rv G.1 103), (2, .int x2), (3, .int x3)] [] M) {M : Mem} {x2 : Int32} {x3 : Int32} {x4 : Int32} {res : (Int32 × Mem)} (zf : fX13_reckons_b36 a4 M x2 x3 x4 = some res) : GG G (Qm G (Pwi res) 0 0) 0 0 36 [(0, rv G.1 103), (2, .int x2), (3, .int x3), (4, .int x4)] [] M := by
  unfold fX13_reckons_b36 at zf
  refine g_aload_n h 0 rfl dX13_reckons_36 ?_
  refine gfX13_117 h (by decide : kd 103 = 11) dX13_reckons_37 ?_
  refine g_iload_n h 1 rfl dX13_reckons_40 ?_
  refine g_iload h 3 rfl dX13_reckons_41 ?_
  refine g_iconst h 1 (v := 1) (by decide) dX13_reckons_43 ?_
  refine g_ic_ne h 56 (by decide) zf dX13_reckons_44 ?_ ?_ <;> clear zf <;> intro zf
  · refine g_aload_n h 0 rfl dX13_reckons_56 ?_
    refine gfX13_114 h (by decide : kd 103 = 11) dX13_reckons_57 ?_
    refine g_aload_n h 0 rfl dX13_reckons_60 ?_
    refine gfX13_50 h (by decide : kd 103 = 11) dX13_reckons_61 ?_
    refine g_iload_n h 2 rfl dX13_reckons_64 ?_
    refine g_iald h 1400 (by decide : kd 115 = 20) (by decide) zf dX13_reckons_65 ?_
    clear zf; intro vq5 zf
    refine g_iald h 8 (by decide : kd 135 = 20) (by decide) zf dX13_reckons_66 ?_
    clear zf; intro vq6 zf
    refine g_sub h [0, 1, 2] rfl ?_
    exact kX13_reckons_b67 h zh4 zf
  · refine g_aload_n h 0 rfl dX13_reckons_47 ?_
    refine gfX13_50 h (by decide : kd 103 = 11) dX13_reckons_48 ?_
    refine g_iload_n h 2 rfl dX13_reckons_51 ?_
    refine g_iald h 1400 (by decide : kd 115 = 20) (by decide) zf dX13_reckons_52 ?_
    clear zf; intro vq10 zf
    refine g_goto h 67 (by decide) dX13_reckons_53 ?_
    refine g_sub h [0, 1, 2] rfl ?_
    exact kX13_reckons_b67 h zh4 zf

theorem kX13_reckons_b106 {G : GX} (h : OKm G cX13_reckons RX13 5 (some .int) { frames := 1, cells := 0, slots := 0, locals := 22 }) {a4 : Mem → Int32 → Int32 → Option (Int32 × Mem)} (zh4 : ∀ (M : Mem) (x2 : Int32) (x3 : Int32) (res : (Int32 × Mem)), a4 M x2 x3 = some res → GG G (Qm G (Pwi res) 0 0) 0 0 4 [(0, rv G.1 103), (2, .int x2), (3, .int x3)] [] M) {M : Mem} {x2 : Int32} {x3 : Int32} {s0 : Int32} {s1 : Int32} {res : (Int32 × Mem)} (zf : fX13_reckons_b106 a4 M x2 x3 s0 s1 = some res) : GG G (Qm G (Pwi res) 0 0) 0 0 106 [(0, rv G.1 103), (2, .int x2), (3, .int x3)] [.int s0, .int s1, rv G.1 136] M := by
  unfold fX13_reckons_b106 at zf
  refine g_iast h 950 (by decide : kd 136 = 20) (by decide) zf dX13_reckons_106 ?_
  clear zf; intro Mq17 zf
  refine g_goto h 140 (by decide) dX13_reckons_107 ?_
  refine g_sub h [0, 1, 2] rfl ?_
  exact kX13_reckons_b140 h zh4 zf

theorem kX13_reckons_l4 {G : GX} (h : OKm G cX13_reckons RX13 5 (some .int) { frames := 1, cells := 0, slots := 0, locals := 22 }) : ∀ (n : Nat) (M : Mem) (x2 : Int32) (x3 : Int32) (res : (Int32 × Mem)), fX13_reckons_l4 n M x2 x3 = some res → GG G (Qm G (Pwi res) 0 0) 0 0 4 [(0, rv G.1 103), (2, .int x2), (3, .int x3)] [] M := by
  intro n
  induction n with
  | zero => intro M x2 x3 res zf; rw [fX13_reckons_l4] at zf; cases zf
  | succ n ih =>
    intro M x2 x3 res zf
    rw [fX13_reckons_l4] at zf
    refine g_aload_n h 0 rfl dX13_reckons_4 ?_
    refine gfX13_50 h (by decide : kd 103 = 11) dX13_reckons_5 ?_
    refine g_iload_n h 2 rfl dX13_reckons_8 ?_
    refine g_iald h 1400 (by decide : kd 115 = 20) (by decide) zf dX13_reckons_9 ?_
    clear zf; intro vq1 zf
    refine g_if_eq h 143 (by decide) zf dX13_reckons_10 ?_ ?_ <;> clear zf <;> intro zf
    · refine g_aload_n h 0 rfl dX13_reckons_143 ?_
      refine gfX13_117 h (by decide : kd 103 = 11) dX13_reckons_144 ?_
      refine g_iconst h 0 (v := 0) (by decide) dX13_reckons_147 ?_
      refine g_iald h 950 (by decide : kd 136 = 20) (by decide) zf dX13_reckons_148 ?_
      clear zf; intro vq2 zf
      obtain rfl := Option.some.inj zf
      exact g_iret h rfl ⟨rfl, rfl⟩ (Nat.le_refl _) (Nat.le_refl _) dX13_reckons_149
    · refine g_aload_n h 0 rfl dX13_reckons_13 ?_
      refine gfX13_50 h (by decide : kd 103 = 11) dX13_reckons_14 ?_
      refine g_iload_n h 2 rfl dX13_reckons_17 ?_
      refine g_iald h 1400 (by decide : kd 115 = 20) (by decide) zf dX13_reckons_18 ?_
      clear zf; intro vq3 zf
      refine g_istore h [(4, .int vq3), (0, rv G.1 103), (2, .int x2), (3, .int x3)] (by decide) rfl dX13_reckons_19 ?_
      refine g_iinc h 3 3 rfl (v := x3 + 1) (congrArg (fun z => x3 + z) (by decide : Int32.ofInt (1) = (1 : Int32))) [(3, .int (x3 + 1)), (4, .int vq3), (0, rv G.1 103), (2, .int x2)] (by decide) rfl dX13_reckons_21 ?_
      refine g_nmV zf ?_
      clear zf; intro vq4 zf
      refine g_iload h 1 rfl dX13_reckons_24 ?_
      refine g_iconst h 1 (v := 1) (by decide) dX13_reckons_26 ?_
      refine g_ic_eq h 36 (by decide) zf dX13_reckons_27 ?_ ?_ <;> clear zf <;> intro zf
      · refine g_sub h [2, 3, 0, 1] rfl ?_
        exact kX13_reckons_b36 h ih zf
      · refine g_iload h 1 rfl dX13_reckons_30 ?_
        refine g_iconst h 2 (v := 2) (by decide) dX13_reckons_32 ?_
        refine g_ic_ne h 77 (by decide) zf dX13_reckons_33 ?_ ?_ <;> clear zf <;> intro zf
        · refine g_iload h 1 rfl dX13_reckons_77 ?_
          refine g_iconst h 3 (v := 3) (by decide) dX13_reckons_79 ?_
          refine g_ic_ne h 110 (by decide) zf dX13_reckons_80 ?_ ?_ <;> clear zf <;> intro zf
          · refine g_iinc h 2 3 rfl (v := x2 + (-1)) (congrArg (fun z => x2 + z) (by decide : Int32.ofInt (-1) = (-1 : Int32))) [(2, .int (x2 + (-1))), (3, .int vq4), (4, .int vq3), (0, rv G.1 103)] (by decide) rfl dX13_reckons_110 ?_
            refine g_nmV zf ?_
            clear zf; intro vq11 zf
            refine g_aload_n h 3 rfl dX13_reckons_113 ?_
            refine gfX13_117 h (by decide : kd 103 = 11) dX13_reckons_114 ?_
            refine g_iload_n h 0 rfl dX13_reckons_117 ?_
            refine g_iconst h 1 (v := 1) (by decide) dX13_reckons_118 ?_
            refine g_isub h dX13_reckons_119 ?_
            refine g_iload h 2 rfl dX13_reckons_120 ?_
            refine g_aload_n h 3 rfl dX13_reckons_122 ?_
            refine gfX13_117 h (by decide : kd 103 = 11) dX13_reckons_123 ?_
            refine g_iload_n h 0 rfl dX13_reckons_126 ?_
            refine g_iconst h 1 (v := 1) (by decide) dX13_reckons_127 ?_
            refine g_isub h dX13_reckons_128 ?_
            refine g_iald h 950 (by decide : kd 136 = 20) (by decide) zf dX13_reckons_129 ?_
            clear zf; intro vq12 zf
            refine g_aload_n h 3 rfl dX13_reckons_130 ?_
            refine gfX13_117 h (by decide : kd 103 = 11) dX13_reckons_131 ?_
            refine g_iload_n h 0 rfl dX13_reckons_134 ?_
            refine g_iald h 950 (by decide : kd 136 = 20) (by decide) zf dX13_reckons_135 ?_
            clear zf; intro vq13 zf
            have zf1 := bd_some zf
            clear zf; obtain ⟨vq14, zq, zf⟩ := zf1
            refine g_callSri (As := [.int vq3, .int vq12, .int vq13]) (rest := [.int (vq11 - 1), rv G.1 136]) h ceX13_works mlX13_361 smX13_works rfl rfl ⟨by decide, by decide⟩ ⟨by decide, by decide⟩ rfl dX13_reckons_136 rfl (Nat.le_of_ble_eq_true rfl) (cmX13_works zq) ?_
            refine g_iast h 950 (by decide : kd 136 = 20) (by decide) zf dX13_reckons_139 ?_
            clear zf; intro Mq15 zf
            refine g_sub h [3, 0, 1] rfl ?_
            exact kX13_reckons_b140 h ih zf
          · refine g_aload_n h 2 rfl dX13_reckons_83 ?_
            refine gfX13_117 h (by decide : kd 103 = 11) dX13_reckons_84 ?_
            refine g_iload_n h 3 rfl dX13_reckons_87 ?_
            refine g_iconst h 1 (v := 1) (by decide) dX13_reckons_88 ?_
            refine g_isub h dX13_reckons_89 ?_
            refine g_aload_n h 2 rfl dX13_reckons_90 ?_
            refine gfX13_117 h (by decide : kd 103 = 11) dX13_reckons_91 ?_
            refine g_iload_n h 3 rfl dX13_reckons_94 ?_
            refine g_iconst h 1 (v := 1) (by decide) dX13_reckons_95 ?_
            refine g_isub h dX13_reckons_96 ?_
            refine g_iald h 950 (by decide : kd 136 = 20) (by decide) zf dX13_reckons_97 ?_
            clear zf; intro vq16 zf
            refine g_if_ne h 105 (by decide) zf dX13_reckons_98 ?_ ?_ <;> clear zf <;> intro zf
            · refine g_iconst h 0 (v := 0) (by decide) dX13_reckons_105 ?_
              refine g_sub h [2, 3, 0] rfl ?_
              exact kX13_reckons_b106 h ih zf
            · refine g_iconst h 1 (v := 1) (by decide) dX13_reckons_101 ?_
              refine g_goto h 106 (by decide) dX13_reckons_102 ?_
              refine g_sub h [2, 3, 0] rfl ?_
              exact kX13_reckons_b106 h ih zf
        · refine g_sub h [2, 3, 0, 1] rfl ?_
          exact kX13_reckons_b36 h ih zf

theorem kX13_reckons_e0 {G : GX} (h : OKm G cX13_reckons RX13 5 (some .int) { frames := 1, cells := 0, slots := 0, locals := 22 }) {M : Mem} {x1 : Int32} {res : (Int32 × Mem)} (zf : fX13_reckons M x1 = some res) : GG G (Qm G (Pwi res) 0 0) 0 0 0 [(0, rv G.1 103), (1, .int x1)] [] M := by
  unfold fX13_reckons at zf
  refine g_iconst h 0 (v := 0) (by decide) dX13_reckons_0 ?_
  refine g_istore_n h rfl [(2, .int 0), (0, rv G.1 103), (1, .int x1)] (by decide) rfl dX13_reckons_1 ?_
  refine g_iload_n h 2 rfl dX13_reckons_2 ?_
  refine g_istore_n h rfl [(3, .int x1), (2, .int 0), (0, rv G.1 103), (1, .int x1)] (by decide) rfl dX13_reckons_3 ?_
  refine g_sub h [2, 1, 0] rfl ?_
  exact kX13_reckons_l4 h _ _ _ _ _ zf

theorem cmX13_reckons {l : Launch} {w : WX} {M : Mem} {x1 : Int32} {res : (Int32 × Mem)} (zf : fX13_reckons M x1 = some res) : CM l w yX13_reckons cX13_reckons 5 (some .int) { frames := 1, cells := 0, slots := 0, locals := 22 } 0 0 [rv w 103, .int x1] M (Pwi res) := by
  refine CM_of (by decide) (Nat.le_of_ble_eq_true rfl) (fun G hw hl h => ?_)
  subst hw
  exact kX13_reckons_e0 h zf

-- X13_likeOf
theorem kX13_likeOf_b104 {G : GX} (h : OKm G cX13_likeOf RX13 6 (some .int) { frames := 2, cells := 0, slots := 0, locals := 46 }) {M : Mem} {s0 : Int32} {s1 : Int32} {res : (Int32 × Mem)} (zf : fX13_likeOf_b104 M s0 s1 = some res) : GG G (Qm G (Pwi res) 0 0) 0 0 104 [(0, rv G.1 103)] [.int s0, .int s1, rv G.1 135] M := by
  unfold fX13_likeOf_b104 at zf
  refine g_iast h 8 (by decide : kd 135 = 20) (by decide) zf dX13_likeOf_104 ?_
  clear zf; intro Mq10 zf
  refine g_aload_n h 0 rfl dX13_likeOf_105 ?_
  refine g_aload_n h 0 rfl dX13_likeOf_106 ?_
  refine gfX13_13 h (by decide : kd 103 = 11) dX13_likeOf_107 ?_
  refine g_nmI zf ?_
  clear zf; intro vq11 zf
  have zf1 := b2_some zf
  clear zf; obtain ⟨vq12, Mq13, zq, zf⟩ := zf1
  refine g_callVwi (As := [.int vq11]) (rest := []) h ceX13_reckons mlX13_365 imX13_reckons seX13_reckons (by rfl) (kd_lt (by rw [(by decide : kd 103 = 11)]; decide)) (ent_11 (by decide : kd 103 = 11)) rfl rfl ⟨by decide, by decide⟩ ⟨by decide, by decide⟩ rfl dX13_likeOf_110 rfl (Nat.le_of_ble_eq_true rfl) (cmX13_reckons zq) ?_
  obtain rfl := Option.some.inj zf
  exact g_iret h rfl ⟨rfl, rfl⟩ (Nat.le_refl _) (Nat.le_refl _) dX13_likeOf_113

theorem kX13_likeOf_b84 {G : GX} (h : OKm G cX13_likeOf RX13 6 (some .int) { frames := 2, cells := 0, slots := 0, locals := 46 }) {M : Mem} {x3 : Int32} {x5 : Int32} {s0 : Int32} {s1 : Int32} {res : (Int32 × Mem)} (zf : fX13_likeOf_b84 M x3 x5 s0 s1 = some res) : GG G (Qm G (Pwi res) 0 0) 0 0 84 [(0, rv G.1 103), (3, .int x3), (5, .int x5)] [.int s0, .int s1, rv G.1 135] M := by
  unfold fX13_likeOf_b84 at zf
  refine g_iast h 8 (by decide : kd 135 = 20) (by decide) zf dX13_likeOf_84 ?_
  clear zf; intro Mq9 zf
  refine g_aload_n h 0 rfl dX13_likeOf_85 ?_
  refine gfX13_114 h (by decide : kd 103 = 11) dX13_likeOf_86 ?_
  refine g_bipush h 7 (v := 7) (by decide) dX13_likeOf_89 ?_
  refine g_iload_n h 1 rfl dX13_likeOf_91 ?_
  refine g_if_ne h 102 (by decide) zf dX13_likeOf_92 ?_ ?_ <;> clear zf <;> intro zf
  · refine g_iload h 2 rfl dX13_likeOf_102 ?_
    refine g_sub h [0] rfl ?_
    exact kX13_likeOf_b104 h zf
  · refine g_iconst h 0 (v := 0) (by decide) dX13_likeOf_95 ?_
    refine g_iload h 2 rfl dX13_likeOf_96 ?_
    refine g_isub h dX13_likeOf_98 ?_
    refine g_goto h 104 (by decide) dX13_likeOf_99 ?_
    refine g_sub h [0] rfl ?_
    exact kX13_likeOf_b104 h zf

theorem kX13_likeOf_e0 {G : GX} (h : OKm G cX13_likeOf RX13 6 (some .int) { frames := 2, cells := 0, slots := 0, locals := 46 }) {M : Mem} {x1 : Int32} {x2 : Int32} {x3 : Int32} {x4 : Int32} {res : (Int32 × Mem)} (zf : fX13_likeOf M x1 x2 x3 x4 = some res) : GG G (Qm G (Pwi res) 0 0) 0 0 0 [(0, rv G.1 103), (1, .int x1), (2, .int x2), (3, .int x3), (4, .int x4)] [] M := by
  unfold fX13_likeOf at zf
  refine g_aload_n h 0 rfl dX13_likeOf_0 ?_
  refine gfX13_108 h (by decide : kd 103 = 11) dX13_likeOf_1 ?_
  refine g_iload_n h 1 rfl dX13_likeOf_4 ?_
  refine g_bipush h 25 (v := 25) (by decide) dX13_likeOf_5 ?_
  refine g_iadd h dX13_likeOf_7 ?_
  refine g_iload_n h 2 rfl dX13_likeOf_8 ?_
  refine g_iadd h dX13_likeOf_9 ?_
  refine g_iald h 186 (by decide : kd 133 = 20) (by decide) zf dX13_likeOf_10 ?_
  clear zf; intro vq1 zf
  refine g_istore h [(5, .int vq1), (0, rv G.1 103), (1, .int x1), (2, .int x2), (3, .int x3), (4, .int x4)] (by decide) rfl dX13_likeOf_11 ?_
  refine g_aload_n h 1 rfl dX13_likeOf_13 ?_
  refine gfX13_114 h (by decide : kd 103 = 11) dX13_likeOf_14 ?_
  refine g_iconst h 3 (v := 3) (by decide) dX13_likeOf_17 ?_
  refine g_aload_n h 1 rfl dX13_likeOf_18 ?_
  refine gfX13_108 h (by decide : kd 103 = 11) dX13_likeOf_19 ?_
  refine g_iload_n h 2 rfl dX13_likeOf_22 ?_
  refine g_iconst h 0 (v := 0) (by decide) dX13_likeOf_23 ?_
  refine g_iadd h dX13_likeOf_24 ?_
  refine g_iald h 186 (by decide : kd 133 = 20) (by decide) zf dX13_likeOf_25 ?_
  clear zf; intro vq2 zf
  refine g_iast h 8 (by decide : kd 135 = 20) (by decide) zf dX13_likeOf_26 ?_
  clear zf; intro Mq3 zf
  refine g_aload_n h 1 rfl dX13_likeOf_27 ?_
  refine gfX13_114 h (by decide : kd 103 = 11) dX13_likeOf_28 ?_
  refine g_iconst h 4 (v := 4) (by decide) dX13_likeOf_31 ?_
  refine g_aload_n h 1 rfl dX13_likeOf_32 ?_
  refine gfX13_108 h (by decide : kd 103 = 11) dX13_likeOf_33 ?_
  refine g_iload_n h 2 rfl dX13_likeOf_36 ?_
  refine g_iconst h 2 (v := 2) (by decide) dX13_likeOf_37 ?_
  refine g_iadd h dX13_likeOf_38 ?_
  refine g_iald h 186 (by decide : kd 133 = 20) (by decide) zf dX13_likeOf_39 ?_
  clear zf; intro vq4 zf
  refine g_iast h 8 (by decide : kd 135 = 20) (by decide) zf dX13_likeOf_40 ?_
  clear zf; intro Mq5 zf
  refine g_aload_n h 1 rfl dX13_likeOf_41 ?_
  refine gfX13_114 h (by decide : kd 103 = 11) dX13_likeOf_42 ?_
  refine g_iconst h 5 (v := 5) (by decide) dX13_likeOf_45 ?_
  refine g_aload_n h 1 rfl dX13_likeOf_46 ?_
  refine gfX13_108 h (by decide : kd 103 = 11) dX13_likeOf_47 ?_
  refine g_iload_n h 2 rfl dX13_likeOf_50 ?_
  refine g_bipush h 6 (v := 6) (by decide) dX13_likeOf_51 ?_
  refine g_iadd h dX13_likeOf_53 ?_
  refine g_iload_n h 4 rfl dX13_likeOf_54 ?_
  refine g_iadd h dX13_likeOf_55 ?_
  refine g_iald h 186 (by decide : kd 133 = 20) (by decide) zf dX13_likeOf_56 ?_
  clear zf; intro vq6 zf
  refine g_iload h 5 rfl dX13_likeOf_57 ?_
  refine g_iadd h dX13_likeOf_59 ?_
  refine g_iast h 8 (by decide : kd 135 = 20) (by decide) zf dX13_likeOf_60 ?_
  clear zf; intro Mq7 zf
  refine g_aload_n h 1 rfl dX13_likeOf_61 ?_
  refine gfX13_114 h (by decide : kd 103 = 11) dX13_likeOf_62 ?_
  refine g_bipush h 6 (v := 6) (by decide) dX13_likeOf_65 ?_
  refine g_aload_n h 1 rfl dX13_likeOf_67 ?_
  refine gfX13_108 h (by decide : kd 103 = 11) dX13_likeOf_68 ?_
  refine g_iload_n h 2 rfl dX13_likeOf_71 ?_
  refine g_iconst h 4 (v := 4) (by decide) dX13_likeOf_72 ?_
  refine g_iadd h dX13_likeOf_73 ?_
  refine g_iald h 186 (by decide : kd 133 = 20) (by decide) zf dX13_likeOf_74 ?_
  clear zf; intro vq8 zf
  refine g_iload_n h 4 rfl dX13_likeOf_75 ?_
  refine g_ic_ne h 83 (by decide) zf dX13_likeOf_76 ?_ ?_ <;> clear zf <;> intro zf
  · refine g_iconst h 0 (v := 0) (by decide) dX13_likeOf_83 ?_
    refine g_sub h [1, 4, 0] rfl ?_
    exact kX13_likeOf_b84 h zf
  · refine g_iconst h 1 (v := 1) (by decide) dX13_likeOf_79 ?_
    refine g_goto h 84 (by decide) dX13_likeOf_80 ?_
    refine g_sub h [1, 4, 0] rfl ?_
    exact kX13_likeOf_b84 h zf

theorem cmX13_likeOf {l : Launch} {w : WX} {M : Mem} {x1 : Int32} {x2 : Int32} {x3 : Int32} {x4 : Int32} {res : (Int32 × Mem)} (zf : fX13_likeOf M x1 x2 x3 x4 = some res) : CM l w yX13_likeOf cX13_likeOf 6 (some .int) { frames := 2, cells := 0, slots := 0, locals := 46 } 0 0 [rv w 103, .int x1, .int x2, .int x3, .int x4] M (Pwi res) := by
  refine CM_of (by decide) (Nat.le_of_ble_eq_true rfl) (fun G hw hl h => ?_)
  subst hw
  exact kX13_likeOf_e0 h zf

-- X13_follows
theorem kX13_follows_b62 {G : GX} (h : OKm G cX13_follows RX13 7 (some .int) { frames := 3, cells := 0, slots := 0, locals := 71 }) {M : Mem} {x5 : Int32} {s0 : Int32} {s1 : Int32} {s2 : Int32} {s3 : Int32} {res : (Int32 × Mem)} (zf : fX13_follows_b62 M x5 s0 s1 s2 s3 = some res) : GG G (Qm G (Pwi res) 0 0) 0 0 62 [(5, .int x5)] [.int s0, .int s1, .int s2, .int s3, rv G.1 103] M := by
  unfold fX13_follows_b62 at zf
  have zf1 := b2_some zf
  clear zf; obtain ⟨vq4, Mq5, zq, zf⟩ := zf1
  refine g_callVwi (As := [.int s3, .int s2, .int s1, .int s0]) (rest := []) h ceX13_likeOf mlX13_368 imX13_likeOf seX13_likeOf (by rfl) (kd_lt (by rw [(by decide : kd 103 = 11)]; decide)) (ent_11 (by decide : kd 103 = 11)) rfl rfl ⟨by decide, by decide⟩ ⟨by decide, by decide⟩ rfl dX13_follows_62 rfl (Nat.le_of_ble_eq_true rfl) (cmX13_likeOf zq) ?_
  refine g_istore h [(6, .int vq4), (5, .int x5)] (by decide) rfl dX13_follows_65 ?_
  refine g_iload h 0 rfl dX13_follows_67 ?_
  refine g_iload h 1 rfl dX13_follows_69 ?_
  refine g_ic_le h 78 (by decide) zf dX13_follows_71 ?_ ?_ <;> clear zf <;> intro zf
  · refine g_iconst h 0 (v := 0) (by decide) dX13_follows_78 ?_
    obtain rfl := Option.some.inj zf
    exact g_iret h rfl ⟨rfl, rfl⟩ (Nat.le_refl _) (Nat.le_refl _) dX13_follows_79
  · refine g_iconst h 1 (v := 1) (by decide) dX13_follows_74 ?_
    refine g_goto h 79 (by decide) dX13_follows_75 ?_
    obtain rfl := Option.some.inj zf
    exact g_iret h rfl ⟨rfl, rfl⟩ (Nat.le_refl _) (Nat.le_refl _) dX13_follows_79

theorem kX13_follows_b42 {G : GX} (h : OKm G cX13_follows RX13 7 (some .int) { frames := 3, cells := 0, slots := 0, locals := 71 }) {M : Mem} {x1 : Int32} {x2 : Int32} {x3 : Int32} {x4 : Int32} {s0 : Int32} {s1 : Int32} {s2 : Int32} {s3 : Int32} {res : (Int32 × Mem)} (zf : fX13_follows_b42 M x1 x2 x3 x4 s0 s1 s2 s3 = some res) : GG G (Qm G (Pwi res) 0 0) 0 0 42 [(0, rv G.1 103), (1, .int x1), (2, .int x2), (3, .int x3), (4, .int x4)] [.int s0, .int s1, .int s2, .int s3, rv G.1 103] M := by
  unfold fX13_follows_b42 at zf
  have zf1 := b2_some zf
  clear zf; obtain ⟨vq2, Mq3, zq, zf⟩ := zf1
  refine g_callVwi (As := [.int s3, .int s2, .int s1, .int s0]) (rest := []) h ceX13_likeOf mlX13_368 imX13_likeOf seX13_likeOf (by rfl) (kd_lt (by rw [(by decide : kd 103 = 11)]; decide)) (ent_11 (by decide : kd 103 = 11)) rfl rfl ⟨by decide, by decide⟩ ⟨by decide, by decide⟩ rfl dX13_follows_42 rfl (Nat.le_of_ble_eq_true rfl) (cmX13_likeOf zq) ?_
  refine g_istore h [(5, .int vq2), (0, rv G.1 103), (1, .int x1), (2, .int x2), (3, .int x3), (4, .int x4)] (by decide) rfl dX13_follows_45 ?_
  refine g_aload_n h 1 rfl dX13_follows_47 ?_
  refine g_iload_n h 2 rfl dX13_follows_48 ?_
  refine g_iload_n h 3 rfl dX13_follows_49 ?_
  refine g_iconst h 1 (v := 1) (by decide) dX13_follows_50 ?_
  refine g_iload_n h 4 rfl dX13_follows_51 ?_
  refine g_iconst h 1 (v := 1) (by decide) dX13_follows_52 ?_
  refine g_ic_ne h 61 (by decide) zf dX13_follows_53 ?_ ?_ <;> clear zf <;> intro zf
  · refine g_iconst h 0 (v := 0) (by decide) dX13_follows_61 ?_
    refine g_sub h [0] rfl ?_
    exact kX13_follows_b62 h zf
  · refine g_iload h 5 rfl dX13_follows_56 ?_
    refine g_goto h 62 (by decide) dX13_follows_58 ?_
    refine g_sub h [0] rfl ?_
    exact kX13_follows_b62 h zf

theorem kX13_follows_e0 {G : GX} (h : OKm G cX13_follows RX13 7 (some .int) { frames := 3, cells := 0, slots := 0, locals := 71 }) {M : Mem} {x1 : Int32} {x2 : Int32} {x3 : Int32} {x4 : Int32} {res : (Int32 × Mem)} (zf : fX13_follows M x1 x2 x3 x4 = some res) : GG G (Qm G (Pwi res) 0 0) 0 0 0 [(0, rv G.1 103), (1, .int x1), (2, .int x2), (3, .int x3), (4, .int x4)] [] M := by
  unfold fX13_follows at zf
  refine g_aload_n h 0 rfl dX13_follows_0 ?_
  refine gfX13_13 h (by decide : kd 103 = 11) dX13_follows_1 ?_
  refine g_nmI zf ?_
  clear zf; intro vq1 zf
  refine g_iconst h (-1) (v := (-1)) (by decide) dX13_follows_4 ?_
  refine g_ic_ne h 28 (by decide) zf dX13_follows_5 ?_ ?_ <;> clear zf <;> intro zf
  · refine g_aload_n h 0 rfl dX13_follows_28 ?_
    refine g_iload_n h 1 rfl dX13_follows_29 ?_
    refine g_iload_n h 2 rfl dX13_follows_30 ?_
    refine g_iconst h 0 (v := 0) (by decide) dX13_follows_31 ?_
    refine g_iload_n h 3 rfl dX13_follows_32 ?_
    refine g_if_ne h 41 (by decide) zf dX13_follows_33 ?_ ?_ <;> clear zf <;> intro zf
    · refine g_iconst h 0 (v := 0) (by decide) dX13_follows_41 ?_
      refine g_sub h [0, 1, 2, 3, 4] rfl ?_
      exact kX13_follows_b42 h zf
    · refine g_iload h 4 rfl dX13_follows_36 ?_
      refine g_goto h 42 (by decide) dX13_follows_38 ?_
      refine g_sub h [0, 1, 2, 3, 4] rfl ?_
      exact kX13_follows_b42 h zf
  · refine g_aload_n h 0 rfl dX13_follows_8 ?_
    refine gfX13_108 h (by decide : kd 103 = 11) dX13_follows_9 ?_
    refine g_iload_n h 1 rfl dX13_follows_12 ?_
    refine g_bipush h 25 (v := 25) (by decide) dX13_follows_13 ?_
    refine g_iadd h dX13_follows_15 ?_
    refine g_iload_n h 2 rfl dX13_follows_16 ?_
    refine g_iadd h dX13_follows_17 ?_
    refine g_iald h 186 (by decide : kd 133 = 20) (by decide) zf dX13_follows_18 ?_
    clear zf; intro vq6 zf
    refine g_if_le h 26 (by decide) zf dX13_follows_19 ?_ ?_ <;> clear zf <;> intro zf
    · refine g_iconst h 0 (v := 0) (by decide) dX13_follows_26 ?_
      obtain rfl := Option.some.inj zf
      exact g_iret h rfl ⟨rfl, rfl⟩ (Nat.le_refl _) (Nat.le_refl _) dX13_follows_27
    · refine g_iconst h 1 (v := 1) (by decide) dX13_follows_22 ?_
      refine g_goto h 27 (by decide) dX13_follows_23 ?_
      obtain rfl := Option.some.inj zf
      exact g_iret h rfl ⟨rfl, rfl⟩ (Nat.le_refl _) (Nat.le_refl _) dX13_follows_27

theorem cmX13_follows {l : Launch} {w : WX} {M : Mem} {x1 : Int32} {x2 : Int32} {x3 : Int32} {x4 : Int32} {res : (Int32 × Mem)} (zf : fX13_follows M x1 x2 x3 x4 = some res) : CM l w yX13_follows cX13_follows 7 (some .int) { frames := 3, cells := 0, slots := 0, locals := 71 } 0 0 [rv w 103, .int x1, .int x2, .int x3, .int x4] M (Pwi res) := by
  refine CM_of (by decide) (Nat.le_of_ble_eq_true rfl) (fun G hw hl h => ?_)
  subst hw
  exact kX13_follows_e0 h zf

-- X13_followers
theorem kX13_followers_b36 {G : GX} (h : OKm G cX13_followers RX13 5 (some .int) { frames := 4, cells := 0, slots := 0, locals := 97 }) {a5 : Mem → Int32 → Int32 → Int32 → Int32 → Option (Int32 × Mem)} (zh5 : ∀ (M : Mem) (x1 : Int32) (x2 : Int32) (x3 : Int32) (x4 : Int32) (res : (Int32 × Mem)), a5 M x1 x2 x3 x4 = some res → GG G (Qm G (Pwi res) 0 0) 0 0 5 [(0, rv G.1 103), (1, .int x1), (2, .int x2), (3, .int x3), (4, .int x4)] [] M) {M : Mem} {x1 : Int32} {x2 : Int32} {x4 : Int32} {s0 : Int32} {s1 : Int32} {res : (Int32 × Mem)} (zf : fX13_followers_b36 a5 M x1 x2 x4 s0 s1 = some res) : GG G (Qm G (Pwi res) 0 0) 0 0 36 [(0, rv G.1 103), (1, .int x1), (2, .int x2), (4, .int x4)] [.int s0, .int s1] M := by
  unfold fX13_followers_b36 at zf
  refine g_ior h dX13_followers_36 ?_
  refine g_nmI zf ?_
  clear zf; intro vq4 zf
  refine g_istore_n h rfl [(3, .int vq4), (0, rv G.1 103), (1, .int x1), (2, .int x2), (4, .int x4)] (by decide) rfl dX13_followers_37 ?_
  refine g_iinc h 4 4 rfl (v := x4 + 1) (congrArg (fun z => x4 + z) (by decide : Int32.ofInt (1) = (1 : Int32))) [(4, .int (x4 + 1)), (3, .int vq4), (0, rv G.1 103), (1, .int x1), (2, .int x2)] (by decide) rfl dX13_followers_38 ?_
  refine g_nmV zf ?_
  clear zf; intro vq5 zf
  refine g_goto h 5 (by decide) dX13_followers_41 ?_
  refine g_sub h [2, 3, 4, 1, 0] rfl ?_
  exact zh5 _ _ _ _ _ _ zf

theorem kX13_followers_l5 {G : GX} (h : OKm G cX13_followers RX13 5 (some .int) { frames := 4, cells := 0, slots := 0, locals := 97 }) : ∀ (n : Nat) (M : Mem) (x1 : Int32) (x2 : Int32) (x3 : Int32) (x4 : Int32) (res : (Int32 × Mem)), fX13_followers_l5 n M x1 x2 x3 x4 = some res → GG G (Qm G (Pwi res) 0 0) 0 0 5 [(0, rv G.1 103), (1, .int x1), (2, .int x2), (3, .int x3), (4, .int x4)] [] M := by
  intro n
  induction n with
  | zero => intro M x1 x2 x3 x4 res zf; rw [fX13_followers_l5] at zf; cases zf
  | succ n ih =>
    intro M x1 x2 x3 x4 res zf
    rw [fX13_followers_l5] at zf
    refine g_iload h 4 rfl dX13_followers_5 ?_
    refine g_aload_n h 0 rfl dX13_followers_7 ?_
    refine gfX13_339 h (by decide : kd 103 = 11) dX13_followers_8 ?_
    refine g_nmI zf ?_
    clear zf; intro vq1 zf
    refine g_ic_ge h 44 (by decide) zf dX13_followers_11 ?_ ?_ <;> clear zf <;> intro zf
    · refine g_iload_n h 3 rfl dX13_followers_44 ?_
      obtain rfl := Option.some.inj zf
      exact g_iret h rfl ⟨rfl, rfl⟩ (Nat.le_refl _) (Nat.le_refl _) dX13_followers_45
    · refine g_iload_n h 3 rfl dX13_followers_14 ?_
      refine g_aload_n h 0 rfl dX13_followers_15 ?_
      refine g_iload_n h 1 rfl dX13_followers_16 ?_
      refine g_iload h 4 rfl dX13_followers_17 ?_
      refine g_iconst h 0 (v := 0) (by decide) dX13_followers_19 ?_
      refine g_iconst h 0 (v := 0) (by decide) dX13_followers_20 ?_
      have zf1 := b2_some zf
      clear zf; obtain ⟨vq2, Mq3, zq, zf⟩ := zf1
      refine g_callVwi (As := [.int x1, .int x4, .int 0, .int 0]) (rest := [.int x3]) h ceX13_follows mlX13_372 imX13_follows seX13_follows (by rfl) (kd_lt (by rw [(by decide : kd 103 = 11)]; decide)) (ent_11 (by decide : kd 103 = 11)) rfl rfl ⟨by decide, by decide⟩ ⟨by decide, by decide⟩ rfl dX13_followers_21 rfl (Nat.le_of_ble_eq_true rfl) (cmX13_follows zq) ?_
      refine g_iload_n h 2 rfl dX13_followers_24 ?_
      refine g_ic_ne h 35 (by decide) zf dX13_followers_25 ?_ ?_ <;> clear zf <;> intro zf
      · refine g_iconst h 0 (v := 0) (by decide) dX13_followers_35 ?_
        refine g_sub h [0, 1, 2, 4] rfl ?_
        exact kX13_followers_b36 h ih zf
      · refine g_iconst h 1 (v := 1) (by decide) dX13_followers_28 ?_
        refine g_iload h 4 rfl dX13_followers_29 ?_
        refine g_ishl h dX13_followers_31 ?_
        refine g_goto h 36 (by decide) dX13_followers_32 ?_
        refine g_sub h [0, 1, 2, 4] rfl ?_
        exact kX13_followers_b36 h ih zf

theorem kX13_followers_e0 {G : GX} (h : OKm G cX13_followers RX13 5 (some .int) { frames := 4, cells := 0, slots := 0, locals := 97 }) {M : Mem} {x1 : Int32} {x2 : Int32} {res : (Int32 × Mem)} (zf : fX13_followers M x1 x2 = some res) : GG G (Qm G (Pwi res) 0 0) 0 0 0 [(0, rv G.1 103), (1, .int x1), (2, .int x2)] [] M := by
  unfold fX13_followers at zf
  refine g_iconst h 0 (v := 0) (by decide) dX13_followers_0 ?_
  refine g_istore_n h rfl [(3, .int 0), (0, rv G.1 103), (1, .int x1), (2, .int x2)] (by decide) rfl dX13_followers_1 ?_
  refine g_iconst h 0 (v := 0) (by decide) dX13_followers_2 ?_
  refine g_istore h [(4, .int 0), (3, .int 0), (0, rv G.1 103), (1, .int x1), (2, .int x2)] (by decide) rfl dX13_followers_3 ?_
  refine g_sub h [2, 3, 4, 1, 0] rfl ?_
  exact kX13_followers_l5 h _ _ _ _ _ _ _ zf

theorem cmX13_followers {l : Launch} {w : WX} {M : Mem} {x1 : Int32} {x2 : Int32} {res : (Int32 × Mem)} (zf : fX13_followers M x1 x2 = some res) : CM l w yX13_followers cX13_followers 5 (some .int) { frames := 4, cells := 0, slots := 0, locals := 97 } 0 0 [rv w 103, .int x1, .int x2] M (Pwi res) := by
  refine CM_of (by decide) (Nat.le_of_ble_eq_true rfl) (fun G hw hl h => ?_)
  subst hw
  exact kX13_followers_e0 h zf

-- X13_menOf
theorem kX13_menOf_b32 {G : GX} (h : OKm G cX13_menOf RX13 4 (some .int) { frames := 0, cells := 0, slots := 0, locals := 0 }) {a4 : Mem → Int32 → Int32 → Int32 → Option Int32} (zh4 : ∀ (M : Mem) (x1 : Int32) (x2 : Int32) (x3 : Int32) (res : Int32), a4 M x1 x2 x3 = some res → GG G (Qm G (Pri res M) 0 0) 0 0 4 [(0, rv G.1 103), (1, .int x1), (2, .int x2), (3, .int x3)] [] M) {M : Mem} {x1 : Int32} {x3 : Int32} {s0 : Int32} {s1 : Int32} {res : Int32} (zf : fX13_menOf_b32 a4 M x1 x3 s0 s1 = some res) : GG G (Qm G (Pri res M) 0 0) 0 0 32 [(0, rv G.1 103), (1, .int x1), (3, .int x3)] [.int s0, .int s1] M := by
  unfold fX13_menOf_b32 at zf
  refine g_iadd h dX13_menOf_32 ?_
  refine g_nmI zf ?_
  clear zf; intro vq2 zf
  refine g_istore_n h rfl [(2, .int vq2), (0, rv G.1 103), (1, .int x1), (3, .int x3)] (by decide) rfl dX13_menOf_33 ?_
  refine g_iinc h 3 3 rfl (v := x3 + 1) (congrArg (fun z => x3 + z) (by decide : Int32.ofInt (1) = (1 : Int32))) [(3, .int (x3 + 1)), (2, .int vq2), (0, rv G.1 103), (1, .int x1)] (by decide) rfl dX13_menOf_34 ?_
  refine g_nmV zf ?_
  clear zf; intro vq3 zf
  refine g_goto h 4 (by decide) dX13_menOf_37 ?_
  refine g_sub h [2, 3, 1, 0] rfl ?_
  exact zh4 _ _ _ _ _ zf

theorem kX13_menOf_l4 {G : GX} (h : OKm G cX13_menOf RX13 4 (some .int) { frames := 0, cells := 0, slots := 0, locals := 0 }) : ∀ (n : Nat) (M : Mem) (x1 : Int32) (x2 : Int32) (x3 : Int32) (res : Int32), fX13_menOf_l4 n M x1 x2 x3 = some res → GG G (Qm G (Pri res M) 0 0) 0 0 4 [(0, rv G.1 103), (1, .int x1), (2, .int x2), (3, .int x3)] [] M := by
  intro n
  induction n with
  | zero => intro M x1 x2 x3 res zf; rw [fX13_menOf_l4] at zf; cases zf
  | succ n ih =>
    intro M x1 x2 x3 res zf
    rw [fX13_menOf_l4] at zf
    refine g_iload_n h 3 rfl dX13_menOf_4 ?_
    refine g_aload_n h 0 rfl dX13_menOf_5 ?_
    refine gfX13_339 h (by decide : kd 103 = 11) dX13_menOf_6 ?_
    refine g_nmI zf ?_
    clear zf; intro vq1 zf
    refine g_ic_ge h 40 (by decide) zf dX13_menOf_9 ?_ ?_ <;> clear zf <;> intro zf
    · refine g_iload_n h 2 rfl dX13_menOf_40 ?_
      obtain rfl := Option.some.inj zf
      exact g_iret h rfl ⟨rfl, rfl⟩ (Nat.le_refl _) (Nat.le_refl _) dX13_menOf_41
    · refine g_iload_n h 2 rfl dX13_menOf_12 ?_
      refine g_iload_n h 1 rfl dX13_menOf_13 ?_
      refine g_iload_n h 3 rfl dX13_menOf_14 ?_
      refine g_ishr h dX13_menOf_15 ?_
      refine g_iconst h 1 (v := 1) (by decide) dX13_menOf_16 ?_
      refine g_iand h dX13_menOf_17 ?_
      refine g_iconst h 1 (v := 1) (by decide) dX13_menOf_18 ?_
      refine g_ic_ne h 31 (by decide) zf dX13_menOf_19 ?_ ?_ <;> clear zf <;> intro zf
      · refine g_iconst h 0 (v := 0) (by decide) dX13_menOf_31 ?_
        refine g_sub h [0, 1, 3] rfl ?_
        exact kX13_menOf_b32 h ih zf
      · refine g_aload_n h 0 rfl dX13_menOf_22 ?_
        refine gfX13_35 h (by decide : kd 103 = 11) dX13_menOf_23 ?_
        refine g_iload_n h 3 rfl dX13_menOf_26 ?_
        refine g_iald h 6 (by decide : kd 110 = 20) (by decide) zf dX13_menOf_27 ?_
        clear zf; intro vq4 zf
        refine g_goto h 32 (by decide) dX13_menOf_28 ?_
        refine g_sub h [0, 1, 3] rfl ?_
        exact kX13_menOf_b32 h ih zf

theorem kX13_menOf_e0 {G : GX} (h : OKm G cX13_menOf RX13 4 (some .int) { frames := 0, cells := 0, slots := 0, locals := 0 }) {M : Mem} {x1 : Int32} {res : Int32} (zf : fX13_menOf M x1 = some res) : GG G (Qm G (Pri res M) 0 0) 0 0 0 [(0, rv G.1 103), (1, .int x1)] [] M := by
  unfold fX13_menOf at zf
  refine g_iconst h 0 (v := 0) (by decide) dX13_menOf_0 ?_
  refine g_istore_n h rfl [(2, .int 0), (0, rv G.1 103), (1, .int x1)] (by decide) rfl dX13_menOf_1 ?_
  refine g_iconst h 0 (v := 0) (by decide) dX13_menOf_2 ?_
  refine g_istore_n h rfl [(3, .int 0), (2, .int 0), (0, rv G.1 103), (1, .int x1)] (by decide) rfl dX13_menOf_3 ?_
  refine g_sub h [2, 3, 1, 0] rfl ?_
  exact kX13_menOf_l4 h _ _ _ _ _ _ zf

theorem cmX13_menOf {l : Launch} {w : WX} {M : Mem} {x1 : Int32} {res : Int32} (zf : fX13_menOf M x1 = some res) : CM l w yX13_menOf cX13_menOf 4 (some .int) { frames := 0, cells := 0, slots := 0, locals := 0 } 0 0 [rv w 103, .int x1] M (Pri res M) := by
  refine CM_of (by decide) (Nat.le_of_ble_eq_true rfl) (fun G hw hl h => ?_)
  subst hw
  exact kX13_menOf_e0 h zf

-- X13_isStaying
theorem kX13_isStaying_e0 {G : GX} (h : OKm G cX13_isStaying RX13 4 (some .boolean) { frames := 5, cells := 0, slots := 0, locals := 121 }) {M : Mem} {x1 : Int32} {res : (Int32 × Mem)} (zf : fX13_isStaying M x1 = some res) : GG G (Qm G (Pwi res) 0 0) 0 0 0 [(0, rv G.1 103), (1, .int x1)] [] M := by
  unfold fX13_isStaying at zf
  refine g_aload_n h 0 rfl dX13_isStaying_0 ?_
  refine gfX13_9 h (by decide : kd 103 = 11) dX13_isStaying_1 ?_
  refine g_nmI zf ?_
  clear zf; intro vq1 zf
  refine g_iconst h (-1) (v := (-1)) (by decide) dX13_isStaying_4 ?_
  refine g_ic_ne h 10 (by decide) zf dX13_isStaying_5 ?_ ?_ <;> clear zf <;> intro zf
  · refine g_aload_n h 0 rfl dX13_isStaying_10 ?_
    refine gfX13_108 h (by decide : kd 103 = 11) dX13_isStaying_11 ?_
    refine g_iload_n h 1 rfl dX13_isStaying_14 ?_
    refine g_iconst h 4 (v := 4) (by decide) dX13_isStaying_15 ?_
    refine g_iadd h dX13_isStaying_16 ?_
    refine g_iald h 186 (by decide : kd 133 = 20) (by decide) zf dX13_isStaying_17 ?_
    clear zf; intro vq2 zf
    refine g_istore_n h rfl [(2, .int vq2), (0, rv G.1 103), (1, .int x1)] (by decide) rfl dX13_isStaying_18 ?_
    refine g_aload_n h 1 rfl dX13_isStaying_19 ?_
    refine g_aload_n h 1 rfl dX13_isStaying_20 ?_
    refine g_iload_n h 2 rfl dX13_isStaying_21 ?_
    refine g_iload_n h 0 rfl dX13_isStaying_22 ?_
    have zf1 := b2_some zf
    clear zf; obtain ⟨vq3, Mq4, zq, zf⟩ := zf1
    refine g_callVwi (As := [.int x1, .int vq2]) (rest := [rv G.1 103]) h ceX13_followers mlX13_375 imX13_followers seX13_followers (by rfl) (kd_lt (by rw [(by decide : kd 103 = 11)]; decide)) (ent_11 (by decide : kd 103 = 11)) rfl rfl ⟨by decide, by decide⟩ ⟨by decide, by decide⟩ rfl dX13_isStaying_23 rfl (Nat.le_of_ble_eq_true rfl) (cmX13_followers zq) ?_
    have zf1 := bd_some zf
    clear zf; obtain ⟨vq5, zq, zf⟩ := zf1
    refine g_callVri (As := [.int vq3]) (rest := []) h ceX13_menOf mlX13_378 imX13_menOf seX13_menOf (by rfl) (kd_lt (by rw [(by decide : kd 103 = 11)]; decide)) (ent_11 (by decide : kd 103 = 11)) rfl rfl ⟨by decide, by decide⟩ ⟨by decide, by decide⟩ rfl dX13_isStaying_26 rfl (Nat.le_of_ble_eq_true rfl) (cmX13_menOf zq) ?_
    refine g_istore_n h rfl [(3, .int vq5), (2, .int vq2), (0, rv G.1 103), (1, .int x1)] (by decide) rfl dX13_isStaying_29 ?_
    refine g_aload_n h 2 rfl dX13_isStaying_30 ?_
    refine gfX13_114 h (by decide : kd 103 = 11) dX13_isStaying_31 ?_
    refine g_iconst h 0 (v := 0) (by decide) dX13_isStaying_34 ?_
    refine g_aload_n h 2 rfl dX13_isStaying_35 ?_
    refine gfX13_108 h (by decide : kd 103 = 11) dX13_isStaying_36 ?_
    refine g_iload_n h 3 rfl dX13_isStaying_39 ?_
    refine g_iconst h 1 (v := 1) (by decide) dX13_isStaying_40 ?_
    refine g_iadd h dX13_isStaying_41 ?_
    refine g_iald h 186 (by decide : kd 133 = 20) (by decide) zf dX13_isStaying_42 ?_
    clear zf; intro vq6 zf
    refine g_iast h 8 (by decide : kd 135 = 20) (by decide) zf dX13_isStaying_43 ?_
    clear zf; intro Mq7 zf
    refine g_aload_n h 2 rfl dX13_isStaying_44 ?_
    refine gfX13_114 h (by decide : kd 103 = 11) dX13_isStaying_45 ?_
    refine g_iconst h 1 (v := 1) (by decide) dX13_isStaying_48 ?_
    refine g_aload_n h 2 rfl dX13_isStaying_49 ?_
    refine gfX13_108 h (by decide : kd 103 = 11) dX13_isStaying_50 ?_
    refine g_iload_n h 3 rfl dX13_isStaying_53 ?_
    refine g_iconst h 3 (v := 3) (by decide) dX13_isStaying_54 ?_
    refine g_iadd h dX13_isStaying_55 ?_
    refine g_iald h 186 (by decide : kd 133 = 20) (by decide) zf dX13_isStaying_56 ?_
    clear zf; intro vq8 zf
    refine g_iast h 8 (by decide : kd 135 = 20) (by decide) zf dX13_isStaying_57 ?_
    clear zf; intro Mq9 zf
    refine g_aload_n h 2 rfl dX13_isStaying_58 ?_
    refine gfX13_114 h (by decide : kd 103 = 11) dX13_isStaying_59 ?_
    refine g_iconst h 2 (v := 2) (by decide) dX13_isStaying_62 ?_
    refine g_iload_n h 0 rfl dX13_isStaying_63 ?_
    refine g_iast h 8 (by decide : kd 135 = 20) (by decide) zf dX13_isStaying_64 ?_
    clear zf; intro Mq10 zf
    refine g_aload_n h 2 rfl dX13_isStaying_65 ?_
    refine gfX13_114 h (by decide : kd 103 = 11) dX13_isStaying_66 ?_
    refine g_iconst h 3 (v := 3) (by decide) dX13_isStaying_69 ?_
    refine g_aload_n h 2 rfl dX13_isStaying_70 ?_
    refine gfX13_108 h (by decide : kd 103 = 11) dX13_isStaying_71 ?_
    refine g_iload_n h 3 rfl dX13_isStaying_74 ?_
    refine g_iconst h 0 (v := 0) (by decide) dX13_isStaying_75 ?_
    refine g_iadd h dX13_isStaying_76 ?_
    refine g_iald h 186 (by decide : kd 133 = 20) (by decide) zf dX13_isStaying_77 ?_
    clear zf; intro vq11 zf
    refine g_iast h 8 (by decide : kd 135 = 20) (by decide) zf dX13_isStaying_78 ?_
    clear zf; intro Mq12 zf
    refine g_aload_n h 2 rfl dX13_isStaying_79 ?_
    refine gfX13_114 h (by decide : kd 103 = 11) dX13_isStaying_80 ?_
    refine g_iconst h 4 (v := 4) (by decide) dX13_isStaying_83 ?_
    refine g_aload_n h 2 rfl dX13_isStaying_84 ?_
    refine gfX13_108 h (by decide : kd 103 = 11) dX13_isStaying_85 ?_
    refine g_iload_n h 3 rfl dX13_isStaying_88 ?_
    refine g_iconst h 2 (v := 2) (by decide) dX13_isStaying_89 ?_
    refine g_iadd h dX13_isStaying_90 ?_
    refine g_iald h 186 (by decide : kd 133 = 20) (by decide) zf dX13_isStaying_91 ?_
    clear zf; intro vq13 zf
    refine g_iast h 8 (by decide : kd 135 = 20) (by decide) zf dX13_isStaying_92 ?_
    clear zf; intro Mq14 zf
    refine g_aload_n h 2 rfl dX13_isStaying_93 ?_
    refine gfX13_114 h (by decide : kd 103 = 11) dX13_isStaying_94 ?_
    refine g_iconst h 5 (v := 5) (by decide) dX13_isStaying_97 ?_
    refine g_aload_n h 2 rfl dX13_isStaying_98 ?_
    refine gfX13_108 h (by decide : kd 103 = 11) dX13_isStaying_99 ?_
    refine g_iload_n h 3 rfl dX13_isStaying_102 ?_
    refine g_bipush h 6 (v := 6) (by decide) dX13_isStaying_103 ?_
    refine g_iadd h dX13_isStaying_105 ?_
    refine g_iload_n h 1 rfl dX13_isStaying_106 ?_
    refine g_iadd h dX13_isStaying_107 ?_
    refine g_iald h 186 (by decide : kd 133 = 20) (by decide) zf dX13_isStaying_108 ?_
    clear zf; intro vq15 zf
    refine g_iast h 8 (by decide : kd 135 = 20) (by decide) zf dX13_isStaying_109 ?_
    clear zf; intro Mq16 zf
    refine g_aload_n h 2 rfl dX13_isStaying_110 ?_
    refine g_aload_n h 2 rfl dX13_isStaying_111 ?_
    refine gfX13_9 h (by decide : kd 103 = 11) dX13_isStaying_112 ?_
    refine g_nmI zf ?_
    clear zf; intro vq17 zf
    have zf1 := b2_some zf
    clear zf; obtain ⟨vq18, Mq19, zq, zf⟩ := zf1
    refine g_callVwi (As := [.int vq17]) (rest := []) h ceX13_reckons mlX13_365 imX13_reckons seX13_reckons (by rfl) (kd_lt (by rw [(by decide : kd 103 = 11)]; decide)) (ent_11 (by decide : kd 103 = 11)) rfl rfl ⟨by decide, by decide⟩ ⟨by decide, by decide⟩ rfl dX13_isStaying_115 rfl (Nat.le_of_ble_eq_true rfl) (cmX13_reckons zq) ?_
    refine g_if_le h 125 (by decide) zf dX13_isStaying_118 ?_ ?_ <;> clear zf <;> intro zf
    · refine g_iconst h 0 (v := 0) (by decide) dX13_isStaying_125 ?_
      obtain rfl := Option.some.inj zf
      exact g_zret h (by decide) rfl ⟨rfl, rfl⟩ (Nat.le_refl _) (Nat.le_refl _) dX13_isStaying_126
    · refine g_iconst h 1 (v := 1) (by decide) dX13_isStaying_121 ?_
      refine g_goto h 126 (by decide) dX13_isStaying_122 ?_
      obtain rfl := Option.some.inj zf
      exact g_zret h (by decide) rfl ⟨rfl, rfl⟩ (Nat.le_refl _) (Nat.le_refl _) dX13_isStaying_126
  · refine g_iconst h 0 (v := 0) (by decide) dX13_isStaying_8 ?_
    obtain rfl := Option.some.inj zf
    exact g_zret h (by decide) rfl ⟨rfl, rfl⟩ (Nat.le_refl _) (Nat.le_refl _) dX13_isStaying_9

theorem cmX13_isStaying {l : Launch} {w : WX} {M : Mem} {x1 : Int32} {res : (Int32 × Mem)} (zf : fX13_isStaying M x1 = some res) : CM l w yX13_isStaying cX13_isStaying 4 (some .boolean) { frames := 5, cells := 0, slots := 0, locals := 121 } 0 0 [rv w 103, .int x1] M (Pwi res) := by
  refine CM_of (by decide) (Nat.le_of_ble_eq_true rfl) (fun G hw hl h => ?_)
  subst hw
  exact kX13_isStaying_e0 h zf

-- X13_ends
theorem kX13_ends_e0 {G : GX} (h : OKm G cX13_ends RX13 3 none { frames := 6, cells := 0, slots := 0, locals := 144 }) {M : Mem} {x1 : Int32} {x2 : Int32} {res : Mem} (zf : fX13_ends M x1 x2 = some res) : GG G (Qm G (Pwv res) 0 0) 0 0 0 [(0, rv G.1 103), (1, .int x1), (2, .int x2)] [] M := by
  unfold fX13_ends at zf
  refine g_aload_n h 0 rfl dX13_ends_0 ?_
  refine gfX13_108 h (by decide : kd 103 = 11) dX13_ends_1 ?_
  refine g_iload_n h 1 rfl dX13_ends_4 ?_
  refine g_iconst h 3 (v := 3) (by decide) dX13_ends_5 ?_
  refine g_iadd h dX13_ends_6 ?_
  refine g_nmI zf ?_
  clear zf; intro vq1 zf
  refine g_dup2 h rfl rfl dX13_ends_7 ?_
  refine g_iald h 186 (by decide : kd 133 = 20) (by decide) zf dX13_ends_8 ?_
  clear zf; intro vq2 zf
  refine g_iconst h 1 (v := 1) (by decide) dX13_ends_9 ?_
  refine g_iadd h dX13_ends_10 ?_
  refine g_iast h 186 (by decide : kd 133 = 20) (by decide) zf dX13_ends_11 ?_
  clear zf; intro Mq3 zf
  refine g_aload_n h 0 rfl dX13_ends_12 ?_
  refine gfX13_108 h (by decide : kd 103 = 11) dX13_ends_13 ?_
  refine g_iload_n h 1 rfl dX13_ends_16 ?_
  refine g_bipush h 10 (v := 10) (by decide) dX13_ends_17 ?_
  refine g_iadd h dX13_ends_19 ?_
  refine g_aload_n h 0 rfl dX13_ends_20 ?_
  refine gfX13_108 h (by decide : kd 103 = 11) dX13_ends_21 ?_
  refine g_iload_n h 1 rfl dX13_ends_24 ?_
  refine g_iconst h 4 (v := 4) (by decide) dX13_ends_25 ?_
  refine g_iadd h dX13_ends_26 ?_
  refine g_iald h 186 (by decide : kd 133 = 20) (by decide) zf dX13_ends_27 ?_
  clear zf; intro vq4 zf
  refine g_iadd h dX13_ends_28 ?_
  refine g_nmI zf ?_
  clear zf; intro vq5 zf
  refine g_dup2 h rfl rfl dX13_ends_29 ?_
  refine g_iald h 186 (by decide : kd 133 = 20) (by decide) zf dX13_ends_30 ?_
  clear zf; intro vq6 zf
  refine g_iconst h 1 (v := 1) (by decide) dX13_ends_31 ?_
  refine g_iadd h dX13_ends_32 ?_
  refine g_iast h 186 (by decide : kd 133 = 20) (by decide) zf dX13_ends_33 ?_
  clear zf; intro Mq7 zf
  refine g_aload_n h 0 rfl dX13_ends_34 ?_
  refine gfX13_108 h (by decide : kd 103 = 11) dX13_ends_35 ?_
  refine g_iload_n h 1 rfl dX13_ends_38 ?_
  refine g_iconst h 5 (v := 5) (by decide) dX13_ends_39 ?_
  refine g_iadd h dX13_ends_40 ?_
  refine g_nmI zf ?_
  clear zf; intro vq8 zf
  refine g_dup2 h rfl rfl dX13_ends_41 ?_
  refine g_iald h 186 (by decide : kd 133 = 20) (by decide) zf dX13_ends_42 ?_
  clear zf; intro vq9 zf
  refine g_iconst h 1 (v := 1) (by decide) dX13_ends_43 ?_
  refine g_iadd h dX13_ends_44 ?_
  refine g_iast h 186 (by decide : kd 133 = 20) (by decide) zf dX13_ends_45 ?_
  clear zf; intro Mq10 zf
  refine g_iload_n h 2 rfl dX13_ends_46 ?_
  refine g_if_eq h 70 (by decide) zf dX13_ends_47 ?_ ?_ <;> clear zf <;> intro zf
  · obtain rfl := Option.some.inj zf
    exact g_vret h rfl ⟨rfl, rfl⟩ (Nat.le_refl _) (Nat.le_refl _) dX13_ends_70
  · refine g_aload_n h 0 rfl dX13_ends_50 ?_
    refine gfX13_108 h (by decide : kd 103 = 11) dX13_ends_51 ?_
    refine g_iload_n h 1 rfl dX13_ends_54 ?_
    refine g_iconst h 5 (v := 5) (by decide) dX13_ends_55 ?_
    refine g_iadd h dX13_ends_56 ?_
    refine g_iald h 186 (by decide : kd 133 = 20) (by decide) zf dX13_ends_57 ?_
    clear zf; intro vq11 zf
    refine g_aload_n h 0 rfl dX13_ends_58 ?_
    refine gfX13_108 h (by decide : kd 103 = 11) dX13_ends_59 ?_
    refine g_iload_n h 1 rfl dX13_ends_62 ?_
    refine g_bipush h 12 (v := 12) (by decide) dX13_ends_63 ?_
    refine g_iadd h dX13_ends_65 ?_
    refine g_iald h 186 (by decide : kd 133 = 20) (by decide) zf dX13_ends_66 ?_
    clear zf; intro vq12 zf
    refine g_ic_ge h 71 (by decide) zf dX13_ends_67 ?_ ?_ <;> clear zf <;> intro zf
    · refine g_aload_n h 0 rfl dX13_ends_71 ?_
      refine g_iload_n h 1 rfl dX13_ends_72 ?_
      have zf1 := b2_some zf
      clear zf; obtain ⟨vq13, Mq14, zq, zf⟩ := zf1
      refine g_callVwi (As := [.int x1]) (rest := []) h ceX13_isStaying mlX13_384 imX13_isStaying seX13_isStaying (by rfl) (kd_lt (by rw [(by decide : kd 103 = 11)]; decide)) (ent_11 (by decide : kd 103 = 11)) rfl rfl ⟨by decide, by decide⟩ ⟨by decide, by decide⟩ rfl dX13_ends_73 rfl (Nat.le_of_ble_eq_true rfl) (cmX13_isStaying zq) ?_
      refine g_if_eq h 93 (by decide) zf dX13_ends_76 ?_ ?_ <;> clear zf <;> intro zf
      · refine g_aload_n h 0 rfl dX13_ends_93 ?_
        refine gfX13_108 h (by decide : kd 103 = 11) dX13_ends_94 ?_
        refine g_iload_n h 1 rfl dX13_ends_97 ?_
        refine g_iconst h 4 (v := 4) (by decide) dX13_ends_98 ?_
        refine g_iadd h dX13_ends_99 ?_
        refine g_iconst h 1 (v := 1) (by decide) dX13_ends_100 ?_
        refine g_aload_n h 0 rfl dX13_ends_101 ?_
        refine gfX13_108 h (by decide : kd 103 = 11) dX13_ends_102 ?_
        refine g_iload_n h 1 rfl dX13_ends_105 ?_
        refine g_iconst h 4 (v := 4) (by decide) dX13_ends_106 ?_
        refine g_iadd h dX13_ends_107 ?_
        refine g_iald h 186 (by decide : kd 133 = 20) (by decide) zf dX13_ends_108 ?_
        clear zf; intro vq15 zf
        refine g_isub h dX13_ends_109 ?_
        refine g_iast h 186 (by decide : kd 133 = 20) (by decide) zf dX13_ends_110 ?_
        clear zf; intro Mq16 zf
        refine g_aload_n h 0 rfl dX13_ends_111 ?_
        refine gfX13_108 h (by decide : kd 103 = 11) dX13_ends_112 ?_
        refine g_iload_n h 1 rfl dX13_ends_115 ?_
        refine g_iconst h 5 (v := 5) (by decide) dX13_ends_116 ?_
        refine g_iadd h dX13_ends_117 ?_
        refine g_iconst h 0 (v := 0) (by decide) dX13_ends_118 ?_
        refine g_iast h 186 (by decide : kd 133 = 20) (by decide) zf dX13_ends_119 ?_
        clear zf; intro Mq17 zf
        obtain rfl := Option.some.inj zf
        exact g_vret h rfl ⟨rfl, rfl⟩ (Nat.le_refl _) (Nat.le_refl _) dX13_ends_120
      · refine g_aload_n h 0 rfl dX13_ends_79 ?_
        refine gfX13_108 h (by decide : kd 103 = 11) dX13_ends_80 ?_
        refine g_iload_n h 1 rfl dX13_ends_83 ?_
        refine g_bipush h 9 (v := 9) (by decide) dX13_ends_84 ?_
        refine g_iadd h dX13_ends_86 ?_
        refine g_nmI zf ?_
        clear zf; intro vq18 zf
        refine g_dup2 h rfl rfl dX13_ends_87 ?_
        refine g_iald h 186 (by decide : kd 133 = 20) (by decide) zf dX13_ends_88 ?_
        clear zf; intro vq19 zf
        refine g_iconst h 1 (v := 1) (by decide) dX13_ends_89 ?_
        refine g_iadd h dX13_ends_90 ?_
        refine g_iast h 186 (by decide : kd 133 = 20) (by decide) zf dX13_ends_91 ?_
        clear zf; intro Mq20 zf
        obtain rfl := Option.some.inj zf
        exact g_vret h rfl ⟨rfl, rfl⟩ (Nat.le_refl _) (Nat.le_refl _) dX13_ends_92
    · obtain rfl := Option.some.inj zf
      exact g_vret h rfl ⟨rfl, rfl⟩ (Nat.le_refl _) (Nat.le_refl _) dX13_ends_70

theorem cmX13_ends {l : Launch} {w : WX} {M : Mem} {x1 : Int32} {x2 : Int32} {res : Mem} (zf : fX13_ends M x1 x2 = some res) : CM l w yX13_ends cX13_ends 3 none { frames := 6, cells := 0, slots := 0, locals := 144 } 0 0 [rv w 103, .int x1, .int x2] M (Pwv res) := by
  refine CM_of (by decide) (Nat.le_of_ble_eq_true rfl) (fun G hw hl h => ?_)
  subst hw
  exact kX13_ends_e0 h zf

-- X13_goesBy
theorem kX13_goesBy_b42 {G : GX} (h : OKm G cX13_goesBy RX13 3 none { frames := 7, cells := 0, slots := 0, locals := 166 }) {M : Mem} {x1 : Int32} {s0 : Int32} {s1 : Int32} {res : Mem} (zf : fX13_goesBy_b42 M x1 s0 s1 = some res) : GG G (Qm G (Pwv res) 0 0) 0 0 42 [(0, rv G.1 103), (1, .int x1)] [.int s0, .int s1, rv G.1 103] M := by
  unfold fX13_goesBy_b42 at zf
  have zf1 := b2_some zf
  clear zf; obtain ⟨vq4, Mq5, zq, zf⟩ := zf1
  refine g_callVwi (As := [.int s1, .int s0]) (rest := []) h ceX13_does mlX13_396 imX13_does seX13_does (by rfl) (kd_lt (by rw [(by decide : kd 103 = 11)]; decide)) (ent_11 (by decide : kd 103 = 11)) rfl rfl ⟨by decide, by decide⟩ ⟨by decide, by decide⟩ rfl dX13_goesBy_42 rfl (Nat.le_of_ble_eq_true rfl) (cmX13_does zq) ?_
  refine g_pop h rfl dX13_goesBy_45 ?_
  refine g_aload_n h 0 rfl dX13_goesBy_46 ?_
  refine g_iload_n h 1 rfl dX13_goesBy_47 ?_
  refine g_iconst h 1 (v := 1) (by decide) dX13_goesBy_48 ?_
  have zf1 := bd_some zf
  clear zf; obtain ⟨Mq6, zq, zf⟩ := zf1
  refine g_callVwv (As := [.int x1, .int 1]) (rest := []) h ceX13_ends mlX13_400 imX13_ends seX13_ends (by rfl) (kd_lt (by rw [(by decide : kd 103 = 11)]; decide)) (ent_11 (by decide : kd 103 = 11)) rfl rfl ⟨by decide, by decide⟩ ⟨by decide, by decide⟩ rfl dX13_goesBy_49 rfl (Nat.le_of_ble_eq_true rfl) (cmX13_ends zq) ?_
  obtain rfl := Option.some.inj zf
  exact g_vret h rfl ⟨rfl, rfl⟩ (Nat.le_refl _) (Nat.le_refl _) dX13_goesBy_52

theorem kX13_goesBy_e0 {G : GX} (h : OKm G cX13_goesBy RX13 3 none { frames := 7, cells := 0, slots := 0, locals := 166 }) {M : Mem} {x1 : Int32} {x2 : Int32} {res : Mem} (zf : fX13_goesBy M x1 x2 = some res) : GG G (Qm G (Pwv res) 0 0) 0 0 0 [(0, rv G.1 103), (1, .int x1), (2, .int x2)] [] M := by
  unfold fX13_goesBy at zf
  refine g_aload_n h 0 rfl dX13_goesBy_0 ?_
  refine g_iload_n h 1 rfl dX13_goesBy_1 ?_
  refine g_aload_n h 0 rfl dX13_goesBy_2 ?_
  refine g_aload_n h 0 rfl dX13_goesBy_3 ?_
  refine gfX13_108 h (by decide : kd 103 = 11) dX13_goesBy_4 ?_
  refine g_iload_n h 1 rfl dX13_goesBy_7 ?_
  refine g_iconst h 3 (v := 3) (by decide) dX13_goesBy_8 ?_
  refine g_iadd h dX13_goesBy_9 ?_
  refine g_iald h 186 (by decide : kd 133 = 20) (by decide) zf dX13_goesBy_10 ?_
  clear zf; intro vq1 zf
  have zf1 := bd_some zf
  clear zf; obtain ⟨vq2, zq, zf⟩ := zf1
  refine g_callVri (As := [.int vq1]) (rest := [.int x1, rv G.1 103]) h ceX13_harvestOf mlX13_387 imX13_harvestOf seX13_harvestOf (by rfl) (kd_lt (by rw [(by decide : kd 103 = 11)]; decide)) (ent_11 (by decide : kd 103 = 11)) rfl rfl ⟨by decide, by decide⟩ ⟨by decide, by decide⟩ rfl dX13_goesBy_11 rfl (Nat.le_of_ble_eq_true rfl) (cmX13_harvestOf zq) ?_
  have zf1 := bd_some zf
  clear zf; obtain ⟨Mq3, zq, zf⟩ := zf1
  refine g_callVwv (As := [.int x1, .int vq2]) (rest := []) h ceX13_gathers mlX13_390 imX13_gathers seX13_gathers (by rfl) (kd_lt (by rw [(by decide : kd 103 = 11)]; decide)) (ent_11 (by decide : kd 103 = 11)) rfl rfl ⟨by decide, by decide⟩ ⟨by decide, by decide⟩ rfl dX13_goesBy_14 rfl (Nat.le_of_ble_eq_true rfl) (cmX13_gathers zq) ?_
  refine g_aload_n h 0 rfl dX13_goesBy_17 ?_
  refine g_iload_n h 1 rfl dX13_goesBy_18 ?_
  refine g_iload_n h 2 rfl dX13_goesBy_19 ?_
  refine g_bipush h (-2) (v := (-2)) (by decide) dX13_goesBy_20 ?_
  refine g_ic_ne h 41 (by decide) zf dX13_goesBy_22 ?_ ?_ <;> clear zf <;> intro zf
  · refine g_iload_n h 2 rfl dX13_goesBy_41 ?_
    refine g_sub h [0, 1] rfl ?_
    exact kX13_goesBy_b42 h zf
  · refine g_aload_n h 0 rfl dX13_goesBy_25 ?_
    refine g_iload_n h 1 rfl dX13_goesBy_26 ?_
    refine g_aload_n h 0 rfl dX13_goesBy_27 ?_
    refine gfX13_108 h (by decide : kd 103 = 11) dX13_goesBy_28 ?_
    refine g_iload_n h 1 rfl dX13_goesBy_31 ?_
    refine g_iconst h 4 (v := 4) (by decide) dX13_goesBy_32 ?_
    refine g_iadd h dX13_goesBy_33 ?_
    refine g_iald h 186 (by decide : kd 133 = 20) (by decide) zf dX13_goesBy_34 ?_
    clear zf; intro vq7 zf
    have zf1 := bd_some zf
    clear zf; obtain ⟨vq8, zq, zf⟩ := zf1
    refine g_callVri (As := [.int x1, .int vq7]) (rest := [.int x1, rv G.1 103]) h ceX13_wayOf mlX13_393 imX13_wayOf seX13_wayOf (by rfl) (kd_lt (by rw [(by decide : kd 103 = 11)]; decide)) (ent_11 (by decide : kd 103 = 11)) rfl rfl ⟨by decide, by decide⟩ ⟨by decide, by decide⟩ rfl dX13_goesBy_35 rfl (Nat.le_of_ble_eq_true rfl) (cmX13_wayOf zq) ?_
    refine g_goto h 42 (by decide) dX13_goesBy_38 ?_
    refine g_sub h [0, 1] rfl ?_
    exact kX13_goesBy_b42 h zf

theorem cmX13_goesBy {l : Launch} {w : WX} {M : Mem} {x1 : Int32} {x2 : Int32} {res : Mem} (zf : fX13_goesBy M x1 x2 = some res) : CM l w yX13_goesBy cX13_goesBy 3 none { frames := 7, cells := 0, slots := 0, locals := 166 } 0 0 [rv w 103, .int x1, .int x2] M (Pwv res) := by
  refine CM_of (by decide) (Nat.le_of_ble_eq_true rfl) (fun G hw hl h => ?_)
  subst hw
  exact kX13_goesBy_e0 h zf

-- X13_isSeen
theorem kX13_isSeen_l55 {G : GX} (h : OKm G cX13_isSeen RX13 4 (some .boolean) { frames := 8, cells := 0, slots := 0, locals := 188 }) : ∀ (n : Nat) (M : Mem) (x3 : Int32) (res : (Int32 × Mem)), fX13_isSeen_l55 n M x3 = some res → GG G (Qm G (Pwi res) 0 0) 0 0 55 [(0, rv G.1 103), (3, .int x3)] [] M := by
  intro n
  induction n with
  | zero => intro M x3 res zf; rw [fX13_isSeen_l55] at zf; cases zf
  | succ n ih =>
    intro M x3 res zf
    rw [fX13_isSeen_l55] at zf
    refine g_iload_n h 1 rfl dX13_isSeen_55 ?_
    refine g_aload_n h 0 rfl dX13_isSeen_56 ?_
    refine gfX13_355 h (by decide : kd 103 = 11) dX13_isSeen_57 ?_
    refine g_nmI zf ?_
    clear zf; intro vq2 zf
    refine g_ic_ge h 99 (by decide) zf dX13_isSeen_60 ?_ ?_ <;> clear zf <;> intro zf
    · refine g_iconst h 1 (v := 1) (by decide) dX13_isSeen_99 ?_
      obtain rfl := Option.some.inj zf
      exact g_zret h (by decide) rfl ⟨rfl, rfl⟩ (Nat.le_refl _) (Nat.le_refl _) dX13_isSeen_100
    · refine g_aload_n h 0 rfl dX13_isSeen_63 ?_
      refine gfX13_126 h (by decide : kd 103 = 11) dX13_isSeen_64 ?_
      refine g_aload_n h 0 rfl dX13_isSeen_67 ?_
      refine gfX13_123 h (by decide : kd 103 = 11) dX13_isSeen_68 ?_
      refine g_iconst h 2 (v := 2) (by decide) dX13_isSeen_71 ?_
      refine g_iload_n h 1 rfl dX13_isSeen_72 ?_
      refine g_imul h dX13_isSeen_73 ?_
      refine g_iald h 16 (by decide : kd 138 = 20) (by decide) zf dX13_isSeen_74 ?_
      clear zf; intro vq3 zf
      refine g_iconst h 1 (v := 1) (by decide) dX13_isSeen_75 ?_
      refine g_isub h dX13_isSeen_76 ?_
      refine g_iald h 30 (by decide : kd 139 = 20) (by decide) zf dX13_isSeen_77 ?_
      clear zf; intro vq4 zf
      refine g_aload_n h 0 rfl dX13_isSeen_78 ?_
      refine gfX13_123 h (by decide : kd 103 = 11) dX13_isSeen_79 ?_
      refine g_iconst h 2 (v := 2) (by decide) dX13_isSeen_82 ?_
      refine g_iload_n h 1 rfl dX13_isSeen_83 ?_
      refine g_imul h dX13_isSeen_84 ?_
      refine g_iconst h 1 (v := 1) (by decide) dX13_isSeen_85 ?_
      refine g_iadd h dX13_isSeen_86 ?_
      refine g_iald h 16 (by decide : kd 138 = 20) (by decide) zf dX13_isSeen_87 ?_
      clear zf; intro vq5 zf
      refine g_ic_eq h 93 (by decide) zf dX13_isSeen_88 ?_ ?_ <;> clear zf <;> intro zf
      · refine g_iinc h 3 1 rfl (v := x3 + 1) (congrArg (fun z => x3 + z) (by decide : Int32.ofInt (1) = (1 : Int32))) [(3, .int (x3 + 1)), (0, rv G.1 103)] (by decide) rfl dX13_isSeen_93 ?_
        refine g_nmV zf ?_
        clear zf; intro vq6 zf
        refine g_goto h 55 (by decide) dX13_isSeen_96 ?_
        refine g_sub h [1, 0] rfl ?_
        exact ih _ _ _ zf
      · refine g_iconst h 0 (v := 0) (by decide) dX13_isSeen_91 ?_
        obtain rfl := Option.some.inj zf
        exact g_zret h (by decide) rfl ⟨rfl, rfl⟩ (Nat.le_refl _) (Nat.le_refl _) dX13_isSeen_92

theorem kX13_isSeen_b29 {G : GX} (h : OKm G cX13_isSeen RX13 4 (some .boolean) { frames := 8, cells := 0, slots := 0, locals := 188 }) {a9 : Mem → Int32 → Int32 → Int32 → Option (Int32 × Mem)} (zh9 : ∀ (M : Mem) (x1 : Int32) (x2 : Int32) (x3 : Int32) (res : (Int32 × Mem)), a9 M x1 x2 x3 = some res → GG G (Qm G (Pwi res) 0 0) 0 0 9 [(0, rv G.1 103), (1, .int x1), (2, .int x2), (3, .int x3)] [] M) {M : Mem} {x1 : Int32} {x2 : Int32} {x3 : Int32} {s0 : Int32} {s1 : Int32} {res : (Int32 × Mem)} (zf : fX13_isSeen_b29 a9 M x1 x2 x3 s0 s1 = some res) : GG G (Qm G (Pwi res) 0 0) 0 0 29 [(0, rv G.1 103), (1, .int x1), (2, .int x2), (3, .int x3)] [.int s0, .int s1, rv G.1 103] M := by
  unfold fX13_isSeen_b29 at zf
  have zf1 := bd_some zf
  clear zf; obtain ⟨Mq7, zq, zf⟩ := zf1
  refine g_callVwv (As := [.int s1, .int s0]) (rest := []) h ceX13_goesBy mlX13_404 imX13_goesBy seX13_goesBy (by rfl) (kd_lt (by rw [(by decide : kd 103 = 11)]; decide)) (ent_11 (by decide : kd 103 = 11)) rfl rfl ⟨by decide, by decide⟩ ⟨by decide, by decide⟩ rfl dX13_isSeen_29 rfl (Nat.le_of_ble_eq_true rfl) (cmX13_goesBy zq) ?_
  refine g_aload_n h 0 rfl dX13_isSeen_32 ?_
  refine gfX13_126 h (by decide : kd 103 = 11) dX13_isSeen_33 ?_
  refine g_iload_n h 3 rfl dX13_isSeen_36 ?_
  refine g_iconst h 1 (v := 1) (by decide) dX13_isSeen_37 ?_
  refine g_isub h dX13_isSeen_38 ?_
  refine g_aload_n h 0 rfl dX13_isSeen_39 ?_
  refine gfX13_108 h (by decide : kd 103 = 11) dX13_isSeen_40 ?_
  refine g_bipush h 31 (v := 31) (by decide) dX13_isSeen_43 ?_
  refine g_iald h 186 (by decide : kd 133 = 20) (by decide) zf dX13_isSeen_45 ?_
  clear zf; intro vq8 zf
  refine g_iast h 30 (by decide : kd 139 = 20) (by decide) zf dX13_isSeen_46 ?_
  clear zf; intro Mq9 zf
  refine g_iinc h 3 3 rfl (v := x3 + 1) (congrArg (fun z => x3 + z) (by decide : Int32.ofInt (1) = (1 : Int32))) [(3, .int (x3 + 1)), (0, rv G.1 103), (1, .int x1), (2, .int x2)] (by decide) rfl dX13_isSeen_47 ?_
  refine g_nmV zf ?_
  clear zf; intro vq10 zf
  refine g_goto h 9 (by decide) dX13_isSeen_50 ?_
  refine g_sub h [1, 2, 3, 0] rfl ?_
  exact zh9 _ _ _ _ _ zf

theorem kX13_isSeen_l9 {G : GX} (h : OKm G cX13_isSeen RX13 4 (some .boolean) { frames := 8, cells := 0, slots := 0, locals := 188 }) : ∀ (n : Nat) (M : Mem) (x1 : Int32) (x2 : Int32) (x3 : Int32) (res : (Int32 × Mem)), fX13_isSeen_l9 n M x1 x2 x3 = some res → GG G (Qm G (Pwi res) 0 0) 0 0 9 [(0, rv G.1 103), (1, .int x1), (2, .int x2), (3, .int x3)] [] M := by
  intro n
  induction n with
  | zero => intro M x1 x2 x3 res zf; rw [fX13_isSeen_l9] at zf; cases zf
  | succ n ih =>
    intro M x1 x2 x3 res zf
    rw [fX13_isSeen_l9] at zf
    refine g_iload_n h 3 rfl dX13_isSeen_9 ?_
    refine g_bipush h 30 (v := 30) (by decide) dX13_isSeen_10 ?_
    refine g_ic_gt h 53 (by decide) zf dX13_isSeen_12 ?_ ?_ <;> clear zf <;> intro zf
    · refine g_iconst h 0 (v := 0) (by decide) dX13_isSeen_53 ?_
      refine g_istore_n h rfl [(3, .int 0), (0, rv G.1 103), (1, .int x1), (2, .int x2)] (by decide) rfl dX13_isSeen_54 ?_
      refine g_sub h [1, 0] rfl ?_
      exact kX13_isSeen_l55 h _ _ _ _ zf
    · refine g_aload_n h 0 rfl dX13_isSeen_15 ?_
      refine g_bipush h 31 (v := 31) (by decide) dX13_isSeen_16 ?_
      refine g_iload_n h 3 rfl dX13_isSeen_18 ?_
      refine g_iload_n h 1 rfl dX13_isSeen_19 ?_
      refine g_ic_ne h 27 (by decide) zf dX13_isSeen_20 ?_ ?_ <;> clear zf <;> intro zf
      · refine g_bipush h (-2) (v := (-2)) (by decide) dX13_isSeen_27 ?_
        refine g_sub h [0, 1, 2, 3] rfl ?_
        exact kX13_isSeen_b29 h ih zf
      · refine g_iload_n h 2 rfl dX13_isSeen_23 ?_
        refine g_goto h 29 (by decide) dX13_isSeen_24 ?_
        refine g_sub h [0, 1, 2, 3] rfl ?_
        exact kX13_isSeen_b29 h ih zf

theorem kX13_isSeen_e0 {G : GX} (h : OKm G cX13_isSeen RX13 4 (some .boolean) { frames := 8, cells := 0, slots := 0, locals := 188 }) {M : Mem} {x1 : Int32} {x2 : Int32} {res : (Int32 × Mem)} (zf : fX13_isSeen M x1 x2 = some res) : GG G (Qm G (Pwi res) 0 0) 0 0 0 [(0, rv G.1 103), (1, .int x1), (2, .int x2)] [] M := by
  unfold fX13_isSeen at zf
  refine g_aload_n h 0 rfl dX13_isSeen_0 ?_
  refine g_iconst h 0 (v := 0) (by decide) dX13_isSeen_1 ?_
  refine g_bipush h 31 (v := 31) (by decide) dX13_isSeen_2 ?_
  have zf1 := bd_some zf
  clear zf; obtain ⟨Mq1, zq, zf⟩ := zf1
  refine g_callVwv (As := [.int 0, .int 31]) (rest := []) h ceX13_lays0 mlX13_432 imX13_lays0 seX13_lays0 (by rfl) (kd_lt (by rw [(by decide : kd 103 = 11)]; decide)) (ent_11 (by decide : kd 103 = 11)) rfl rfl ⟨by decide, by decide⟩ ⟨by decide, by decide⟩ rfl dX13_isSeen_4 rfl (Nat.le_of_ble_eq_true rfl) (cmX13_lays0 zq) ?_
  refine g_iconst h 1 (v := 1) (by decide) dX13_isSeen_7 ?_
  refine g_istore_n h rfl [(3, .int 1), (0, rv G.1 103), (1, .int x1), (2, .int x2)] (by decide) rfl dX13_isSeen_8 ?_
  refine g_sub h [1, 2, 3, 0] rfl ?_
  exact kX13_isSeen_l9 h _ _ _ _ _ _ zf

theorem cmX13_isSeen {l : Launch} {w : WX} {M : Mem} {x1 : Int32} {x2 : Int32} {res : (Int32 × Mem)} (zf : fX13_isSeen M x1 x2 = some res) : CM l w yX13_isSeen cX13_isSeen 4 (some .boolean) { frames := 8, cells := 0, slots := 0, locals := 188 } 0 0 [rv w 103, .int x1, .int x2] M (Pwi res) := by
  refine CM_of (by decide) (Nat.le_of_ble_eq_true rfl) (fun G hw hl h => ?_)
  subst hw
  exact kX13_isSeen_e0 h zf

-- X13_another
theorem kX13_another_b93 {G : GX} (h : OKm G cX13_another RX13 6 (some .int) { frames := 9, cells := 0, slots := 0, locals := 211 }) {a43 : Mem → Int32 → Int32 → Int32 → Int32 → Option (Int32 × Mem)} (zh43 : ∀ (M : Mem) (x1 : Int32) (x2 : Int32) (x3 : Int32) (x4 : Int32) (res : (Int32 × Mem)), a43 M x1 x2 x3 x4 = some res → GG G (Qm G (Pwi res) 0 0) 0 0 43 [(0, rv G.1 103), (1, .int x1), (2, .int x2), (3, .int x3), (4, .int x4)] [] M) {a53 : Mem → Int32 → Int32 → Int32 → Int32 → Int32 → Option (Int32 × Mem)} (zh53 : ∀ (M : Mem) (x1 : Int32) (x2 : Int32) (x3 : Int32) (x4 : Int32) (x5 : Int32) (res : (Int32 × Mem)), a53 M x1 x2 x3 x4 x5 = some res → GG G (Qm G (Pwi res) 0 0) 0 0 53 [(0, rv G.1 103), (1, .int x1), (2, .int x2), (3, .int x3), (4, .int x4), (5, .int x5)] [] M) {M : Mem} {x1 : Int32} {x2 : Int32} {x3 : Int32} {x4 : Int32} {x5 : Int32} {res : (Int32 × Mem)} (zf : fX13_another_b93 a43 a53 M x1 x2 x3 x4 x5 = some res) : GG G (Qm G (Pwi res) 0 0) 0 0 93 [(0, rv G.1 103), (1, .int x1), (2, .int x2), (3, .int x3), (4, .int x4), (5, .int x5)] [] M := by
  unfold fX13_another_b93 at zf
  refine g_iinc h 5 5 rfl (v := x5 + 1) (congrArg (fun z => x5 + z) (by decide : Int32.ofInt (1) = (1 : Int32))) [(5, .int (x5 + 1)), (0, rv G.1 103), (1, .int x1), (2, .int x2), (3, .int x3), (4, .int x4)] (by decide) rfl dX13_another_93 ?_
  refine g_nmV zf ?_
  clear zf; intro vq9 zf
  refine g_goto h 53 (by decide) dX13_another_96 ?_
  refine g_sub h [1, 2, 3, 4, 5, 0] rfl ?_
  exact zh53 _ _ _ _ _ _ _ zf

theorem kX13_another_l53 {G : GX} (h : OKm G cX13_another RX13 6 (some .int) { frames := 9, cells := 0, slots := 0, locals := 211 }) {a43 : Mem → Int32 → Int32 → Int32 → Int32 → Option (Int32 × Mem)} (zh43 : ∀ (M : Mem) (x1 : Int32) (x2 : Int32) (x3 : Int32) (x4 : Int32) (res : (Int32 × Mem)), a43 M x1 x2 x3 x4 = some res → GG G (Qm G (Pwi res) 0 0) 0 0 43 [(0, rv G.1 103), (1, .int x1), (2, .int x2), (3, .int x3), (4, .int x4)] [] M) : ∀ (n : Nat) (M : Mem) (x1 : Int32) (x2 : Int32) (x3 : Int32) (x4 : Int32) (x5 : Int32) (res : (Int32 × Mem)), fX13_another_l53 a43 n M x1 x2 x3 x4 x5 = some res → GG G (Qm G (Pwi res) 0 0) 0 0 53 [(0, rv G.1 103), (1, .int x1), (2, .int x2), (3, .int x3), (4, .int x4), (5, .int x5)] [] M := by
  intro n
  induction n with
  | zero => intro M x1 x2 x3 x4 x5 res zf; rw [fX13_another_l53] at zf; cases zf
  | succ n ih =>
    intro M x1 x2 x3 x4 x5 res zf
    rw [fX13_another_l53] at zf
    refine g_iload h 5 rfl dX13_another_53 ?_
    refine g_aload_n h 0 rfl dX13_another_55 ?_
    refine gfX13_333 h (by decide : kd 103 = 11) dX13_another_56 ?_
    refine g_nmI zf ?_
    clear zf; intro vq4 zf
    refine g_ic_ge h 99 (by decide) zf dX13_another_59 ?_ ?_ <;> clear zf <;> intro zf
    · refine g_iinc h 4 4 rfl (v := x4 + 1) (congrArg (fun z => x4 + z) (by decide : Int32.ofInt (1) = (1 : Int32))) [(4, .int (x4 + 1)), (0, rv G.1 103), (1, .int x1), (2, .int x2), (3, .int x3), (5, .int x5)] (by decide) rfl dX13_another_99 ?_
      refine g_nmV zf ?_
      clear zf; intro vq5 zf
      refine g_goto h 43 (by decide) dX13_another_102 ?_
      refine g_sub h [1, 2, 3, 4, 0] rfl ?_
      exact zh43 _ _ _ _ _ _ zf
    · refine g_aload_n h 0 rfl dX13_another_62 ?_
      refine g_iload h 4 rfl dX13_another_63 ?_
      refine g_iload h 5 rfl dX13_another_65 ?_
      have zf1 := b2_some zf
      clear zf; obtain ⟨vq6, Mq7, zq, zf⟩ := zf1
      refine g_callVwi (As := [.int x4, .int x5]) (rest := []) h ceX13_isSeen mlX13_474 imX13_isSeen seX13_isSeen (by rfl) (kd_lt (by rw [(by decide : kd 103 = 11)]; decide)) (ent_11 (by decide : kd 103 = 11)) rfl rfl ⟨by decide, by decide⟩ ⟨by decide, by decide⟩ rfl dX13_another_67 rfl (Nat.le_of_ble_eq_true rfl) (cmX13_isSeen zq) ?_
      refine g_if_ne h 76 (by decide) zf dX13_another_70 ?_ ?_ <;> clear zf <;> intro zf
      · refine g_iinc h 2 2 rfl (v := x2 + 1) (congrArg (fun z => x2 + z) (by decide : Int32.ofInt (1) = (1 : Int32))) [(2, .int (x2 + 1)), (0, rv G.1 103), (1, .int x1), (3, .int x3), (4, .int x4), (5, .int x5)] (by decide) rfl dX13_another_76 ?_
        refine g_nmV zf ?_
        clear zf; intro vq8 zf
        refine g_iload_n h 3 rfl dX13_another_79 ?_
        refine g_iconst h (-1) (v := (-1)) (by decide) dX13_another_80 ?_
        refine g_ic_ne h 93 (by decide) zf dX13_another_81 ?_ ?_ <;> clear zf <;> intro zf
        · refine g_sub h [1, 2, 0, 3, 4, 5] rfl ?_
          exact kX13_another_b93 h zh43 ih zf
        · refine g_bipush h 10 (v := 10) (by decide) dX13_another_84 ?_
          refine g_iload h 4 rfl dX13_another_86 ?_
          refine g_imul h dX13_another_88 ?_
          refine g_iload h 5 rfl dX13_another_89 ?_
          refine g_iadd h dX13_another_91 ?_
          refine g_nmI zf ?_
          clear zf; intro vq10 zf
          refine g_istore_n h rfl [(3, .int vq10), (2, .int vq8), (0, rv G.1 103), (1, .int x1), (4, .int x4), (5, .int x5)] (by decide) rfl dX13_another_92 ?_
          refine g_sub h [2, 3, 1, 0, 4, 5] rfl ?_
          exact kX13_another_b93 h zh43 ih zf
      · refine g_goto h 93 (by decide) dX13_another_73 ?_
        refine g_sub h [0, 1, 2, 3, 4, 5] rfl ?_
        exact kX13_another_b93 h zh43 ih zf

theorem kX13_another_l43 {G : GX} (h : OKm G cX13_another RX13 6 (some .int) { frames := 9, cells := 0, slots := 0, locals := 211 }) : ∀ (n : Nat) (M : Mem) (x1 : Int32) (x2 : Int32) (x3 : Int32) (x4 : Int32) (res : (Int32 × Mem)), fX13_another_l43 n M x1 x2 x3 x4 = some res → GG G (Qm G (Pwi res) 0 0) 0 0 43 [(0, rv G.1 103), (1, .int x1), (2, .int x2), (3, .int x3), (4, .int x4)] [] M := by
  intro n
  induction n with
  | zero => intro M x1 x2 x3 x4 res zf; rw [fX13_another_l43] at zf; cases zf
  | succ n ih =>
    intro M x1 x2 x3 x4 res zf
    rw [fX13_another_l43] at zf
    refine g_iload h 4 rfl dX13_another_43 ?_
    refine g_bipush h 12 (v := 12) (by decide) dX13_another_45 ?_
    refine g_ic_gt h 105 (by decide) zf dX13_another_47 ?_ ?_ <;> clear zf <;> intro zf
    · refine g_iload_n h 1 rfl dX13_another_105 ?_
      refine g_if_ne h 113 (by decide) zf dX13_another_106 ?_ ?_ <;> clear zf <;> intro zf
      · refine g_iload_n h 3 rfl dX13_another_113 ?_
        obtain rfl := Option.some.inj zf
        exact g_iret h rfl ⟨rfl, rfl⟩ (Nat.le_refl _) (Nat.le_refl _) dX13_another_114
      · refine g_iload_n h 2 rfl dX13_another_109 ?_
        refine g_goto h 114 (by decide) dX13_another_110 ?_
        obtain rfl := Option.some.inj zf
        exact g_iret h rfl ⟨rfl, rfl⟩ (Nat.le_refl _) (Nat.le_refl _) dX13_another_114
    · refine g_iconst h 0 (v := 0) (by decide) dX13_another_50 ?_
      refine g_istore h [(5, .int 0), (0, rv G.1 103), (1, .int x1), (2, .int x2), (3, .int x3), (4, .int x4)] (by decide) rfl dX13_another_51 ?_
      refine g_sub h [1, 2, 3, 4, 5, 0] rfl ?_
      exact kX13_another_l53 h ih _ _ _ _ _ _ _ _ zf

theorem kX13_another_e0 {G : GX} (h : OKm G cX13_another RX13 6 (some .int) { frames := 9, cells := 0, slots := 0, locals := 211 }) {M : Mem} {x1 : Int32} {res : (Int32 × Mem)} (zf : fX13_another M x1 = some res) : GG G (Qm G (Pwi res) 0 0) 0 0 0 [(0, rv G.1 103), (1, .int x1)] [] M := by
  unfold fX13_another at zf
  refine g_aload_n h 0 rfl dX13_another_0 ?_
  refine g_iconst h 0 (v := 0) (by decide) dX13_another_1 ?_
  refine pfX13_141 h (by decide : kd 103 = 11) dX13_another_2 ?_
  refine g_nmM zf ?_
  clear zf; intro Mq1 zf
  refine g_aload_n h 0 rfl dX13_another_5 ?_
  refine g_iload_n h 1 rfl dX13_another_6 ?_
  refine g_iconst h 2 (v := 2) (by decide) dX13_another_7 ?_
  have zf1 := b2_some zf
  clear zf; obtain ⟨vq2, Mq3, zq, zf⟩ := zf1
  refine g_callVwi (As := [.int x1, .int 2]) (rest := []) h ceX13_isWhat mlX13_414 imX13_isWhat seX13_isWhat (by rfl) (kd_lt (by rw [(by decide : kd 103 = 11)]; decide)) (ent_11 (by decide : kd 103 = 11)) rfl rfl ⟨by decide, by decide⟩ ⟨by decide, by decide⟩ rfl dX13_another_8 rfl (Nat.le_of_ble_eq_true rfl) (cmX13_isWhat zq) ?_
  refine g_if_ne h 16 (by decide) zf dX13_another_11 ?_ ?_ <;> clear zf <;> intro zf
  · refine g_iload_n h 1 rfl dX13_another_16 ?_
    refine g_iconst h 2 (v := 2) (by decide) dX13_another_17 ?_
    refine g_ic_ne h 36 (by decide) zf dX13_another_18 ?_ ?_ <;> clear zf <;> intro zf
    · refine g_iconst h 0 (v := 0) (by decide) dX13_another_36 ?_
      refine g_istore_n h rfl [(2, .int 0), (0, rv G.1 103), (1, .int x1)] (by decide) rfl dX13_another_37 ?_
      refine g_iconst h (-1) (v := (-1)) (by decide) dX13_another_38 ?_
      refine g_istore_n h rfl [(3, .int (-1)), (2, .int 0), (0, rv G.1 103), (1, .int x1)] (by decide) rfl dX13_another_39 ?_
      refine g_iconst h 1 (v := 1) (by decide) dX13_another_40 ?_
      refine g_istore h [(4, .int 1), (3, .int (-1)), (2, .int 0), (0, rv G.1 103), (1, .int x1)] (by decide) rfl dX13_another_41 ?_
      refine g_sub h [3, 4, 2, 1, 0] rfl ?_
      exact kX13_another_l43 h _ _ _ _ _ _ _ zf
    · refine g_aload_n h 0 rfl dX13_another_21 ?_
      refine g_iconst h 0 (v := 0) (by decide) dX13_another_22 ?_
      refine g_iconst h (-1) (v := (-1)) (by decide) dX13_another_23 ?_
      have zf1 := b2_some zf
      clear zf; obtain ⟨vq11, Mq12, zq, zf⟩ := zf1
      refine g_callVwi (As := [.int 0, .int (-1)]) (rest := []) h ceX13_isSeen mlX13_474 imX13_isSeen seX13_isSeen (by rfl) (kd_lt (by rw [(by decide : kd 103 = 11)]; decide)) (ent_11 (by decide : kd 103 = 11)) rfl rfl ⟨by decide, by decide⟩ ⟨by decide, by decide⟩ rfl dX13_another_24 rfl (Nat.le_of_ble_eq_true rfl) (cmX13_isSeen zq) ?_
      refine g_if_eq h 34 (by decide) zf dX13_another_27 ?_ ?_ <;> clear zf <;> intro zf
      · refine g_iconst h 0 (v := 0) (by decide) dX13_another_34 ?_
        obtain rfl := Option.some.inj zf
        exact g_iret h rfl ⟨rfl, rfl⟩ (Nat.le_refl _) (Nat.le_refl _) dX13_another_35
      · refine g_iconst h 1 (v := 1) (by decide) dX13_another_30 ?_
        refine g_goto h 35 (by decide) dX13_another_31 ?_
        obtain rfl := Option.some.inj zf
        exact g_iret h rfl ⟨rfl, rfl⟩ (Nat.le_refl _) (Nat.le_refl _) dX13_another_35
  · refine g_iconst h 0 (v := 0) (by decide) dX13_another_14 ?_
    obtain rfl := Option.some.inj zf
    exact g_iret h rfl ⟨rfl, rfl⟩ (Nat.le_refl _) (Nat.le_refl _) dX13_another_15

theorem cmX13_another {l : Launch} {w : WX} {M : Mem} {x1 : Int32} {res : (Int32 × Mem)} (zf : fX13_another M x1 = some res) : CM l w yX13_another cX13_another 6 (some .int) { frames := 9, cells := 0, slots := 0, locals := 211 } 0 0 [rv w 103, .int x1] M (Pwi res) := by
  refine CM_of (by decide) (Nat.le_of_ble_eq_true rfl) (fun G hw hl h => ?_)
  subst hw
  exact kX13_another_e0 h zf

-- X13_mostOf
theorem kX13_mostOf_e0 {G : GX} (h : OKm G cX13_mostOf RX13 3 (some .int) { frames := 0, cells := 0, slots := 0, locals := 0 }) {M : Mem} {x1 : Int32} {x2 : Int32} {res : Int32} (zf : fX13_mostOf M x1 x2 = some res) : GG G (Qm G (Pri res M) 0 0) 0 0 0 [(0, rv G.1 103), (1, .int x1), (2, .int x2)] [] M := by
  unfold fX13_mostOf at zf
  refine g_iload_n h 1 rfl dX13_mostOf_0 ?_
  refine g_aload_n h 0 rfl dX13_mostOf_1 ?_
  refine gfX13_342 h (by decide : kd 103 = 11) dX13_mostOf_2 ?_
  refine g_nmI zf ?_
  clear zf; intro vq1 zf
  refine g_ic_ne h 12 (by decide) zf dX13_mostOf_5 ?_ ?_ <;> clear zf <;> intro zf
  · refine g_aload_n h 0 rfl dX13_mostOf_12 ?_
    refine gfX13_120 h (by decide : kd 103 = 11) dX13_mostOf_13 ?_
    refine g_sipush h 128 (v := 128) (by decide) dX13_mostOf_16 ?_
    refine g_iload_n h 1 rfl dX13_mostOf_19 ?_
    refine g_imul h dX13_mostOf_20 ?_
    refine g_iload_n h 2 rfl dX13_mostOf_21 ?_
    refine g_iadd h dX13_mostOf_22 ?_
    refine g_iald h 1024 (by decide : kd 137 = 20) (by decide) zf dX13_mostOf_23 ?_
    clear zf; intro vq2 zf
    obtain rfl := Option.some.inj zf
    exact g_iret h rfl ⟨rfl, rfl⟩ (Nat.le_refl _) (Nat.le_refl _) dX13_mostOf_24
  · refine g_iconst h 0 (v := 0) (by decide) dX13_mostOf_8 ?_
    refine g_goto h 24 (by decide) dX13_mostOf_9 ?_
    obtain rfl := Option.some.inj zf
    exact g_iret h rfl ⟨rfl, rfl⟩ (Nat.le_refl _) (Nat.le_refl _) dX13_mostOf_24

theorem cmX13_mostOf {l : Launch} {w : WX} {M : Mem} {x1 : Int32} {x2 : Int32} {res : Int32} (zf : fX13_mostOf M x1 x2 = some res) : CM l w yX13_mostOf cX13_mostOf 3 (some .int) { frames := 0, cells := 0, slots := 0, locals := 0 } 0 0 [rv w 103, .int x1, .int x2] M (Pri res M) := by
  refine CM_of (by decide) (Nat.le_of_ble_eq_true rfl) (fun G hw hl h => ?_)
  subst hw
  exact kX13_mostOf_e0 h zf

-- X13_isWin
theorem kX13_isWin_b26 {G : GX} (h : OKm G cX13_isWin RX13 3 (some .boolean) { frames := 0, cells := 0, slots := 0, locals := 0 }) {M : Mem} {x2 : Int32} {s0 : Int32} {s1 : Int32} {res : Int32} (zf : fX13_isWin_b26 M x2 s0 s1 = some res) : GG G (Qm G (Pri res M) 0 0) 0 0 26 [(0, rv G.1 103), (2, .int x2)] [.int s0, .int s1] M := by
  unfold fX13_isWin_b26 at zf
  refine g_iadd h dX13_isWin_26 ?_
  refine g_aload_n h 0 rfl dX13_isWin_27 ?_
  refine gfX13_44 h (by decide : kd 103 = 11) dX13_isWin_28 ?_
  refine g_iload_n h 1 rfl dX13_isWin_31 ?_
  refine g_iald h 7 (by decide : kd 113 = 20) (by decide) zf dX13_isWin_32 ?_
  clear zf; intro vq4 zf
  refine g_aload_n h 0 rfl dX13_isWin_33 ?_
  refine gfX13_108 h (by decide : kd 103 = 11) dX13_isWin_34 ?_
  refine g_iconst h 1 (v := 1) (by decide) dX13_isWin_37 ?_
  refine g_iald h 186 (by decide : kd 133 = 20) (by decide) zf dX13_isWin_38 ?_
  clear zf; intro vq5 zf
  refine g_bipush h 10 (v := 10) (by decide) dX13_isWin_39 ?_
  refine g_idiv h (by decide) dX13_isWin_41 ?_
  refine g_iadd h dX13_isWin_42 ?_
  refine g_ic_le h 50 (by decide) zf dX13_isWin_43 ?_ ?_ <;> clear zf <;> intro zf
  · refine g_iconst h 0 (v := 0) (by decide) dX13_isWin_50 ?_
    obtain rfl := Option.some.inj zf
    exact g_zret h (by decide) rfl ⟨rfl, rfl⟩ (Nat.le_refl _) (Nat.le_refl _) dX13_isWin_51
  · refine g_iconst h 1 (v := 1) (by decide) dX13_isWin_46 ?_
    refine g_goto h 51 (by decide) dX13_isWin_47 ?_
    obtain rfl := Option.some.inj zf
    exact g_zret h (by decide) rfl ⟨rfl, rfl⟩ (Nat.le_refl _) (Nat.le_refl _) dX13_isWin_51

theorem kX13_isWin_e0 {G : GX} (h : OKm G cX13_isWin RX13 3 (some .boolean) { frames := 0, cells := 0, slots := 0, locals := 0 }) {M : Mem} {x1 : Int32} {x2 : Int32} {res : Int32} (zf : fX13_isWin M x1 x2 = some res) : GG G (Qm G (Pri res M) 0 0) 0 0 0 [(0, rv G.1 103), (1, .int x1), (2, .int x2)] [] M := by
  unfold fX13_isWin at zf
  refine g_aload_n h 0 rfl dX13_isWin_0 ?_
  refine gfX13_38 h (by decide : kd 103 = 11) dX13_isWin_1 ?_
  refine g_iload_n h 1 rfl dX13_isWin_4 ?_
  refine g_iald h 7 (by decide : kd 111 = 20) (by decide) zf dX13_isWin_5 ?_
  clear zf; intro vq1 zf
  refine g_aload_n h 0 rfl dX13_isWin_6 ?_
  refine gfX13_41 h (by decide : kd 103 = 11) dX13_isWin_7 ?_
  refine g_iload_n h 1 rfl dX13_isWin_10 ?_
  refine g_iald h 7 (by decide : kd 112 = 20) (by decide) zf dX13_isWin_11 ?_
  clear zf; intro vq2 zf
  refine g_aload_n h 0 rfl dX13_isWin_12 ?_
  refine gfX13_47 h (by decide : kd 103 = 11) dX13_isWin_13 ?_
  refine g_iload_n h 2 rfl dX13_isWin_16 ?_
  refine g_iald h 7 (by decide : kd 114 = 20) (by decide) zf dX13_isWin_17 ?_
  clear zf; intro vq3 zf
  refine g_ic_ne h 25 (by decide) zf dX13_isWin_18 ?_ ?_ <;> clear zf <;> intro zf
  · refine g_iconst h 0 (v := 0) (by decide) dX13_isWin_25 ?_
    refine g_sub h [0, 2] rfl ?_
    exact kX13_isWin_b26 h zf
  · refine g_iconst h 5 (v := 5) (by decide) dX13_isWin_21 ?_
    refine g_goto h 26 (by decide) dX13_isWin_22 ?_
    refine g_sub h [0, 2] rfl ?_
    exact kX13_isWin_b26 h zf

theorem cmX13_isWin {l : Launch} {w : WX} {M : Mem} {x1 : Int32} {x2 : Int32} {res : Int32} (zf : fX13_isWin M x1 x2 = some res) : CM l w yX13_isWin cX13_isWin 3 (some .boolean) { frames := 0, cells := 0, slots := 0, locals := 0 } 0 0 [rv w 103, .int x1, .int x2] M (Pri res M) := by
  refine CM_of (by decide) (Nat.le_of_ble_eq_true rfl) (fun G hw hl h => ?_)
  subst hw
  exact kX13_isWin_e0 h zf

-- X13_assault
theorem kX13_assault_b272 {G : GX} (h : OKm G cX13_assault RX13 6 (some .int) { frames := 1, cells := 0, slots := 0, locals := 22 }) {a185 : Mem → Int32 → Int32 → Int32 → Int32 → Option (Int32 × Mem)} (zh185 : ∀ (M : Mem) (x1 : Int32) (x2 : Int32) (x3 : Int32) (x4 : Int32) (res : (Int32 × Mem)), a185 M x1 x2 x3 x4 = some res → GG G (Qm G (Pwi res) 0 0) 0 0 185 [(0, rv G.1 103), (1, .int x1), (2, .int x2), (3, .int x3), (4, .int x4)] [] M) {M : Mem} {x1 : Int32} {x2 : Int32} {x3 : Int32} {x4 : Int32} {res : (Int32 × Mem)} (zf : fX13_assault_b272 a185 M x1 x2 x3 x4 = some res) : GG G (Qm G (Pwi res) 0 0) 0 0 272 [(0, rv G.1 103), (1, .int x1), (2, .int x2), (3, .int x3), (4, .int x4)] [] M := by
  unfold fX13_assault_b272 at zf
  refine g_iinc h 4 4 rfl (v := x4 + 1) (congrArg (fun z => x4 + z) (by decide : Int32.ofInt (1) = (1 : Int32))) [(4, .int (x4 + 1)), (0, rv G.1 103), (1, .int x1), (2, .int x2), (3, .int x3)] (by decide) rfl dX13_assault_272 ?_
  refine g_nmV zf ?_
  clear zf; intro vq8 zf
  refine g_goto h 185 (by decide) dX13_assault_275 ?_
  refine g_sub h [1, 2, 3, 4, 0] rfl ?_
  exact zh185 _ _ _ _ _ _ zf

theorem kX13_assault_b255 {G : GX} (h : OKm G cX13_assault RX13 6 (some .int) { frames := 1, cells := 0, slots := 0, locals := 22 }) {a185 : Mem → Int32 → Int32 → Int32 → Int32 → Option (Int32 × Mem)} (zh185 : ∀ (M : Mem) (x1 : Int32) (x2 : Int32) (x3 : Int32) (x4 : Int32) (res : (Int32 × Mem)), a185 M x1 x2 x3 x4 = some res → GG G (Qm G (Pwi res) 0 0) 0 0 185 [(0, rv G.1 103), (1, .int x1), (2, .int x2), (3, .int x3), (4, .int x4)] [] M) {a201 : Mem → Int32 → Int32 → Int32 → Int32 → Int32 → Option (Int32 × Mem)} (zh201 : ∀ (M : Mem) (x1 : Int32) (x2 : Int32) (x3 : Int32) (x4 : Int32) (x5 : Int32) (res : (Int32 × Mem)), a201 M x1 x2 x3 x4 x5 = some res → GG G (Qm G (Pwi res) 0 0) 0 0 201 [(0, rv G.1 103), (1, .int x1), (2, .int x2), (3, .int x3), (4, .int x4), (5, .int x5)] [] M) {M : Mem} {x1 : Int32} {x2 : Int32} {x3 : Int32} {x4 : Int32} {x5 : Int32} {res : (Int32 × Mem)} (zf : fX13_assault_b255 a185 a201 M x1 x2 x3 x4 x5 = some res) : GG G (Qm G (Pwi res) 0 0) 0 0 255 [(0, rv G.1 103), (1, .int x1), (2, .int x2), (3, .int x3), (4, .int x4), (5, .int x5)] [] M := by
  unfold fX13_assault_b255 at zf
  refine g_iinc h 5 5 rfl (v := x5 + (-1)) (congrArg (fun z => x5 + z) (by decide : Int32.ofInt (-1) = (-1 : Int32))) [(5, .int (x5 + (-1))), (0, rv G.1 103), (1, .int x1), (2, .int x2), (3, .int x3), (4, .int x4)] (by decide) rfl dX13_assault_255 ?_
  refine g_nmV zf ?_
  clear zf; intro vq10 zf
  refine g_goto h 201 (by decide) dX13_assault_258 ?_
  refine g_sub h [1, 2, 3, 4, 5, 0] rfl ?_
  exact zh201 _ _ _ _ _ _ _ zf

theorem kX13_assault_l201 {G : GX} (h : OKm G cX13_assault RX13 6 (some .int) { frames := 1, cells := 0, slots := 0, locals := 22 }) {a185 : Mem → Int32 → Int32 → Int32 → Int32 → Option (Int32 × Mem)} (zh185 : ∀ (M : Mem) (x1 : Int32) (x2 : Int32) (x3 : Int32) (x4 : Int32) (res : (Int32 × Mem)), a185 M x1 x2 x3 x4 = some res → GG G (Qm G (Pwi res) 0 0) 0 0 185 [(0, rv G.1 103), (1, .int x1), (2, .int x2), (3, .int x3), (4, .int x4)] [] M) : ∀ (n : Nat) (M : Mem) (x1 : Int32) (x2 : Int32) (x3 : Int32) (x4 : Int32) (x5 : Int32) (res : (Int32 × Mem)), fX13_assault_l201 a185 n M x1 x2 x3 x4 x5 = some res → GG G (Qm G (Pwi res) 0 0) 0 0 201 [(0, rv G.1 103), (1, .int x1), (2, .int x2), (3, .int x3), (4, .int x4), (5, .int x5)] [] M := by
  intro n
  induction n with
  | zero => intro M x1 x2 x3 x4 x5 res zf; rw [fX13_assault_l201] at zf; cases zf
  | succ n ih =>
    intro M x1 x2 x3 x4 x5 res zf
    rw [fX13_assault_l201] at zf
    refine g_iload h 5 rfl dX13_assault_201 ?_
    refine g_if_lt h 261 (by decide) zf dX13_assault_203 ?_ ?_ <;> clear zf <;> intro zf
    · refine g_iload_n h 3 rfl dX13_assault_261 ?_
      refine g_iconst h (-1) (v := (-1)) (by decide) dX13_assault_262 ?_
      refine g_ic_eq h 272 (by decide) zf dX13_assault_263 ?_ ?_ <;> clear zf <;> intro zf
      · refine g_sub h [0, 1, 2, 3, 4] rfl ?_
        exact kX13_assault_b272 h zh185 zf
      · refine g_iload_n h 2 rfl dX13_assault_266 ?_
        refine g_iconst h 1 (v := 1) (by decide) dX13_assault_267 ?_
        refine g_iload_n h 3 rfl dX13_assault_268 ?_
        refine g_ishl h dX13_assault_269 ?_
        refine g_ior h dX13_assault_270 ?_
        refine g_nmI zf ?_
        clear zf; intro vq9 zf
        refine g_istore_n h rfl [(2, .int vq9), (0, rv G.1 103), (1, .int x1), (3, .int x3), (4, .int x4), (5, .int x5)] (by decide) rfl dX13_assault_271 ?_
        refine g_sub h [1, 2, 0, 3, 4] rfl ?_
        exact kX13_assault_b272 h zh185 zf
    · refine g_iload_n h 2 rfl dX13_assault_206 ?_
      refine g_iload h 5 rfl dX13_assault_207 ?_
      refine g_ishr h dX13_assault_209 ?_
      refine g_iconst h 1 (v := 1) (by decide) dX13_assault_210 ?_
      refine g_iand h dX13_assault_211 ?_
      refine g_if_ne h 255 (by decide) zf dX13_assault_212 ?_ ?_ <;> clear zf <;> intro zf
      · refine g_sub h [0, 1, 2, 3, 4, 5] rfl ?_
        exact kX13_assault_b255 h zh185 ih zf
      · refine g_aload_n h 0 rfl dX13_assault_215 ?_
        refine g_iload h 4 rfl dX13_assault_216 ?_
        refine g_iload h 5 rfl dX13_assault_218 ?_
        have zf1 := bd_some zf
        clear zf; obtain ⟨vq11, zq, zf⟩ := zf1
        refine g_callVri (As := [.int x4, .int x5]) (rest := []) h ceX13_isWin mlX13_459 imX13_isWin seX13_isWin (by rfl) (kd_lt (by rw [(by decide : kd 103 = 11)]; decide)) (ent_11 (by decide : kd 103 = 11)) rfl rfl ⟨by decide, by decide⟩ ⟨by decide, by decide⟩ rfl dX13_assault_220 rfl (Nat.le_of_ble_eq_true rfl) (cmX13_isWin zq) ?_
        refine g_if_eq h 255 (by decide) zf dX13_assault_223 ?_ ?_ <;> clear zf <;> intro zf
        · refine g_sub h [0, 1, 2, 3, 4, 5] rfl ?_
          exact kX13_assault_b255 h zh185 ih zf
        · refine g_iconst h 1 (v := 1) (by decide) dX13_assault_226 ?_
          refine g_aload_n h 0 rfl dX13_assault_227 ?_
          refine g_iload h 4 rfl dX13_assault_228 ?_
          refine g_iconst h 1 (v := 1) (by decide) dX13_assault_230 ?_
          refine g_iadd h dX13_assault_231 ?_
          refine g_iload_n h 2 rfl dX13_assault_232 ?_
          refine g_iconst h 1 (v := 1) (by decide) dX13_assault_233 ?_
          refine g_iload h 5 rfl dX13_assault_234 ?_
          refine g_ishl h dX13_assault_236 ?_
          refine g_ior h dX13_assault_237 ?_
          have zf1 := bd_some zf
          clear zf; obtain ⟨vq12, zq, zf⟩ := zf1
          refine g_callVri (As := [.int (x4 + 1), .int (x2 ||| ((1 : Int32) <<< (x5 &&& 31 : Int32)))]) (rest := [.int 1]) h ceX13_mostOf mlX13_462 imX13_mostOf seX13_mostOf (by rfl) (kd_lt (by rw [(by decide : kd 103 = 11)]; decide)) (ent_11 (by decide : kd 103 = 11)) rfl rfl ⟨by decide, by decide⟩ ⟨by decide, by decide⟩ rfl dX13_assault_238 rfl (Nat.le_of_ble_eq_true rfl) (cmX13_mostOf zq) ?_
          refine g_iadd h dX13_assault_241 ?_
          refine g_aload_n h 0 rfl dX13_assault_242 ?_
          refine g_iload h 4 rfl dX13_assault_243 ?_
          refine g_iload_n h 2 rfl dX13_assault_245 ?_
          have zf1 := bd_some zf
          clear zf; obtain ⟨vq13, zq, zf⟩ := zf1
          refine g_callVri (As := [.int x4, .int x2]) (rest := [.int (1 + vq12)]) h ceX13_mostOf mlX13_462 imX13_mostOf seX13_mostOf (by rfl) (kd_lt (by rw [(by decide : kd 103 = 11)]; decide)) (ent_11 (by decide : kd 103 = 11)) rfl rfl ⟨by decide, by decide⟩ ⟨by decide, by decide⟩ rfl dX13_assault_246 rfl (Nat.le_of_ble_eq_true rfl) (cmX13_mostOf zq) ?_
          refine g_ic_ne h 255 (by decide) zf dX13_assault_249 ?_ ?_ <;> clear zf <;> intro zf
          · refine g_sub h [0, 1, 2, 3, 4, 5] rfl ?_
            exact kX13_assault_b255 h zh185 ih zf
          · refine g_iload h 5 rfl dX13_assault_252 ?_
            refine g_istore_n h rfl [(3, .int x5), (0, rv G.1 103), (1, .int x1), (2, .int x2), (4, .int x4), (5, .int x5)] (by decide) rfl dX13_assault_254 ?_
            refine g_sub h [1, 2, 3, 0, 4, 5] rfl ?_
            exact kX13_assault_b255 h zh185 ih zf

theorem kX13_assault_l185 {G : GX} (h : OKm G cX13_assault RX13 6 (some .int) { frames := 1, cells := 0, slots := 0, locals := 22 }) : ∀ (n : Nat) (M : Mem) (x1 : Int32) (x2 : Int32) (x3 : Int32) (x4 : Int32) (res : (Int32 × Mem)), fX13_assault_l185 n M x1 x2 x3 x4 = some res → GG G (Qm G (Pwi res) 0 0) 0 0 185 [(0, rv G.1 103), (1, .int x1), (2, .int x2), (3, .int x3), (4, .int x4)] [] M := by
  intro n
  induction n with
  | zero => intro M x1 x2 x3 x4 res zf; rw [fX13_assault_l185] at zf; cases zf
  | succ n ih =>
    intro M x1 x2 x3 x4 res zf
    rw [fX13_assault_l185] at zf
    refine g_iload h 4 rfl dX13_assault_185 ?_
    refine g_iload_n h 1 rfl dX13_assault_187 ?_
    refine g_ic_gt h 278 (by decide) zf dX13_assault_188 ?_ ?_ <;> clear zf <;> intro zf
    · refine g_iload_n h 3 rfl dX13_assault_278 ?_
      obtain rfl := Option.some.inj zf
      exact g_iret h rfl ⟨rfl, rfl⟩ (Nat.le_refl _) (Nat.le_refl _) dX13_assault_279
    · refine g_iconst h (-1) (v := (-1)) (by decide) dX13_assault_191 ?_
      refine g_istore_n h rfl [(3, .int (-1)), (0, rv G.1 103), (1, .int x1), (2, .int x2), (4, .int x4)] (by decide) rfl dX13_assault_192 ?_
      refine g_aload_n h 1 rfl dX13_assault_193 ?_
      refine gfX13_345 h (by decide : kd 103 = 11) dX13_assault_194 ?_
      refine g_nmI zf ?_
      clear zf; intro vq6 zf
      refine g_iconst h 1 (v := 1) (by decide) dX13_assault_197 ?_
      refine g_isub h dX13_assault_198 ?_
      refine g_nmI zf ?_
      clear zf; intro vq7 zf
      refine g_istore h [(5, .int vq7), (3, .int (-1)), (0, rv G.1 103), (1, .int x1), (2, .int x2), (4, .int x4)] (by decide) rfl dX13_assault_199 ?_
      refine g_sub h [2, 3, 4, 1, 5, 0] rfl ?_
      exact kX13_assault_l201 h ih _ _ _ _ _ _ _ _ zf

theorem kX13_assault_b134 {G : GX} (h : OKm G cX13_assault RX13 6 (some .int) { frames := 1, cells := 0, slots := 0, locals := 22 }) {a40 : Mem → Int32 → Int32 → Option (Int32 × Mem)} (zh40 : ∀ (M : Mem) (x1 : Int32) (x2 : Int32) (res : (Int32 × Mem)), a40 M x1 x2 = some res → GG G (Qm G (Pwi res) 0 0) 0 0 40 [(0, rv G.1 103), (1, .int x1), (2, .int x2)] [] M) {a46 : Mem → Int32 → Int32 → Int32 → Option (Int32 × Mem)} (zh46 : ∀ (M : Mem) (x1 : Int32) (x2 : Int32) (x3 : Int32) (res : (Int32 × Mem)), a46 M x1 x2 x3 = some res → GG G (Qm G (Pwi res) 0 0) 0 0 46 [(0, rv G.1 103), (1, .int x1), (2, .int x2), (3, .int x3)] [] M) {a69 : Mem → Int32 → Int32 → Int32 → Int32 → Int32 → Option (Int32 × Mem)} (zh69 : ∀ (M : Mem) (x1 : Int32) (x2 : Int32) (x3 : Int32) (x4 : Int32) (x5 : Int32) (res : (Int32 × Mem)), a69 M x1 x2 x3 x4 x5 = some res → GG G (Qm G (Pwi res) 0 0) 0 0 69 [(0, rv G.1 103), (1, .int x1), (2, .int x2), (3, .int x3), (4, .int x4), (5, .int x5)] [] M) {M : Mem} {x1 : Int32} {x2 : Int32} {x3 : Int32} {x4 : Int32} {x5 : Int32} {res : (Int32 × Mem)} (zf : fX13_assault_b134 a40 a46 a69 M x1 x2 x3 x4 x5 = some res) : GG G (Qm G (Pwi res) 0 0) 0 0 134 [(0, rv G.1 103), (1, .int x1), (2, .int x2), (3, .int x3), (4, .int x4), (5, .int x5)] [] M := by
  unfold fX13_assault_b134 at zf
  refine g_iinc h 5 5 rfl (v := x5 + 1) (congrArg (fun z => x5 + z) (by decide : Int32.ofInt (1) = (1 : Int32))) [(5, .int (x5 + 1)), (0, rv G.1 103), (1, .int x1), (2, .int x2), (3, .int x3), (4, .int x4)] (by decide) rfl dX13_assault_134 ?_
  refine g_nmV zf ?_
  clear zf; intro vq21 zf
  refine g_goto h 69 (by decide) dX13_assault_137 ?_
  refine g_sub h [1, 2, 3, 4, 5, 0] rfl ?_
  exact zh69 _ _ _ _ _ _ _ zf

theorem kX13_assault_l69 {G : GX} (h : OKm G cX13_assault RX13 6 (some .int) { frames := 1, cells := 0, slots := 0, locals := 22 }) {a40 : Mem → Int32 → Int32 → Option (Int32 × Mem)} (zh40 : ∀ (M : Mem) (x1 : Int32) (x2 : Int32) (res : (Int32 × Mem)), a40 M x1 x2 = some res → GG G (Qm G (Pwi res) 0 0) 0 0 40 [(0, rv G.1 103), (1, .int x1), (2, .int x2)] [] M) {a46 : Mem → Int32 → Int32 → Int32 → Option (Int32 × Mem)} (zh46 : ∀ (M : Mem) (x1 : Int32) (x2 : Int32) (x3 : Int32) (res : (Int32 × Mem)), a46 M x1 x2 x3 = some res → GG G (Qm G (Pwi res) 0 0) 0 0 46 [(0, rv G.1 103), (1, .int x1), (2, .int x2), (3, .int x3)] [] M) : ∀ (n : Nat) (M : Mem) (x1 : Int32) (x2 : Int32) (x3 : Int32) (x4 : Int32) (x5 : Int32) (res : (Int32 × Mem)), fX13_assault_l69 a40 a46 n M x1 x2 x3 x4 x5 = some res → GG G (Qm G (Pwi res) 0 0) 0 0 69 [(0, rv G.1 103), (1, .int x1), (2, .int x2), (3, .int x3), (4, .int x4), (5, .int x5)] [] M := by
  intro n
  induction n with
  | zero => intro M x1 x2 x3 x4 x5 res zf; rw [fX13_assault_l69] at zf; cases zf
  | succ n ih =>
    intro M x1 x2 x3 x4 x5 res zf
    rw [fX13_assault_l69] at zf
    refine g_iload h 5 rfl dX13_assault_69 ?_
    refine g_aload_n h 0 rfl dX13_assault_71 ?_
    refine gfX13_345 h (by decide : kd 103 = 11) dX13_assault_72 ?_
    refine g_nmI zf ?_
    clear zf; intro vq18 zf
    refine g_ic_ge h 140 (by decide) zf dX13_assault_75 ?_ ?_ <;> clear zf <;> intro zf
    · refine g_aload_n h 0 rfl dX13_assault_140 ?_
      refine gfX13_120 h (by decide : kd 103 = 11) dX13_assault_141 ?_
      refine g_sipush h 128 (v := 128) (by decide) dX13_assault_144 ?_
      refine g_iload_n h 2 rfl dX13_assault_147 ?_
      refine g_imul h dX13_assault_148 ?_
      refine g_iload_n h 3 rfl dX13_assault_149 ?_
      refine g_iadd h dX13_assault_150 ?_
      refine g_iload h 4 rfl dX13_assault_151 ?_
      refine g_iast h 1024 (by decide : kd 137 = 20) (by decide) zf dX13_assault_153 ?_
      clear zf; intro Mq19 zf
      refine g_iinc h 3 3 rfl (v := x3 + 1) (congrArg (fun z => x3 + z) (by decide : Int32.ofInt (1) = (1 : Int32))) [(3, .int (x3 + 1)), (0, rv G.1 103), (1, .int x1), (2, .int x2), (4, .int x4), (5, .int x5)] (by decide) rfl dX13_assault_154 ?_
      refine g_nmV zf ?_
      clear zf; intro vq20 zf
      refine g_goto h 46 (by decide) dX13_assault_157 ?_
      refine g_sub h [1, 2, 3, 0] rfl ?_
      exact zh46 _ _ _ _ _ zf
    · refine g_iload_n h 3 rfl dX13_assault_78 ?_
      refine g_iload h 5 rfl dX13_assault_79 ?_
      refine g_ishr h dX13_assault_81 ?_
      refine g_iconst h 1 (v := 1) (by decide) dX13_assault_82 ?_
      refine g_iand h dX13_assault_83 ?_
      refine g_if_ne h 134 (by decide) zf dX13_assault_84 ?_ ?_ <;> clear zf <;> intro zf
      · refine g_sub h [0, 1, 2, 3, 4, 5] rfl ?_
        exact kX13_assault_b134 h zh40 zh46 ih zf
      · refine g_aload_n h 0 rfl dX13_assault_87 ?_
        refine g_iload_n h 2 rfl dX13_assault_88 ?_
        refine g_iload h 5 rfl dX13_assault_89 ?_
        have zf1 := bd_some zf
        clear zf; obtain ⟨vq22, zq, zf⟩ := zf1
        refine g_callVri (As := [.int x2, .int x5]) (rest := []) h ceX13_isWin mlX13_459 imX13_isWin seX13_isWin (by rfl) (kd_lt (by rw [(by decide : kd 103 = 11)]; decide)) (ent_11 (by decide : kd 103 = 11)) rfl rfl ⟨by decide, by decide⟩ ⟨by decide, by decide⟩ rfl dX13_assault_91 rfl (Nat.le_of_ble_eq_true rfl) (cmX13_isWin zq) ?_
        refine g_if_eq h 134 (by decide) zf dX13_assault_94 ?_ ?_ <;> clear zf <;> intro zf
        · refine g_sub h [0, 1, 2, 3, 4, 5] rfl ?_
          exact kX13_assault_b134 h zh40 zh46 ih zf
        · refine g_iconst h 1 (v := 1) (by decide) dX13_assault_97 ?_
          refine g_aload_n h 0 rfl dX13_assault_98 ?_
          refine g_iload_n h 2 rfl dX13_assault_99 ?_
          refine g_iconst h 1 (v := 1) (by decide) dX13_assault_100 ?_
          refine g_iadd h dX13_assault_101 ?_
          refine g_iload_n h 3 rfl dX13_assault_102 ?_
          refine g_iconst h 1 (v := 1) (by decide) dX13_assault_103 ?_
          refine g_iload h 5 rfl dX13_assault_104 ?_
          refine g_ishl h dX13_assault_106 ?_
          refine g_ior h dX13_assault_107 ?_
          have zf1 := bd_some zf
          clear zf; obtain ⟨vq23, zq, zf⟩ := zf1
          refine g_callVri (As := [.int (x2 + 1), .int (x3 ||| ((1 : Int32) <<< (x5 &&& 31 : Int32)))]) (rest := [.int 1]) h ceX13_mostOf mlX13_462 imX13_mostOf seX13_mostOf (by rfl) (kd_lt (by rw [(by decide : kd 103 = 11)]; decide)) (ent_11 (by decide : kd 103 = 11)) rfl rfl ⟨by decide, by decide⟩ ⟨by decide, by decide⟩ rfl dX13_assault_108 rfl (Nat.le_of_ble_eq_true rfl) (cmX13_mostOf zq) ?_
          refine g_iadd h dX13_assault_111 ?_
          refine g_iload h 4 rfl dX13_assault_112 ?_
          refine g_ic_le h 134 (by decide) zf dX13_assault_114 ?_ ?_ <;> clear zf <;> intro zf
          · refine g_sub h [0, 1, 2, 3, 4, 5] rfl ?_
            exact kX13_assault_b134 h zh40 zh46 ih zf
          · refine g_iconst h 1 (v := 1) (by decide) dX13_assault_117 ?_
            refine g_aload_n h 0 rfl dX13_assault_118 ?_
            refine g_iload_n h 2 rfl dX13_assault_119 ?_
            refine g_iconst h 1 (v := 1) (by decide) dX13_assault_120 ?_
            refine g_iadd h dX13_assault_121 ?_
            refine g_iload_n h 3 rfl dX13_assault_122 ?_
            refine g_iconst h 1 (v := 1) (by decide) dX13_assault_123 ?_
            refine g_iload h 5 rfl dX13_assault_124 ?_
            refine g_ishl h dX13_assault_126 ?_
            refine g_ior h dX13_assault_127 ?_
            have zf1 := bd_some zf
            clear zf; obtain ⟨vq24, zq, zf⟩ := zf1
            refine g_callVri (As := [.int (x2 + 1), .int (x3 ||| ((1 : Int32) <<< (x5 &&& 31 : Int32)))]) (rest := [.int 1]) h ceX13_mostOf mlX13_462 imX13_mostOf seX13_mostOf (by rfl) (kd_lt (by rw [(by decide : kd 103 = 11)]; decide)) (ent_11 (by decide : kd 103 = 11)) rfl rfl ⟨by decide, by decide⟩ ⟨by decide, by decide⟩ rfl dX13_assault_128 rfl (Nat.le_of_ble_eq_true rfl) (cmX13_mostOf zq) ?_
            refine g_iadd h dX13_assault_131 ?_
            refine g_nmI zf ?_
            clear zf; intro vq25 zf
            refine g_istore h [(4, .int vq25), (0, rv G.1 103), (1, .int x1), (2, .int x2), (3, .int x3), (5, .int x5)] (by decide) rfl dX13_assault_132 ?_
            refine g_sub h [1, 2, 3, 4, 0, 5] rfl ?_
            exact kX13_assault_b134 h zh40 zh46 ih zf

theorem kX13_assault_l46 {G : GX} (h : OKm G cX13_assault RX13 6 (some .int) { frames := 1, cells := 0, slots := 0, locals := 22 }) {a40 : Mem → Int32 → Int32 → Option (Int32 × Mem)} (zh40 : ∀ (M : Mem) (x1 : Int32) (x2 : Int32) (res : (Int32 × Mem)), a40 M x1 x2 = some res → GG G (Qm G (Pwi res) 0 0) 0 0 40 [(0, rv G.1 103), (1, .int x1), (2, .int x2)] [] M) : ∀ (n : Nat) (M : Mem) (x1 : Int32) (x2 : Int32) (x3 : Int32) (res : (Int32 × Mem)), fX13_assault_l46 a40 n M x1 x2 x3 = some res → GG G (Qm G (Pwi res) 0 0) 0 0 46 [(0, rv G.1 103), (1, .int x1), (2, .int x2), (3, .int x3)] [] M := by
  intro n
  induction n with
  | zero => intro M x1 x2 x3 res zf; rw [fX13_assault_l46] at zf; cases zf
  | succ n ih =>
    intro M x1 x2 x3 res zf
    rw [fX13_assault_l46] at zf
    refine g_iload_n h 3 rfl dX13_assault_46 ?_
    refine g_iconst h 1 (v := 1) (by decide) dX13_assault_47 ?_
    refine g_aload_n h 0 rfl dX13_assault_48 ?_
    refine gfX13_345 h (by decide : kd 103 = 11) dX13_assault_49 ?_
    refine g_nmI zf ?_
    clear zf; intro vq15 zf
    refine g_ishl h dX13_assault_52 ?_
    refine g_ic_ge h 160 (by decide) zf dX13_assault_53 ?_ ?_ <;> clear zf <;> intro zf
    · refine g_iinc h 2 2 rfl (v := x2 + (-1)) (congrArg (fun z => x2 + z) (by decide : Int32.ofInt (-1) = (-1 : Int32))) [(2, .int (x2 + (-1))), (0, rv G.1 103), (1, .int x1), (3, .int x3)] (by decide) rfl dX13_assault_160 ?_
      refine g_nmV zf ?_
      clear zf; intro vq16 zf
      refine g_goto h 40 (by decide) dX13_assault_163 ?_
      refine g_sub h [1, 2, 0] rfl ?_
      exact zh40 _ _ _ _ zf
    · refine g_aload_n h 0 rfl dX13_assault_56 ?_
      refine g_iload_n h 2 rfl dX13_assault_57 ?_
      refine g_iconst h 1 (v := 1) (by decide) dX13_assault_58 ?_
      refine g_iadd h dX13_assault_59 ?_
      refine g_iload_n h 3 rfl dX13_assault_60 ?_
      have zf1 := bd_some zf
      clear zf; obtain ⟨vq17, zq, zf⟩ := zf1
      refine g_callVri (As := [.int (x2 + 1), .int x3]) (rest := []) h ceX13_mostOf mlX13_462 imX13_mostOf seX13_mostOf (by rfl) (kd_lt (by rw [(by decide : kd 103 = 11)]; decide)) (ent_11 (by decide : kd 103 = 11)) rfl rfl ⟨by decide, by decide⟩ ⟨by decide, by decide⟩ rfl dX13_assault_61 rfl (Nat.le_of_ble_eq_true rfl) (cmX13_mostOf zq) ?_
      refine g_istore h [(4, .int vq17), (0, rv G.1 103), (1, .int x1), (2, .int x2), (3, .int x3)] (by decide) rfl dX13_assault_64 ?_
      refine g_iconst h 0 (v := 0) (by decide) dX13_assault_66 ?_
      refine g_istore h [(5, .int 0), (4, .int vq17), (0, rv G.1 103), (1, .int x1), (2, .int x2), (3, .int x3)] (by decide) rfl dX13_assault_67 ?_
      refine g_sub h [2, 3, 4, 5, 1, 0] rfl ?_
      exact kX13_assault_l69 h zh40 ih _ _ _ _ _ _ _ _ zf

theorem kX13_assault_l40 {G : GX} (h : OKm G cX13_assault RX13 6 (some .int) { frames := 1, cells := 0, slots := 0, locals := 22 }) : ∀ (n : Nat) (M : Mem) (x1 : Int32) (x2 : Int32) (res : (Int32 × Mem)), fX13_assault_l40 n M x1 x2 = some res → GG G (Qm G (Pwi res) 0 0) 0 0 40 [(0, rv G.1 103), (1, .int x1), (2, .int x2)] [] M := by
  intro n
  induction n with
  | zero => intro M x1 x2 res zf; rw [fX13_assault_l40] at zf; cases zf
  | succ n ih =>
    intro M x1 x2 res zf
    rw [fX13_assault_l40] at zf
    refine g_iload_n h 2 rfl dX13_assault_40 ?_
    refine g_if_lt h 166 (by decide) zf dX13_assault_41 ?_ ?_ <;> clear zf <;> intro zf
    · refine g_iload_n h 1 rfl dX13_assault_166 ?_
      refine g_iconst h (-1) (v := (-1)) (by decide) dX13_assault_167 ?_
      refine g_ic_ne h 178 (by decide) zf dX13_assault_168 ?_ ?_ <;> clear zf <;> intro zf
      · refine g_iconst h 0 (v := 0) (by decide) dX13_assault_178 ?_
        refine g_istore_n h rfl [(2, .int 0), (0, rv G.1 103), (1, .int x1)] (by decide) rfl dX13_assault_179 ?_
        refine g_iconst h (-1) (v := (-1)) (by decide) dX13_assault_180 ?_
        refine g_istore_n h rfl [(3, .int (-1)), (2, .int 0), (0, rv G.1 103), (1, .int x1)] (by decide) rfl dX13_assault_181 ?_
        refine g_iconst h 0 (v := 0) (by decide) dX13_assault_182 ?_
        refine g_istore h [(4, .int 0), (3, .int (-1)), (2, .int 0), (0, rv G.1 103), (1, .int x1)] (by decide) rfl dX13_assault_183 ?_
        refine g_sub h [3, 4, 2, 1, 0] rfl ?_
        exact kX13_assault_l185 h _ _ _ _ _ _ _ zf
      · refine g_aload_n h 0 rfl dX13_assault_171 ?_
        refine g_iconst h 0 (v := 0) (by decide) dX13_assault_172 ?_
        refine g_iconst h 0 (v := 0) (by decide) dX13_assault_173 ?_
        have zf1 := bd_some zf
        clear zf; obtain ⟨vq14, zq, zf⟩ := zf1
        refine g_callVri (As := [.int 0, .int 0]) (rest := []) h ceX13_mostOf mlX13_462 imX13_mostOf seX13_mostOf (by rfl) (kd_lt (by rw [(by decide : kd 103 = 11)]; decide)) (ent_11 (by decide : kd 103 = 11)) rfl rfl ⟨by decide, by decide⟩ ⟨by decide, by decide⟩ rfl dX13_assault_174 rfl (Nat.le_of_ble_eq_true rfl) (cmX13_mostOf zq) ?_
        obtain rfl := Option.some.inj zf
        exact g_iret h rfl ⟨rfl, rfl⟩ (Nat.le_refl _) (Nat.le_refl _) dX13_assault_177
    · refine g_iconst h 0 (v := 0) (by decide) dX13_assault_44 ?_
      refine g_istore_n h rfl [(3, .int 0), (0, rv G.1 103), (1, .int x1), (2, .int x2)] (by decide) rfl dX13_assault_45 ?_
      refine g_sub h [1, 2, 3, 0] rfl ?_
      exact kX13_assault_l46 h ih _ _ _ _ _ _ zf

theorem kX13_assault_b24 {G : GX} (h : OKm G cX13_assault RX13 6 (some .int) { frames := 1, cells := 0, slots := 0, locals := 22 }) {M : Mem} {x1 : Int32} {s0 : Int32} {res : (Int32 × Mem)} (zf : fX13_assault_b24 M x1 s0 = some res) : GG G (Qm G (Pwi res) 0 0) 0 0 24 [(0, rv G.1 103), (1, .int x1)] [.int s0, rv G.1 103] M := by
  unfold fX13_assault_b24 at zf
  refine g_iconst h 1 (v := 1) (by decide) dX13_assault_24 ?_
  have zf1 := b2_some zf
  clear zf; obtain ⟨vq2, Mq3, zq, zf⟩ := zf1
  refine g_callVwi (As := [.int s0, .int 1]) (rest := []) h ceX13_right mlX13_326 imX13_right seX13_right (by rfl) (kd_lt (by rw [(by decide : kd 103 = 11)]; decide)) (ent_11 (by decide : kd 103 = 11)) rfl rfl ⟨by decide, by decide⟩ ⟨by decide, by decide⟩ rfl dX13_assault_25 rfl (Nat.le_of_ble_eq_true rfl) (cmX13_right zq) ?_
  refine g_if_ne h 33 (by decide) zf dX13_assault_28 ?_ ?_ <;> clear zf <;> intro zf
  · refine g_aload_n h 0 rfl dX13_assault_33 ?_
    refine gfX13_342 h (by decide : kd 103 = 11) dX13_assault_34 ?_
    refine g_nmI zf ?_
    clear zf; intro vq4 zf
    refine g_iconst h 1 (v := 1) (by decide) dX13_assault_37 ?_
    refine g_isub h dX13_assault_38 ?_
    refine g_nmI zf ?_
    clear zf; intro vq5 zf
    refine g_istore_n h rfl [(2, .int vq5), (0, rv G.1 103), (1, .int x1)] (by decide) rfl dX13_assault_39 ?_
    refine g_sub h [1, 2, 0] rfl ?_
    exact kX13_assault_l40 h _ _ _ _ _ zf
  · refine g_iconst h 0 (v := 0) (by decide) dX13_assault_31 ?_
    obtain rfl := Option.some.inj zf
    exact g_iret h rfl ⟨rfl, rfl⟩ (Nat.le_refl _) (Nat.le_refl _) dX13_assault_32

theorem kX13_assault_b23 {G : GX} (h : OKm G cX13_assault RX13 6 (some .int) { frames := 1, cells := 0, slots := 0, locals := 22 }) {M : Mem} {x1 : Int32} {res : (Int32 × Mem)} (zf : fX13_assault_b23 M x1 = some res) : GG G (Qm G (Pwi res) 0 0) 0 0 23 [(0, rv G.1 103), (1, .int x1)] [rv G.1 103] M := by
  unfold fX13_assault_b23 at zf
  refine g_iconst h 0 (v := 0) (by decide) dX13_assault_23 ?_
  refine g_sub h [0, 1] rfl ?_
  exact kX13_assault_b24 h zf

theorem kX13_assault_e0 {G : GX} (h : OKm G cX13_assault RX13 6 (some .int) { frames := 1, cells := 0, slots := 0, locals := 22 }) {M : Mem} {x1 : Int32} {res : (Int32 × Mem)} (zf : fX13_assault M x1 = some res) : GG G (Qm G (Pwi res) 0 0) 0 0 0 [(0, rv G.1 103), (1, .int x1)] [] M := by
  unfold fX13_assault at zf
  refine g_aload_n h 0 rfl dX13_assault_0 ?_
  refine g_iconst h 0 (v := 0) (by decide) dX13_assault_1 ?_
  refine pfX13_141 h (by decide : kd 103 = 11) dX13_assault_2 ?_
  refine g_nmM zf ?_
  clear zf; intro Mq1 zf
  refine g_aload_n h 0 rfl dX13_assault_5 ?_
  refine g_iload_n h 1 rfl dX13_assault_6 ?_
  refine g_iconst h (-1) (v := (-1)) (by decide) dX13_assault_7 ?_
  refine g_ic_lt h 23 (by decide) zf dX13_assault_8 ?_ ?_ <;> clear zf <;> intro zf
  · refine g_sub h [0, 1] rfl ?_
    exact kX13_assault_b23 h zf
  · refine g_iload_n h 1 rfl dX13_assault_11 ?_
    refine g_aload_n h 0 rfl dX13_assault_12 ?_
    refine gfX13_342 h (by decide : kd 103 = 11) dX13_assault_13 ?_
    refine g_nmI zf ?_
    clear zf; intro vq26 zf
    refine g_ic_ge h 23 (by decide) zf dX13_assault_16 ?_ ?_ <;> clear zf <;> intro zf
    · refine g_sub h [0, 1] rfl ?_
      exact kX13_assault_b23 h zf
    · refine g_iconst h 1 (v := 1) (by decide) dX13_assault_19 ?_
      refine g_goto h 24 (by decide) dX13_assault_20 ?_
      refine g_sub h [0, 1] rfl ?_
      exact kX13_assault_b24 h zf

theorem cmX13_assault {l : Launch} {w : WX} {M : Mem} {x1 : Int32} {res : (Int32 × Mem)} (zf : fX13_assault M x1 = some res) : CM l w yX13_assault cX13_assault 6 (some .int) { frames := 1, cells := 0, slots := 0, locals := 22 } 0 0 [rv w 103, .int x1] M (Pwi res) := by
  refine CM_of (by decide) (Nat.le_of_ble_eq_true rfl) (fun G hw hl h => ?_)
  subst hw
  exact kX13_assault_e0 h zf

-- X13_better
theorem kX13_better_b103 {G : GX} (h : OKm G cX13_better RX13 7 (some .int) { frames := 8, cells := 0, slots := 0, locals := 188 }) {a27 : Mem → Int32 → Int32 → Int32 → Option (Int32 × Mem)} (zh27 : ∀ (M : Mem) (x1 : Int32) (x2 : Int32) (x3 : Int32) (res : (Int32 × Mem)), a27 M x1 x2 x3 = some res → GG G (Qm G (Pwi res) 0 0) 0 0 27 [(0, rv G.1 103), (1, .int x1), (2, .int x2), (3, .int x3)] [] M) {M : Mem} {x1 : Int32} {x3 : Int32} {s0 : Int32} {s1 : Int32} {res : (Int32 × Mem)} (zf : fX13_better_b103 a27 M x1 x3 s0 s1 = some res) : GG G (Qm G (Pwi res) 0 0) 0 0 103 [(0, rv G.1 103), (1, .int x1), (3, .int x3)] [.int s0, .int s1] M := by
  unfold fX13_better_b103 at zf
  refine g_iadd h dX13_better_103 ?_
  refine g_nmI zf ?_
  clear zf; intro vq13 zf
  refine g_istore_n h rfl [(2, .int vq13), (0, rv G.1 103), (1, .int x1), (3, .int x3)] (by decide) rfl dX13_better_104 ?_
  refine g_iinc h 3 3 rfl (v := x3 + 1) (congrArg (fun z => x3 + z) (by decide : Int32.ofInt (1) = (1 : Int32))) [(3, .int (x3 + 1)), (2, .int vq13), (0, rv G.1 103), (1, .int x1)] (by decide) rfl dX13_better_105 ?_
  refine g_nmV zf ?_
  clear zf; intro vq14 zf
  refine g_goto h 27 (by decide) dX13_better_108 ?_
  refine g_sub h [2, 3, 1, 0] rfl ?_
  exact zh27 _ _ _ _ _ zf

theorem kX13_better_l27 {G : GX} (h : OKm G cX13_better RX13 7 (some .int) { frames := 8, cells := 0, slots := 0, locals := 188 }) : ∀ (n : Nat) (M : Mem) (x1 : Int32) (x2 : Int32) (x3 : Int32) (res : (Int32 × Mem)), fX13_better_l27 n M x1 x2 x3 = some res → GG G (Qm G (Pwi res) 0 0) 0 0 27 [(0, rv G.1 103), (1, .int x1), (2, .int x2), (3, .int x3)] [] M := by
  intro n
  induction n with
  | zero => intro M x1 x2 x3 res zf; rw [fX13_better_l27] at zf; cases zf
  | succ n ih =>
    intro M x1 x2 x3 res zf
    rw [fX13_better_l27] at zf
    refine g_iload_n h 3 rfl dX13_better_27 ?_
    refine g_bipush h 60 (v := 60) (by decide) dX13_better_28 ?_
    refine g_ic_ge h 111 (by decide) zf dX13_better_30 ?_ ?_ <;> clear zf <;> intro zf
    · refine g_iload_n h 1 rfl dX13_better_111 ?_
      refine g_if_ne h 127 (by decide) zf dX13_better_112 ?_ ?_ <;> clear zf <;> intro zf
      · refine g_iload_n h 2 rfl dX13_better_127 ?_
        refine g_if_le h 135 (by decide) zf dX13_better_128 ?_ ?_ <;> clear zf <;> intro zf
        · refine g_iconst h 0 (v := 0) (by decide) dX13_better_135 ?_
          refine g_iload_n h 2 rfl dX13_better_136 ?_
          refine g_isub h dX13_better_137 ?_
          obtain rfl := Option.some.inj zf
          exact g_iret h rfl ⟨rfl, rfl⟩ (Nat.le_refl _) (Nat.le_refl _) dX13_better_138
        · refine g_iload_n h 2 rfl dX13_better_131 ?_
          refine g_goto h 138 (by decide) dX13_better_132 ?_
          obtain rfl := Option.some.inj zf
          exact g_iret h rfl ⟨rfl, rfl⟩ (Nat.le_refl _) (Nat.le_refl _) dX13_better_138
      · refine g_iload_n h 2 rfl dX13_better_115 ?_
        refine g_if_le h 123 (by decide) zf dX13_better_116 ?_ ?_ <;> clear zf <;> intro zf
        · refine g_iconst h 0 (v := 0) (by decide) dX13_better_123 ?_
          refine g_goto h 138 (by decide) dX13_better_124 ?_
          obtain rfl := Option.some.inj zf
          exact g_iret h rfl ⟨rfl, rfl⟩ (Nat.le_refl _) (Nat.le_refl _) dX13_better_138
        · refine g_iconst h 1 (v := 1) (by decide) dX13_better_119 ?_
          refine g_goto h 138 (by decide) dX13_better_120 ?_
          obtain rfl := Option.some.inj zf
          exact g_iret h rfl ⟨rfl, rfl⟩ (Nat.le_refl _) (Nat.le_refl _) dX13_better_138
    · refine g_aload_n h 0 rfl dX13_better_33 ?_
      refine gfX13_108 h (by decide : kd 103 = 11) dX13_better_34 ?_
      refine g_bipush h 35 (v := 35) (by decide) dX13_better_37 ?_
      refine g_iald h 186 (by decide : kd 133 = 20) (by decide) zf dX13_better_39 ?_
      clear zf; intro vq5 zf
      refine g_istore h [(4, .int vq5), (0, rv G.1 103), (1, .int x1), (2, .int x2), (3, .int x3)] (by decide) rfl dX13_better_40 ?_
      refine g_aload_n h 1 rfl dX13_better_42 ?_
      refine gfX13_108 h (by decide : kd 103 = 11) dX13_better_43 ?_
      refine g_bipush h 31 (v := 31) (by decide) dX13_better_46 ?_
      refine g_iald h 186 (by decide : kd 133 = 20) (by decide) zf dX13_better_48 ?_
      clear zf; intro vq6 zf
      refine g_aload_n h 1 rfl dX13_better_49 ?_
      refine gfX13_108 h (by decide : kd 103 = 11) dX13_better_50 ?_
      refine g_bipush h 33 (v := 33) (by decide) dX13_better_53 ?_
      refine g_iald h 186 (by decide : kd 133 = 20) (by decide) zf dX13_better_55 ?_
      clear zf; intro vq7 zf
      refine g_isub h dX13_better_56 ?_
      refine g_nmI zf ?_
      clear zf; intro vq8 zf
      refine g_istore h [(5, .int vq8), (4, .int vq5), (0, rv G.1 103), (1, .int x1), (2, .int x2), (3, .int x3)] (by decide) rfl dX13_better_57 ?_
      refine g_aload_n h 2 rfl dX13_better_59 ?_
      refine g_bipush h 31 (v := 31) (by decide) dX13_better_60 ?_
      refine g_bipush h (-2) (v := (-2)) (by decide) dX13_better_62 ?_
      have zf1 := bd_some zf
      clear zf; obtain ⟨Mq9, zq, zf⟩ := zf1
      refine g_callVwv (As := [.int 31, .int (-2)]) (rest := []) h ceX13_goesBy mlX13_404 imX13_goesBy seX13_goesBy (by rfl) (kd_lt (by rw [(by decide : kd 103 = 11)]; decide)) (ent_11 (by decide : kd 103 = 11)) rfl rfl ⟨by decide, by decide⟩ ⟨by decide, by decide⟩ rfl dX13_better_64 rfl (Nat.le_of_ble_eq_true rfl) (cmX13_goesBy zq) ?_
      refine g_aload_n h 2 rfl dX13_better_67 ?_
      refine gfX13_108 h (by decide : kd 103 = 11) dX13_better_68 ?_
      refine g_bipush h 31 (v := 31) (by decide) dX13_better_71 ?_
      refine g_iald h 186 (by decide : kd 133 = 20) (by decide) zf dX13_better_73 ?_
      clear zf; intro vq10 zf
      refine g_aload_n h 2 rfl dX13_better_74 ?_
      refine gfX13_108 h (by decide : kd 103 = 11) dX13_better_75 ?_
      refine g_bipush h 33 (v := 33) (by decide) dX13_better_78 ?_
      refine g_iald h 186 (by decide : kd 133 = 20) (by decide) zf dX13_better_80 ?_
      clear zf; intro vq11 zf
      refine g_isub h dX13_better_81 ?_
      refine g_iload h 0 rfl dX13_better_82 ?_
      refine g_isub h dX13_better_84 ?_
      refine g_nmI zf ?_
      clear zf; intro vq12 zf
      refine g_istore h [(6, .int vq12), (5, .int vq8), (4, .int vq5), (0, rv G.1 103), (1, .int x1), (2, .int x2), (3, .int x3)] (by decide) rfl dX13_better_85 ?_
      refine g_iload_n h 5 rfl dX13_better_87 ?_
      refine g_iload h 2 rfl dX13_better_88 ?_
      refine g_iconst h 1 (v := 1) (by decide) dX13_better_90 ?_
      refine g_ic_ne h 99 (by decide) zf dX13_better_91 ?_ ?_ <;> clear zf <;> intro zf
      · refine g_iconst h 0 (v := 0) (by decide) dX13_better_99 ?_
        refine g_iload h 0 rfl dX13_better_100 ?_
        refine g_isub h dX13_better_102 ?_
        refine g_sub h [3, 4, 6] rfl ?_
        exact kX13_better_b103 h ih zf
      · refine g_iload h 0 rfl dX13_better_94 ?_
        refine g_goto h 103 (by decide) dX13_better_96 ?_
        refine g_sub h [3, 4, 6] rfl ?_
        exact kX13_better_b103 h ih zf

theorem kX13_better_e0 {G : GX} (h : OKm G cX13_better RX13 7 (some .int) { frames := 8, cells := 0, slots := 0, locals := 188 }) {M : Mem} {x1 : Int32} {res : (Int32 × Mem)} (zf : fX13_better M x1 = some res) : GG G (Qm G (Pwi res) 0 0) 0 0 0 [(0, rv G.1 103), (1, .int x1)] [] M := by
  unfold fX13_better at zf
  refine g_aload_n h 0 rfl dX13_better_0 ?_
  refine g_iconst h 0 (v := 0) (by decide) dX13_better_1 ?_
  refine pfX13_141 h (by decide : kd 103 = 11) dX13_better_2 ?_
  refine g_nmM zf ?_
  clear zf; intro Mq1 zf
  refine g_aload_n h 0 rfl dX13_better_5 ?_
  refine g_iload_n h 1 rfl dX13_better_6 ?_
  refine g_iconst h 1 (v := 1) (by decide) dX13_better_7 ?_
  have zf1 := b2_some zf
  clear zf; obtain ⟨vq2, Mq3, zq, zf⟩ := zf1
  refine g_callVwi (As := [.int x1, .int 1]) (rest := []) h ceX13_isWhat mlX13_414 imX13_isWhat seX13_isWhat (by rfl) (kd_lt (by rw [(by decide : kd 103 = 11)]; decide)) (ent_11 (by decide : kd 103 = 11)) rfl rfl ⟨by decide, by decide⟩ ⟨by decide, by decide⟩ rfl dX13_better_8 rfl (Nat.le_of_ble_eq_true rfl) (cmX13_isWhat zq) ?_
  refine g_if_ne h 16 (by decide) zf dX13_better_11 ?_ ?_ <;> clear zf <;> intro zf
  · refine g_aload_n h 0 rfl dX13_better_16 ?_
    refine g_iconst h 0 (v := 0) (by decide) dX13_better_17 ?_
    refine g_bipush h 31 (v := 31) (by decide) dX13_better_18 ?_
    have zf1 := bd_some zf
    clear zf; obtain ⟨Mq4, zq, zf⟩ := zf1
    refine g_callVwv (As := [.int 0, .int 31]) (rest := []) h ceX13_lays0 mlX13_432 imX13_lays0 seX13_lays0 (by rfl) (kd_lt (by rw [(by decide : kd 103 = 11)]; decide)) (ent_11 (by decide : kd 103 = 11)) rfl rfl ⟨by decide, by decide⟩ ⟨by decide, by decide⟩ rfl dX13_better_20 rfl (Nat.le_of_ble_eq_true rfl) (cmX13_lays0 zq) ?_
    refine g_iconst h 0 (v := 0) (by decide) dX13_better_23 ?_
    refine g_istore_n h rfl [(2, .int 0), (0, rv G.1 103), (1, .int x1)] (by decide) rfl dX13_better_24 ?_
    refine g_iconst h 0 (v := 0) (by decide) dX13_better_25 ?_
    refine g_istore_n h rfl [(3, .int 0), (2, .int 0), (0, rv G.1 103), (1, .int x1)] (by decide) rfl dX13_better_26 ?_
    refine g_sub h [2, 3, 1, 0] rfl ?_
    exact kX13_better_l27 h _ _ _ _ _ _ zf
  · refine g_iconst h 0 (v := 0) (by decide) dX13_better_14 ?_
    obtain rfl := Option.some.inj zf
    exact g_iret h rfl ⟨rfl, rfl⟩ (Nat.le_refl _) (Nat.le_refl _) dX13_better_15

theorem cmX13_better {l : Launch} {w : WX} {M : Mem} {x1 : Int32} {res : (Int32 × Mem)} (zf : fX13_better M x1 = some res) : CM l w yX13_better cX13_better 7 (some .int) { frames := 8, cells := 0, slots := 0, locals := 188 } 0 0 [rv w 103, .int x1] M (Pwi res) := by
  refine CM_of (by decide) (Nat.le_of_ble_eq_true rfl) (fun G hw hl h => ?_)
  subst hw
  exact kX13_better_e0 h zf

-- X13_bits
theorem kX13_bits_l4 {G : GX} {M : Mem} (h : OKm G cX13_bits RX13 3 (some .int) { frames := 0, cells := 0, slots := 0, locals := 0 }) : ∀ (n : Nat) (x0 : Int32) (x1 : Int32) (x2 : Int32) (res : Int32), fX13_bits_l4 n x0 x1 x2 = some res → GG G (Qm G (Pri res M) 0 0) 0 0 4 [(0, .int x0), (1, .int x1), (2, .int x2)] [] M := by
  intro n
  induction n with
  | zero => intro x0 x1 x2 res zf; rw [fX13_bits_l4] at zf; cases zf
  | succ n ih =>
    intro x0 x1 x2 res zf
    rw [fX13_bits_l4] at zf
    refine g_iload_n h 2 rfl dX13_bits_4 ?_
    refine g_bipush h 14 (v := 14) (by decide) dX13_bits_5 ?_
    refine g_ic_ge h 24 (by decide) zf dX13_bits_7 ?_ ?_ <;> clear zf <;> intro zf
    · refine g_iload_n h 1 rfl dX13_bits_24 ?_
      obtain rfl := Option.some.inj zf
      exact g_iret h rfl ⟨rfl, rfl⟩ (Nat.le_refl _) (Nat.le_refl _) dX13_bits_25
    · refine g_iload_n h 1 rfl dX13_bits_10 ?_
      refine g_iload_n h 0 rfl dX13_bits_11 ?_
      refine g_iload_n h 2 rfl dX13_bits_12 ?_
      refine g_ishr h dX13_bits_13 ?_
      refine g_iconst h 1 (v := 1) (by decide) dX13_bits_14 ?_
      refine g_iand h dX13_bits_15 ?_
      refine g_iadd h dX13_bits_16 ?_
      refine g_nmI zf ?_
      clear zf; intro vq1 zf
      refine g_istore_n h rfl [(1, .int vq1), (0, .int x0), (2, .int x2)] (by decide) rfl dX13_bits_17 ?_
      refine g_iinc h 2 2 rfl (v := x2 + 1) (congrArg (fun z => x2 + z) (by decide : Int32.ofInt (1) = (1 : Int32))) [(2, .int (x2 + 1)), (1, .int vq1), (0, .int x0)] (by decide) rfl dX13_bits_18 ?_
      refine g_nmV zf ?_
      clear zf; intro vq2 zf
      refine g_goto h 4 (by decide) dX13_bits_21 ?_
      refine g_sub h [2, 1, 0] rfl ?_
      exact ih _ _ _ _ zf

theorem kX13_bits_e0 {G : GX} {M : Mem} (h : OKm G cX13_bits RX13 3 (some .int) { frames := 0, cells := 0, slots := 0, locals := 0 }) {x0 : Int32} {res : Int32} (zf : fX13_bits x0 = some res) : GG G (Qm G (Pri res M) 0 0) 0 0 0 [(0, .int x0)] [] M := by
  unfold fX13_bits at zf
  refine g_iconst h 0 (v := 0) (by decide) dX13_bits_0 ?_
  refine g_istore_n h rfl [(1, .int 0), (0, .int x0)] (by decide) rfl dX13_bits_1 ?_
  refine g_iconst h 0 (v := 0) (by decide) dX13_bits_2 ?_
  refine g_istore_n h rfl [(2, .int 0), (1, .int 0), (0, .int x0)] (by decide) rfl dX13_bits_3 ?_
  refine g_sub h [2, 1, 0] rfl ?_
  exact kX13_bits_l4 h _ _ _ _ _ zf

theorem cmX13_bits {l : Launch} {w : WX} {M : Mem} {x0 : Int32} {res : Int32} (zf : fX13_bits x0 = some res) : CM l w yX13_bits cX13_bits 3 (some .int) { frames := 0, cells := 0, slots := 0, locals := 0 } 0 0 [.int x0] M (Pri res M) := by
  refine CM_of (by decide) (Nat.le_of_ble_eq_true rfl) (fun G hw hl h => ?_)
  subst hw
  exact kX13_bits_e0 h zf

-- X13_isBought
theorem kX13_isBought_b50 {G : GX} (h : OKm G cX13_isBought RX13 4 (some .boolean) { frames := 1, cells := 0, slots := 0, locals := 22 }) {a2 : Mem → Int32 → Int32 → Option Int32} (zh2 : ∀ (M : Mem) (x1 : Int32) (x2 : Int32) (res : Int32), a2 M x1 x2 = some res → GG G (Qm G (Pri res M) 0 0) 0 0 2 [(0, rv G.1 103), (1, .int x1), (2, .int x2)] [] M) {a12 : Mem → Int32 → Int32 → Int32 → Option Int32} (zh12 : ∀ (M : Mem) (x1 : Int32) (x2 : Int32) (x3 : Int32) (res : Int32), a12 M x1 x2 x3 = some res → GG G (Qm G (Pri res M) 0 0) 0 0 12 [(0, rv G.1 103), (1, .int x1), (2, .int x2), (3, .int x3)] [] M) {M : Mem} {x1 : Int32} {x2 : Int32} {x3 : Int32} {res : Int32} (zf : fX13_isBought_b50 a2 a12 M x1 x2 x3 = some res) : GG G (Qm G (Pri res M) 0 0) 0 0 50 [(0, rv G.1 103), (1, .int x1), (2, .int x2), (3, .int x3)] [] M := by
  unfold fX13_isBought_b50 at zf
  refine g_iinc h 3 3 rfl (v := x3 + 1) (congrArg (fun z => x3 + z) (by decide : Int32.ofInt (1) = (1 : Int32))) [(3, .int (x3 + 1)), (0, rv G.1 103), (1, .int x1), (2, .int x2)] (by decide) rfl dX13_isBought_50 ?_
  refine g_nmV zf ?_
  clear zf; intro vq4 zf
  refine g_goto h 12 (by decide) dX13_isBought_53 ?_
  refine g_sub h [1, 2, 3, 0] rfl ?_
  exact zh12 _ _ _ _ _ zf

theorem kX13_isBought_l12 {G : GX} (h : OKm G cX13_isBought RX13 4 (some .boolean) { frames := 1, cells := 0, slots := 0, locals := 22 }) {a2 : Mem → Int32 → Int32 → Option Int32} (zh2 : ∀ (M : Mem) (x1 : Int32) (x2 : Int32) (res : Int32), a2 M x1 x2 = some res → GG G (Qm G (Pri res M) 0 0) 0 0 2 [(0, rv G.1 103), (1, .int x1), (2, .int x2)] [] M) : ∀ (n : Nat) (M : Mem) (x1 : Int32) (x2 : Int32) (x3 : Int32) (res : Int32), fX13_isBought_l12 a2 n M x1 x2 x3 = some res → GG G (Qm G (Pri res M) 0 0) 0 0 12 [(0, rv G.1 103), (1, .int x1), (2, .int x2), (3, .int x3)] [] M := by
  intro n
  induction n with
  | zero => intro M x1 x2 x3 res zf; rw [fX13_isBought_l12] at zf; cases zf
  | succ n ih =>
    intro M x1 x2 x3 res zf
    rw [fX13_isBought_l12] at zf
    refine g_iload_n h 3 rfl dX13_isBought_12 ?_
    refine g_aload_n h 0 rfl dX13_isBought_13 ?_
    refine gfX13_345 h (by decide : kd 103 = 11) dX13_isBought_14 ?_
    refine g_nmI zf ?_
    clear zf; intro vq2 zf
    refine g_ic_ge h 56 (by decide) zf dX13_isBought_17 ?_ ?_ <;> clear zf <;> intro zf
    · refine g_iinc h 2 2 rfl (v := x2 + 1) (congrArg (fun z => x2 + z) (by decide : Int32.ofInt (1) = (1 : Int32))) [(2, .int (x2 + 1)), (0, rv G.1 103), (1, .int x1), (3, .int x3)] (by decide) rfl dX13_isBought_56 ?_
      refine g_nmV zf ?_
      clear zf; intro vq3 zf
      refine g_goto h 2 (by decide) dX13_isBought_59 ?_
      refine g_sub h [1, 2, 0] rfl ?_
      exact zh2 _ _ _ _ zf
    · refine g_iload_n h 1 rfl dX13_isBought_20 ?_
      refine g_iload_n h 2 rfl dX13_isBought_21 ?_
      refine g_ishr h dX13_isBought_22 ?_
      refine g_iconst h 1 (v := 1) (by decide) dX13_isBought_23 ?_
      refine g_iand h dX13_isBought_24 ?_
      refine g_if_ne h 50 (by decide) zf dX13_isBought_25 ?_ ?_ <;> clear zf <;> intro zf
      · refine g_sub h [0, 1, 2, 3] rfl ?_
        exact kX13_isBought_b50 h zh2 ih zf
      · refine g_iload_n h 1 rfl dX13_isBought_28 ?_
        refine g_bipush h 7 (v := 7) (by decide) dX13_isBought_29 ?_
        refine g_iload_n h 3 rfl dX13_isBought_31 ?_
        refine g_iadd h dX13_isBought_32 ?_
        refine g_ishr h dX13_isBought_33 ?_
        refine g_iconst h 1 (v := 1) (by decide) dX13_isBought_34 ?_
        refine g_iand h dX13_isBought_35 ?_
        refine g_if_ne h 50 (by decide) zf dX13_isBought_36 ?_ ?_ <;> clear zf <;> intro zf
        · refine g_sub h [0, 1, 2, 3] rfl ?_
          exact kX13_isBought_b50 h zh2 ih zf
        · refine g_aload_n h 0 rfl dX13_isBought_39 ?_
          refine g_iload_n h 2 rfl dX13_isBought_40 ?_
          refine g_iload_n h 3 rfl dX13_isBought_41 ?_
          have zf1 := bd_some zf
          clear zf; obtain ⟨vq5, zq, zf⟩ := zf1
          refine g_callVri (As := [.int x2, .int x3]) (rest := []) h ceX13_isWin mlX13_459 imX13_isWin seX13_isWin (by rfl) (kd_lt (by rw [(by decide : kd 103 = 11)]; decide)) (ent_11 (by decide : kd 103 = 11)) rfl rfl ⟨by decide, by decide⟩ ⟨by decide, by decide⟩ rfl dX13_isBought_42 rfl (Nat.le_of_ble_eq_true rfl) (cmX13_isWin zq) ?_
          refine g_if_eq h 50 (by decide) zf dX13_isBought_45 ?_ ?_ <;> clear zf <;> intro zf
          · refine g_sub h [0, 1, 2, 3] rfl ?_
            exact kX13_isBought_b50 h zh2 ih zf
          · refine g_iconst h 0 (v := 0) (by decide) dX13_isBought_48 ?_
            obtain rfl := Option.some.inj zf
            exact g_zret h (by decide) rfl ⟨rfl, rfl⟩ (Nat.le_refl _) (Nat.le_refl _) dX13_isBought_49

theorem kX13_isBought_l2 {G : GX} (h : OKm G cX13_isBought RX13 4 (some .boolean) { frames := 1, cells := 0, slots := 0, locals := 22 }) : ∀ (n : Nat) (M : Mem) (x1 : Int32) (x2 : Int32) (res : Int32), fX13_isBought_l2 n M x1 x2 = some res → GG G (Qm G (Pri res M) 0 0) 0 0 2 [(0, rv G.1 103), (1, .int x1), (2, .int x2)] [] M := by
  intro n
  induction n with
  | zero => intro M x1 x2 res zf; rw [fX13_isBought_l2] at zf; cases zf
  | succ n ih =>
    intro M x1 x2 res zf
    rw [fX13_isBought_l2] at zf
    refine g_iload_n h 2 rfl dX13_isBought_2 ?_
    refine g_aload_n h 0 rfl dX13_isBought_3 ?_
    refine gfX13_342 h (by decide : kd 103 = 11) dX13_isBought_4 ?_
    refine g_nmI zf ?_
    clear zf; intro vq1 zf
    refine g_ic_ge h 62 (by decide) zf dX13_isBought_7 ?_ ?_ <;> clear zf <;> intro zf
    · refine g_iconst h 1 (v := 1) (by decide) dX13_isBought_62 ?_
      obtain rfl := Option.some.inj zf
      exact g_zret h (by decide) rfl ⟨rfl, rfl⟩ (Nat.le_refl _) (Nat.le_refl _) dX13_isBought_63
    · refine g_iconst h 0 (v := 0) (by decide) dX13_isBought_10 ?_
      refine g_istore_n h rfl [(3, .int 0), (0, rv G.1 103), (1, .int x1), (2, .int x2)] (by decide) rfl dX13_isBought_11 ?_
      refine g_sub h [1, 2, 3, 0] rfl ?_
      exact kX13_isBought_l12 h ih _ _ _ _ _ _ zf

theorem kX13_isBought_e0 {G : GX} (h : OKm G cX13_isBought RX13 4 (some .boolean) { frames := 1, cells := 0, slots := 0, locals := 22 }) {M : Mem} {x1 : Int32} {res : Int32} (zf : fX13_isBought M x1 = some res) : GG G (Qm G (Pri res M) 0 0) 0 0 0 [(0, rv G.1 103), (1, .int x1)] [] M := by
  unfold fX13_isBought at zf
  refine g_iconst h 0 (v := 0) (by decide) dX13_isBought_0 ?_
  refine g_istore_n h rfl [(2, .int 0), (0, rv G.1 103), (1, .int x1)] (by decide) rfl dX13_isBought_1 ?_
  refine g_sub h [1, 2, 0] rfl ?_
  exact kX13_isBought_l2 h _ _ _ _ _ zf

theorem cmX13_isBought {l : Launch} {w : WX} {M : Mem} {x1 : Int32} {res : Int32} (zf : fX13_isBought M x1 = some res) : CM l w yX13_isBought cX13_isBought 4 (some .boolean) { frames := 1, cells := 0, slots := 0, locals := 22 } 0 0 [rv w 103, .int x1] M (Pri res M) := by
  refine CM_of (by decide) (Nat.le_of_ble_eq_true rfl) (fun G hw hl h => ?_)
  subst hw
  exact kX13_isBought_e0 h zf

-- X13_bought
theorem kX13_bought_b86 {G : GX} (h : OKm G cX13_bought RX13 5 (some .int) { frames := 2, cells := 0, slots := 0, locals := 45 }) {a42 : Mem → Int32 → Int32 → Int32 → Int32 → Option (Int32 × Mem)} (zh42 : ∀ (M : Mem) (x1 : Int32) (x2 : Int32) (x3 : Int32) (x4 : Int32) (res : (Int32 × Mem)), a42 M x1 x2 x3 x4 = some res → GG G (Qm G (Pwi res) 0 0) 0 0 42 [(0, rv G.1 103), (1, .int x1), (2, .int x2), (3, .int x3), (4, .int x4)] [] M) {M : Mem} {x1 : Int32} {x2 : Int32} {x3 : Int32} {x4 : Int32} {res : (Int32 × Mem)} (zf : fX13_bought_b86 a42 M x1 x2 x3 x4 = some res) : GG G (Qm G (Pwi res) 0 0) 0 0 86 [(0, rv G.1 103), (1, .int x1), (2, .int x2), (3, .int x3), (4, .int x4)] [] M := by
  unfold fX13_bought_b86 at zf
  refine g_iinc h 4 4 rfl (v := x4 + 1) (congrArg (fun z => x4 + z) (by decide : Int32.ofInt (1) = (1 : Int32))) [(4, .int (x4 + 1)), (0, rv G.1 103), (1, .int x1), (2, .int x2), (3, .int x3)] (by decide) rfl dX13_bought_86 ?_
  refine g_nmV zf ?_
  clear zf; intro vq8 zf
  refine g_goto h 42 (by decide) dX13_bought_89 ?_
  refine g_sub h [1, 2, 3, 4, 0] rfl ?_
  exact zh42 _ _ _ _ _ _ zf

theorem kX13_bought_b74 {G : GX} (h : OKm G cX13_bought RX13 5 (some .int) { frames := 2, cells := 0, slots := 0, locals := 45 }) {a42 : Mem → Int32 → Int32 → Int32 → Int32 → Option (Int32 × Mem)} (zh42 : ∀ (M : Mem) (x1 : Int32) (x2 : Int32) (x3 : Int32) (x4 : Int32) (res : (Int32 × Mem)), a42 M x1 x2 x3 x4 = some res → GG G (Qm G (Pwi res) 0 0) 0 0 42 [(0, rv G.1 103), (1, .int x1), (2, .int x2), (3, .int x3), (4, .int x4)] [] M) {M : Mem} {x1 : Int32} {x2 : Int32} {x3 : Int32} {x4 : Int32} {res : (Int32 × Mem)} (zf : fX13_bought_b74 a42 M x1 x2 x3 x4 = some res) : GG G (Qm G (Pwi res) 0 0) 0 0 74 [(0, rv G.1 103), (1, .int x1), (2, .int x2), (3, .int x3), (4, .int x4)] [] M := by
  unfold fX13_bought_b74 at zf
  refine g_aload_n h 0 rfl dX13_bought_74 ?_
  refine g_iload h 4 rfl dX13_bought_75 ?_
  have zf1 := bd_some zf
  clear zf; obtain ⟨vq9, zq, zf⟩ := zf1
  refine g_callVri (As := [.int x4]) (rest := []) h ceX13_isBought mlX13_468 imX13_isBought seX13_isBought (by rfl) (kd_lt (by rw [(by decide : kd 103 = 11)]; decide)) (ent_11 (by decide : kd 103 = 11)) rfl rfl ⟨by decide, by decide⟩ ⟨by decide, by decide⟩ rfl dX13_bought_77 rfl (Nat.le_of_ble_eq_true rfl) (cmX13_isBought zq) ?_
  refine g_if_eq h 86 (by decide) zf dX13_bought_80 ?_ ?_ <;> clear zf <;> intro zf
  · refine g_sub h [0, 1, 2, 3, 4] rfl ?_
    exact kX13_bought_b86 h zh42 zf
  · refine g_iload h 4 rfl dX13_bought_83 ?_
    refine g_istore_n h rfl [(3, .int x4), (0, rv G.1 103), (1, .int x1), (2, .int x2), (4, .int x4)] (by decide) rfl dX13_bought_85 ?_
    refine g_sub h [1, 2, 3, 0, 4] rfl ?_
    exact kX13_bought_b86 h zh42 zf

theorem kX13_bought_l42 {G : GX} (h : OKm G cX13_bought RX13 5 (some .int) { frames := 2, cells := 0, slots := 0, locals := 45 }) : ∀ (n : Nat) (M : Mem) (x1 : Int32) (x2 : Int32) (x3 : Int32) (x4 : Int32) (res : (Int32 × Mem)), fX13_bought_l42 n M x1 x2 x3 x4 = some res → GG G (Qm G (Pwi res) 0 0) 0 0 42 [(0, rv G.1 103), (1, .int x1), (2, .int x2), (3, .int x3), (4, .int x4)] [] M := by
  intro n
  induction n with
  | zero => intro M x1 x2 x3 x4 res zf; rw [fX13_bought_l42] at zf; cases zf
  | succ n ih =>
    intro M x1 x2 x3 x4 res zf
    rw [fX13_bought_l42] at zf
    refine g_iload h 4 rfl dX13_bought_42 ?_
    refine g_iload_n h 2 rfl dX13_bought_44 ?_
    refine g_ic_gt h 92 (by decide) zf dX13_bought_45 ?_ ?_ <;> clear zf <;> intro zf
    · refine g_iload_n h 1 rfl dX13_bought_92 ?_
      refine g_if_ne h 103 (by decide) zf dX13_bought_93 ?_ ?_ <;> clear zf <;> intro zf
      · refine g_iload_n h 3 rfl dX13_bought_103 ?_
        obtain rfl := Option.some.inj zf
        exact g_iret h rfl ⟨rfl, rfl⟩ (Nat.le_refl _) (Nat.le_refl _) dX13_bought_104
      · refine g_iload_n h 3 rfl dX13_bought_96 ?_
        have zf1 := bd_some zf
        clear zf; obtain ⟨vq7, zq, zf⟩ := zf1
        refine g_callSri (As := [.int x3]) (rest := []) h ceX13_bits mlX13_465 smX13_bits rfl rfl ⟨by decide, by decide⟩ ⟨by decide, by decide⟩ rfl dX13_bought_97 rfl (Nat.le_of_ble_eq_true rfl) (cmX13_bits zq) ?_
        refine g_goto h 104 (by decide) dX13_bought_100 ?_
        obtain rfl := Option.some.inj zf
        exact g_iret h rfl ⟨rfl, rfl⟩ (Nat.le_refl _) (Nat.le_refl _) dX13_bought_104
    · refine g_iload h 4 rfl dX13_bought_48 ?_
      refine g_iload_n h 2 rfl dX13_bought_50 ?_
      refine g_iconst h (-1) (v := (-1)) (by decide) dX13_bought_51 ?_
      refine g_ixor h dX13_bought_52 ?_
      refine g_iand h dX13_bought_53 ?_
      refine g_if_ne h 86 (by decide) zf dX13_bought_54 ?_ ?_ <;> clear zf <;> intro zf
      · refine g_sub h [0, 1, 2, 3, 4] rfl ?_
        exact kX13_bought_b86 h ih zf
      · refine g_iload_n h 3 rfl dX13_bought_57 ?_
        refine g_iconst h (-1) (v := (-1)) (by decide) dX13_bought_58 ?_
        refine g_ic_eq h 74 (by decide) zf dX13_bought_59 ?_ ?_ <;> clear zf <;> intro zf
        · refine g_sub h [0, 1, 2, 3, 4] rfl ?_
          exact kX13_bought_b74 h ih zf
        · refine g_iload h 4 rfl dX13_bought_62 ?_
          have zf1 := bd_some zf
          clear zf; obtain ⟨vq10, zq, zf⟩ := zf1
          refine g_callSri (As := [.int x4]) (rest := []) h ceX13_bits mlX13_465 smX13_bits rfl rfl ⟨by decide, by decide⟩ ⟨by decide, by decide⟩ rfl dX13_bought_64 rfl (Nat.le_of_ble_eq_true rfl) (cmX13_bits zq) ?_
          refine g_iload_n h 3 rfl dX13_bought_67 ?_
          have zf1 := bd_some zf
          clear zf; obtain ⟨vq11, zq, zf⟩ := zf1
          refine g_callSri (As := [.int x3]) (rest := [.int vq10]) h ceX13_bits mlX13_465 smX13_bits rfl rfl ⟨by decide, by decide⟩ ⟨by decide, by decide⟩ rfl dX13_bought_68 rfl (Nat.le_of_ble_eq_true rfl) (cmX13_bits zq) ?_
          refine g_ic_ge h 86 (by decide) zf dX13_bought_71 ?_ ?_ <;> clear zf <;> intro zf
          · refine g_sub h [0, 1, 2, 3, 4] rfl ?_
            exact kX13_bought_b86 h ih zf
          · refine g_sub h [0, 1, 2, 3, 4] rfl ?_
            exact kX13_bought_b74 h ih zf

theorem kX13_bought_e0 {G : GX} (h : OKm G cX13_bought RX13 5 (some .int) { frames := 2, cells := 0, slots := 0, locals := 45 }) {M : Mem} {x1 : Int32} {res : (Int32 × Mem)} (zf : fX13_bought M x1 = some res) : GG G (Qm G (Pwi res) 0 0) 0 0 0 [(0, rv G.1 103), (1, .int x1)] [] M := by
  unfold fX13_bought at zf
  refine g_aload_n h 0 rfl dX13_bought_0 ?_
  refine g_iconst h 0 (v := 0) (by decide) dX13_bought_1 ?_
  refine pfX13_141 h (by decide : kd 103 = 11) dX13_bought_2 ?_
  refine g_nmM zf ?_
  clear zf; intro Mq1 zf
  refine g_aload_n h 0 rfl dX13_bought_5 ?_
  refine g_iload_n h 1 rfl dX13_bought_6 ?_
  refine g_iconst h 1 (v := 1) (by decide) dX13_bought_7 ?_
  have zf1 := b2_some zf
  clear zf; obtain ⟨vq2, Mq3, zq, zf⟩ := zf1
  refine g_callVwi (As := [.int x1, .int 1]) (rest := []) h ceX13_isWhat mlX13_414 imX13_isWhat seX13_isWhat (by rfl) (kd_lt (by rw [(by decide : kd 103 = 11)]; decide)) (ent_11 (by decide : kd 103 = 11)) rfl rfl ⟨by decide, by decide⟩ ⟨by decide, by decide⟩ rfl dX13_bought_8 rfl (Nat.le_of_ble_eq_true rfl) (cmX13_isWhat zq) ?_
  refine g_if_ne h 16 (by decide) zf dX13_bought_11 ?_ ?_ <;> clear zf <;> intro zf
  · refine g_iconst h 1 (v := 1) (by decide) dX13_bought_16 ?_
    refine g_aload_n h 0 rfl dX13_bought_17 ?_
    refine gfX13_342 h (by decide : kd 103 = 11) dX13_bought_18 ?_
    refine g_nmI zf ?_
    clear zf; intro vq4 zf
    refine g_ishl h dX13_bought_21 ?_
    refine g_iconst h 1 (v := 1) (by decide) dX13_bought_22 ?_
    refine g_isub h dX13_bought_23 ?_
    refine g_iconst h 1 (v := 1) (by decide) dX13_bought_24 ?_
    refine g_aload_n h 0 rfl dX13_bought_25 ?_
    refine gfX13_345 h (by decide : kd 103 = 11) dX13_bought_26 ?_
    refine g_nmI zf ?_
    clear zf; intro vq5 zf
    refine g_ishl h dX13_bought_29 ?_
    refine g_iconst h 1 (v := 1) (by decide) dX13_bought_30 ?_
    refine g_isub h dX13_bought_31 ?_
    refine g_bipush h 7 (v := 7) (by decide) dX13_bought_32 ?_
    refine g_ishl h dX13_bought_34 ?_
    refine g_ior h dX13_bought_35 ?_
    refine g_nmI zf ?_
    clear zf; intro vq6 zf
    refine g_istore_n h rfl [(2, .int vq6), (0, rv G.1 103), (1, .int x1)] (by decide) rfl dX13_bought_36 ?_
    refine g_iconst h (-1) (v := (-1)) (by decide) dX13_bought_37 ?_
    refine g_istore_n h rfl [(3, .int (-1)), (2, .int vq6), (0, rv G.1 103), (1, .int x1)] (by decide) rfl dX13_bought_38 ?_
    refine g_iconst h 0 (v := 0) (by decide) dX13_bought_39 ?_
    refine g_istore h [(4, .int 0), (3, .int (-1)), (2, .int vq6), (0, rv G.1 103), (1, .int x1)] (by decide) rfl dX13_bought_40 ?_
    refine g_sub h [3, 4, 2, 1, 0] rfl ?_
    exact kX13_bought_l42 h _ _ _ _ _ _ _ zf
  · refine g_iconst h 0 (v := 0) (by decide) dX13_bought_14 ?_
    obtain rfl := Option.some.inj zf
    exact g_iret h rfl ⟨rfl, rfl⟩ (Nat.le_refl _) (Nat.le_refl _) dX13_bought_15

theorem cmX13_bought {l : Launch} {w : WX} {M : Mem} {x1 : Int32} {res : (Int32 × Mem)} (zf : fX13_bought M x1 = some res) : CM l w yX13_bought cX13_bought 5 (some .int) { frames := 2, cells := 0, slots := 0, locals := 45 } 0 0 [rv w 103, .int x1] M (Pwi res) := by
  refine CM_of (by decide) (Nat.le_of_ble_eq_true rfl) (fun G hw hl h => ?_)
  subst hw
  exact kX13_bought_e0 h zf

