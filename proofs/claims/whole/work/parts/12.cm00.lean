-- J6_bitCount_0f7a4
theorem kJ6_bitCount_0f7a4_e0 {G : GX} {M : Mem} (h : OKm G cJ6_bitCount_0f7a4 RJ6 1 (some .int) { frames := 0, cells := 0, slots := 0, locals := 0 }) {x0 : Int32} {res : Int32} (zf : fJ6_bitCount_0f7a4 x0 = some res) : GG G (Qm G (Pri res M) 0 0) 0 0 0 [(0, .int x0)] [] M := by
  unfold fJ6_bitCount_0f7a4 at zf
  refine g_iload_n h 0 rfl dJ6_bitCount_0f7a4_0 ?_
  refine g_iload_n h 0 rfl dJ6_bitCount_0f7a4_1 ?_
  refine g_iconst h 1 (v := 1) (by decide) dJ6_bitCount_0f7a4_2 ?_
  refine g_iushr h dJ6_bitCount_0f7a4_3 ?_
  refine g_ldcw h 265 (v := 1431655765) coJ6_265 dJ6_bitCount_0f7a4_4 ?_
  refine g_iand h dJ6_bitCount_0f7a4_7 ?_
  refine g_isub h dJ6_bitCount_0f7a4_8 ?_
  refine g_nmI zf ?_
  clear zf; intro vq1 zf
  refine g_istore_n h rfl [(0, .int vq1)] (by decide) rfl dJ6_bitCount_0f7a4_9 ?_
  refine g_iload_n h 0 rfl dJ6_bitCount_0f7a4_10 ?_
  refine g_ldcw h 266 (v := 858993459) coJ6_266 dJ6_bitCount_0f7a4_11 ?_
  refine g_iand h dJ6_bitCount_0f7a4_14 ?_
  refine g_iload_n h 0 rfl dJ6_bitCount_0f7a4_15 ?_
  refine g_iconst h 2 (v := 2) (by decide) dJ6_bitCount_0f7a4_16 ?_
  refine g_iushr h dJ6_bitCount_0f7a4_17 ?_
  refine g_ldcw h 266 (v := 858993459) coJ6_266 dJ6_bitCount_0f7a4_18 ?_
  refine g_iand h dJ6_bitCount_0f7a4_21 ?_
  refine g_iadd h dJ6_bitCount_0f7a4_22 ?_
  refine g_nmI zf ?_
  clear zf; intro vq2 zf
  refine g_istore_n h rfl [(0, .int vq2)] (by decide) rfl dJ6_bitCount_0f7a4_23 ?_
  refine g_iload_n h 0 rfl dJ6_bitCount_0f7a4_24 ?_
  refine g_iload_n h 0 rfl dJ6_bitCount_0f7a4_25 ?_
  refine g_iconst h 4 (v := 4) (by decide) dJ6_bitCount_0f7a4_26 ?_
  refine g_iushr h dJ6_bitCount_0f7a4_27 ?_
  refine g_iadd h dJ6_bitCount_0f7a4_28 ?_
  refine g_ldcw h 267 (v := 252645135) coJ6_267 dJ6_bitCount_0f7a4_29 ?_
  refine g_iand h dJ6_bitCount_0f7a4_32 ?_
  refine g_nmI zf ?_
  clear zf; intro vq3 zf
  refine g_istore_n h rfl [(0, .int vq3)] (by decide) rfl dJ6_bitCount_0f7a4_33 ?_
  refine g_iload_n h 0 rfl dJ6_bitCount_0f7a4_34 ?_
  refine g_iload_n h 0 rfl dJ6_bitCount_0f7a4_35 ?_
  refine g_bipush h 8 (v := 8) (by decide) dJ6_bitCount_0f7a4_36 ?_
  refine g_iushr h dJ6_bitCount_0f7a4_38 ?_
  refine g_iadd h dJ6_bitCount_0f7a4_39 ?_
  refine g_nmI zf ?_
  clear zf; intro vq4 zf
  refine g_istore_n h rfl [(0, .int vq4)] (by decide) rfl dJ6_bitCount_0f7a4_40 ?_
  refine g_iload_n h 0 rfl dJ6_bitCount_0f7a4_41 ?_
  refine g_iload_n h 0 rfl dJ6_bitCount_0f7a4_42 ?_
  refine g_bipush h 16 (v := 16) (by decide) dJ6_bitCount_0f7a4_43 ?_
  refine g_iushr h dJ6_bitCount_0f7a4_45 ?_
  refine g_iadd h dJ6_bitCount_0f7a4_46 ?_
  refine g_nmI zf ?_
  clear zf; intro vq5 zf
  refine g_istore_n h rfl [(0, .int vq5)] (by decide) rfl dJ6_bitCount_0f7a4_47 ?_
  refine g_iload_n h 0 rfl dJ6_bitCount_0f7a4_48 ?_
  refine g_bipush h 63 (v := 63) (by decide) dJ6_bitCount_0f7a4_49 ?_
  refine g_iand h dJ6_bitCount_0f7a4_51 ?_
  obtain rfl := Option.some.inj zf
  exact g_iret h rfl ⟨rfl, rfl⟩ (Nat.le_refl _) (Nat.le_refl _) dJ6_bitCount_0f7a4_52

theorem cmJ6_bitCount_0f7a4 {l : Launch} {w : WX} {M : Mem} {x0 : Int32} {res : Int32} (zf : fJ6_bitCount_0f7a4 x0 = some res) : CM l w yJ6_bitCount_0f7a4 cJ6_bitCount_0f7a4 1 (some .int) { frames := 0, cells := 0, slots := 0, locals := 0 } 0 0 [.int x0] M (Pri res M) := by
  refine CM_of (by decide) (Nat.le_of_ble_eq_true rfl) (fun G hw hl h => ?_)
  subst hw
  exact kJ6_bitCount_0f7a4_e0 h zf

-- X1_become
theorem kX1_become_e0 {G : GX} (h : OKm G cX1_become RX1 2 none { frames := 1, cells := 0, slots := 0, locals := 200 }) {M : Mem} {x0 : Nat} {x1 : Nat} {res : Mem} (zf : fX1_become M x0 x1 = some res) : GG G (Qm G (Pwv res) 0 0) 0 0 0 [(0, rv G.1 x0), (1, rv G.1 x1)] [] M := by
  unfold fX1_become at zf
  have zf1 := pre_ck zf
  clear zf; obtain ⟨zk_x0, zf⟩ := zf1
  have zf1 := pre_ck zf
  clear zf; obtain ⟨zk_x1, zf⟩ := zf1
  refine g_aload_n h 0 rfl dX1_become_0 ?_
  refine g_aload_n h 1 rfl dX1_become_1 ?_
  refine gfX1_9 h zk_x1 dX1_become_2 ?_
  refine g_nmI zf ?_
  clear zf; intro vq1 zf
  refine pfX1_9 h zk_x0 dX1_become_5 ?_
  refine g_nmM zf ?_
  clear zf; intro Mq2 zf
  refine g_aload_n h 1 rfl dX1_become_8 ?_
  refine gfX1_17 h zk_x1 dX1_become_9 ?_
  refine g_iconst h 0 (v := 0) (by decide) dX1_become_12 ?_
  refine g_aload_n h 0 rfl dX1_become_13 ?_
  refine gfX1_17 h zk_x0 dX1_become_14 ?_
  refine g_iconst h 0 (v := 0) (by decide) dX1_become_17 ?_
  refine g_aload_n h 0 rfl dX1_become_18 ?_
  refine gfX1_9 h zk_x0 dX1_become_19 ?_
  refine g_nmI zf ?_
  clear zf; intro vq3 zf
  refine g_bipush h 31 (v := 31) (by decide) dX1_become_22 ?_
  refine g_imul h dX1_become_24 ?_
  refine g_copy h mlX1_21 natCopy smCopy initSystem (kf0_1 zk_x1) (lf0_1 zk_x1) (kf0_1 zk_x0) (lf0_1 zk_x0) zf (by decide) (Nat.le_of_ble_eq_true rfl) dX1_become_25 ?_
  clear zf; intro Mq4 zf
  obtain rfl := Option.some.inj zf
  exact g_vret h rfl ⟨rfl, rfl⟩ (Nat.le_refl _) (Nat.le_refl _) dX1_become_28

theorem cmX1_become {l : Launch} {w : WX} {M : Mem} {x0 : Nat} {x1 : Nat} {res : Mem} (zf : fX1_become M x0 x1 = some res) : CM l w yX1_become cX1_become 2 none { frames := 1, cells := 0, slots := 0, locals := 200 } 0 0 [rv w x0, rv w x1] M (Pwv res) := by
  refine CM_of (by decide) (Nat.le_of_ble_eq_true rfl) (fun G hw hl h => ?_)
  subst hw
  exact kX1_become_e0 h zf

-- X3_write
theorem kX3_write_e0 {G : GX} (h : OKm G cX3_write RX3 3 none { frames := 1, cells := 0, slots := 0, locals := 200 }) {M : Mem} {x0 : Nat} {x1 : Nat} {x2 : Int32} {res : Mem} (zf : fX3_write M x0 x1 x2 = some res) : GG G (Qm G (Pwv res) 0 0) 0 0 0 [(0, rv G.1 x0), (1, rv G.1 x1), (2, .int x2)] [] M := by
  unfold fX3_write at zf
  have zf1 := pre_ck zf
  clear zf; obtain ⟨zk_x0, zf⟩ := zf1
  have zf1 := pre_ck zf
  clear zf; obtain ⟨zk_x1, zf⟩ := zf1
  refine g_iload_n h 2 rfl dX3_write_0 ?_
  refine g_if_lt h 13 (by decide) zf dX3_write_1 ?_ ?_ <;> clear zf <;> intro zf
  · obtain rfl := Option.some.inj zf
    exact g_vret h rfl ⟨rfl, rfl⟩ (Nat.le_refl _) (Nat.le_refl _) dX3_write_13
  · refine g_iload_n h 2 rfl dX3_write_4 ?_
    refine g_bipush h 31 (v := 31) (by decide) dX3_write_5 ?_
    refine g_iadd h dX3_write_7 ?_
    refine g_aload_n h 1 rfl dX3_write_8 ?_
    refine g_ilen h (ln x1) (z := Int32.ofNat (ln x1)) zk_x1 rfl rfl dX3_write_9 ?_
    refine g_ic_le h 14 (by decide) zf dX3_write_10 ?_ ?_ <;> clear zf <;> intro zf
    · refine g_aload_n h 1 rfl dX3_write_14 ?_
      refine g_iload_n h 2 rfl dX3_write_15 ?_
      refine g_aload_n h 0 rfl dX3_write_16 ?_
      refine gfX3_27 h zk_x0 dX3_write_17 ?_
      refine g_nmI zf ?_
      clear zf; intro vq1 zf
      refine g_iast h (ln x1) zk_x1 rfl zf dX3_write_20 ?_
      clear zf; intro Mq2 zf
      refine g_aload_n h 1 rfl dX3_write_21 ?_
      refine g_iload_n h 2 rfl dX3_write_22 ?_
      refine g_iconst h 1 (v := 1) (by decide) dX3_write_23 ?_
      refine g_iadd h dX3_write_24 ?_
      refine g_aload_n h 0 rfl dX3_write_25 ?_
      refine gfX3_31 h zk_x0 dX3_write_26 ?_
      refine g_nmI zf ?_
      clear zf; intro vq3 zf
      refine g_iast h (ln x1) zk_x1 rfl zf dX3_write_29 ?_
      clear zf; intro Mq4 zf
      refine g_aload_n h 1 rfl dX3_write_30 ?_
      refine g_iload_n h 2 rfl dX3_write_31 ?_
      refine g_iconst h 2 (v := 2) (by decide) dX3_write_32 ?_
      refine g_iadd h dX3_write_33 ?_
      refine g_aload_n h 0 rfl dX3_write_34 ?_
      refine gfX3_34 h zk_x0 dX3_write_35 ?_
      refine g_nmI zf ?_
      clear zf; intro vq5 zf
      refine g_iast h (ln x1) zk_x1 rfl zf dX3_write_38 ?_
      clear zf; intro Mq6 zf
      refine g_aload_n h 1 rfl dX3_write_39 ?_
      refine g_iload_n h 2 rfl dX3_write_40 ?_
      refine g_iconst h 3 (v := 3) (by decide) dX3_write_41 ?_
      refine g_iadd h dX3_write_42 ?_
      refine g_aload_n h 0 rfl dX3_write_43 ?_
      refine gfX3_37 h zk_x0 dX3_write_44 ?_
      refine g_nmI zf ?_
      clear zf; intro vq7 zf
      refine g_iast h (ln x1) zk_x1 rfl zf dX3_write_47 ?_
      clear zf; intro Mq8 zf
      refine g_aload_n h 1 rfl dX3_write_48 ?_
      refine g_iload_n h 2 rfl dX3_write_49 ?_
      refine g_iconst h 4 (v := 4) (by decide) dX3_write_50 ?_
      refine g_iadd h dX3_write_51 ?_
      refine g_aload_n h 0 rfl dX3_write_52 ?_
      refine gfX3_40 h zk_x0 dX3_write_53 ?_
      refine g_nmI zf ?_
      clear zf; intro vq9 zf
      refine g_iast h (ln x1) zk_x1 rfl zf dX3_write_56 ?_
      clear zf; intro Mq10 zf
      refine g_aload_n h 1 rfl dX3_write_57 ?_
      refine g_iload_n h 2 rfl dX3_write_58 ?_
      refine g_iconst h 5 (v := 5) (by decide) dX3_write_59 ?_
      refine g_iadd h dX3_write_60 ?_
      refine g_aload_n h 0 rfl dX3_write_61 ?_
      refine gfX3_43 h zk_x0 dX3_write_62 ?_
      refine g_nmI zf ?_
      clear zf; intro vq11 zf
      refine g_iast h (ln x1) zk_x1 rfl zf dX3_write_65 ?_
      clear zf; intro Mq12 zf
      refine g_aload_n h 1 rfl dX3_write_66 ?_
      refine g_iload_n h 2 rfl dX3_write_67 ?_
      refine g_bipush h 6 (v := 6) (by decide) dX3_write_68 ?_
      refine g_iadd h dX3_write_70 ?_
      refine g_aload_n h 0 rfl dX3_write_71 ?_
      refine gfX3_46 h zk_x0 dX3_write_72 ?_
      refine g_nmI zf ?_
      clear zf; intro vq13 zf
      refine g_iast h (ln x1) zk_x1 rfl zf dX3_write_75 ?_
      clear zf; intro Mq14 zf
      refine g_aload_n h 1 rfl dX3_write_76 ?_
      refine g_iload_n h 2 rfl dX3_write_77 ?_
      refine g_bipush h 7 (v := 7) (by decide) dX3_write_78 ?_
      refine g_iadd h dX3_write_80 ?_
      refine g_aload_n h 0 rfl dX3_write_81 ?_
      refine gfX3_49 h zk_x0 dX3_write_82 ?_
      refine g_nmI zf ?_
      clear zf; intro vq15 zf
      refine g_iast h (ln x1) zk_x1 rfl zf dX3_write_85 ?_
      clear zf; intro Mq16 zf
      refine g_aload_n h 1 rfl dX3_write_86 ?_
      refine g_iload_n h 2 rfl dX3_write_87 ?_
      refine g_bipush h 8 (v := 8) (by decide) dX3_write_88 ?_
      refine g_iadd h dX3_write_90 ?_
      refine g_aload_n h 0 rfl dX3_write_91 ?_
      refine gfX3_52 h zk_x0 dX3_write_92 ?_
      refine g_nmI zf ?_
      clear zf; intro vq17 zf
      refine g_iast h (ln x1) zk_x1 rfl zf dX3_write_95 ?_
      clear zf; intro Mq18 zf
      refine g_aload_n h 0 rfl dX3_write_96 ?_
      refine gfX3_9 h zk_x0 dX3_write_97 ?_
      refine g_iconst h 0 (v := 0) (by decide) dX3_write_100 ?_
      refine g_aload_n h 1 rfl dX3_write_101 ?_
      refine g_iload_n h 2 rfl dX3_write_102 ?_
      refine g_bipush h 9 (v := 9) (by decide) dX3_write_103 ?_
      refine g_iadd h dX3_write_105 ?_
      refine g_iconst h 2 (v := 2) (by decide) dX3_write_106 ?_
      refine g_copy h mlX3_59 natCopy smCopy initSystem (kf2_1 zk_x0) (lf2_1 zk_x0) zk_x1 rfl zf (by decide) (Nat.le_of_ble_eq_true rfl) dX3_write_107 ?_
      clear zf; intro Mq19 zf
      refine g_aload_n h 0 rfl dX3_write_110 ?_
      refine gfX3_15 h zk_x0 dX3_write_111 ?_
      refine g_iconst h 0 (v := 0) (by decide) dX3_write_114 ?_
      refine g_aload_n h 1 rfl dX3_write_115 ?_
      refine g_iload_n h 2 rfl dX3_write_116 ?_
      refine g_bipush h 11 (v := 11) (by decide) dX3_write_117 ?_
      refine g_iadd h dX3_write_119 ?_
      refine g_iconst h 2 (v := 2) (by decide) dX3_write_120 ?_
      refine g_copy h mlX3_59 natCopy smCopy initSystem (kf2_2 zk_x0) (lf2_2 zk_x0) zk_x1 rfl zf (by decide) (Nat.le_of_ble_eq_true rfl) dX3_write_121 ?_
      clear zf; intro Mq20 zf
      refine g_aload_n h 0 rfl dX3_write_124 ?_
      refine gfX3_18 h zk_x0 dX3_write_125 ?_
      refine g_iconst h 0 (v := 0) (by decide) dX3_write_128 ?_
      refine g_aload_n h 1 rfl dX3_write_129 ?_
      refine g_iload_n h 2 rfl dX3_write_130 ?_
      refine g_bipush h 13 (v := 13) (by decide) dX3_write_131 ?_
      refine g_iadd h dX3_write_133 ?_
      refine g_bipush h 12 (v := 12) (by decide) dX3_write_134 ?_
      refine g_copy h mlX3_59 natCopy smCopy initSystem (kf2_3 zk_x0) (lf2_3 zk_x0) zk_x1 rfl zf (by decide) (Nat.le_of_ble_eq_true rfl) dX3_write_136 ?_
      clear zf; intro Mq21 zf
      refine g_aload_n h 0 rfl dX3_write_139 ?_
      refine gfX3_21 h zk_x0 dX3_write_140 ?_
      refine g_iconst h 0 (v := 0) (by decide) dX3_write_143 ?_
      refine g_aload_n h 1 rfl dX3_write_144 ?_
      refine g_iload_n h 2 rfl dX3_write_145 ?_
      refine g_bipush h 13 (v := 13) (by decide) dX3_write_146 ?_
      refine g_iadd h dX3_write_148 ?_
      refine g_bipush h 12 (v := 12) (by decide) dX3_write_149 ?_
      refine g_iadd h dX3_write_151 ?_
      refine g_bipush h 6 (v := 6) (by decide) dX3_write_152 ?_
      refine g_copy h mlX3_59 natCopy smCopy initSystem (kf2_4 zk_x0) (lf2_4 zk_x0) zk_x1 rfl zf (by decide) (Nat.le_of_ble_eq_true rfl) dX3_write_154 ?_
      clear zf; intro Mq22 zf
      obtain rfl := Option.some.inj zf
      exact g_vret h rfl ⟨rfl, rfl⟩ (Nat.le_refl _) (Nat.le_refl _) dX3_write_157
    · obtain rfl := Option.some.inj zf
      exact g_vret h rfl ⟨rfl, rfl⟩ (Nat.le_refl _) (Nat.le_refl _) dX3_write_13

theorem cmX3_write {l : Launch} {w : WX} {M : Mem} {x0 : Nat} {x1 : Nat} {x2 : Int32} {res : Mem} (zf : fX3_write M x0 x1 x2 = some res) : CM l w yX3_write cX3_write 3 none { frames := 1, cells := 0, slots := 0, locals := 200 } 0 0 [rv w x0, rv w x1, .int x2] M (Pwv res) := by
  refine CM_of (by decide) (Nat.le_of_ble_eq_true rfl) (fun G hw hl h => ?_)
  subst hw
  exact kX3_write_e0 h zf

-- X1_keep
theorem kX1_keep_b32 {G : GX} (h : OKm G cX1_keep RX1 2 none { frames := 2, cells := 0, slots := 0, locals := 222 }) {M : Mem} {x0 : Nat} {x1 : Nat} {res : Mem} (zf : fX1_keep_b32 M x0 x1 = some res) : GG G (Qm G (Pwv res) 0 0) 0 0 32 [(0, rv G.1 x0), (1, rv G.1 x1)] [] M := by
  unfold fX1_keep_b32 at zf
  have zf1 := pre_ck zf
  clear zf; obtain ⟨zk_x0, zf⟩ := zf1
  have zf1 := pre_ck zf
  clear zf; obtain ⟨zk_x1, zf⟩ := zf1
  refine g_aload_n h 1 rfl dX1_keep_32 ?_
  refine g_aload_n h 0 rfl dX1_keep_33 ?_
  refine gfX1_17 h zk_x0 dX1_keep_34 ?_
  refine g_aload_n h 0 rfl dX1_keep_37 ?_
  refine gfX1_9 h zk_x0 dX1_keep_38 ?_
  refine g_nmI zf ?_
  clear zf; intro vq2 zf
  refine g_bipush h 31 (v := 31) (by decide) dX1_keep_41 ?_
  refine g_imul h dX1_keep_43 ?_
  have zf1 := bd_some zf
  clear zf; obtain ⟨Mq3, zq, zf⟩ := zf1
  refine g_callVwv (As := [rv G.1 (x0 + 1), .int (vq2 * 31)]) (rest := []) h ceX3_write mlX1_27 imX3_write seX3_write (by rfl) (kd_lt (by rw [zk_x1]; decide)) (ent_2 zk_x1) rfl rfl ⟨by decide, by decide⟩ ⟨by decide, by decide⟩ rfl dX1_keep_44 rfl (Nat.le_of_ble_eq_true rfl) (cmX3_write zq) ?_
  refine g_aload_n h 0 rfl dX1_keep_47 ?_
  refine g_dup h rfl dX1_keep_48 ?_
  refine gfX1_9 h zk_x0 dX1_keep_49 ?_
  refine g_nmI zf ?_
  clear zf; intro vq4 zf
  refine g_iconst h 1 (v := 1) (by decide) dX1_keep_52 ?_
  refine g_iadd h dX1_keep_53 ?_
  refine pfX1_9 h zk_x0 dX1_keep_54 ?_
  refine g_nmM zf ?_
  clear zf; intro Mq5 zf
  obtain rfl := Option.some.inj zf
  exact g_vret h rfl ⟨rfl, rfl⟩ (Nat.le_refl _) (Nat.le_refl _) dX1_keep_57

theorem kX1_keep_e0 {G : GX} (h : OKm G cX1_keep RX1 2 none { frames := 2, cells := 0, slots := 0, locals := 222 }) {M : Mem} {x0 : Nat} {x1 : Nat} {res : Mem} (zf : fX1_keep M x0 x1 = some res) : GG G (Qm G (Pwv res) 0 0) 0 0 0 [(0, rv G.1 x0), (1, rv G.1 x1)] [] M := by
  unfold fX1_keep at zf
  have zf1 := pre_ck zf
  clear zf; obtain ⟨zk_x0, zf⟩ := zf1
  have zf1 := pre_ck zf
  clear zf; obtain ⟨zk_x1, zf⟩ := zf1
  refine g_aload_n h 0 rfl dX1_keep_0 ?_
  refine gfX1_9 h zk_x0 dX1_keep_1 ?_
  refine g_nmI zf ?_
  clear zf; intro vq1 zf
  refine g_bipush h 40 (v := 40) (by decide) dX1_keep_4 ?_
  refine g_ic_lt h 32 (by decide) zf dX1_keep_6 ?_ ?_ <;> clear zf <;> intro zf
  · refine g_sub h [0, 1] rfl ?_
    exact kX1_keep_b32 h zf
  · refine g_aload_n h 0 rfl dX1_keep_9 ?_
    refine gfX1_17 h zk_x0 dX1_keep_10 ?_
    refine g_bipush h 31 (v := 31) (by decide) dX1_keep_13 ?_
    refine g_aload_n h 0 rfl dX1_keep_15 ?_
    refine gfX1_17 h zk_x0 dX1_keep_16 ?_
    refine g_iconst h 0 (v := 0) (by decide) dX1_keep_19 ?_
    refine g_sipush h 1209 (v := 1209) (by decide) dX1_keep_20 ?_
    refine g_copy h mlX1_21 natCopy smCopy initSystem (kf0_1 zk_x0) (lf0_1 zk_x0) (kf0_1 zk_x0) (lf0_1 zk_x0) zf (by decide) (Nat.le_of_ble_eq_true rfl) dX1_keep_23 ?_
    clear zf; intro Mq6 zf
    refine g_aload_n h 0 rfl dX1_keep_26 ?_
    refine g_bipush h 39 (v := 39) (by decide) dX1_keep_27 ?_
    refine pfX1_9 h zk_x0 dX1_keep_29 ?_
    refine g_nmM zf ?_
    clear zf; intro Mq7 zf
    refine g_sub h [0, 1] rfl ?_
    exact kX1_keep_b32 h zf

theorem cmX1_keep {l : Launch} {w : WX} {M : Mem} {x0 : Nat} {x1 : Nat} {res : Mem} (zf : fX1_keep M x0 x1 = some res) : CM l w yX1_keep cX1_keep 2 none { frames := 2, cells := 0, slots := 0, locals := 222 } 0 0 [rv w x0, rv w x1] M (Pwv res) := by
  refine CM_of (by decide) (Nat.le_of_ble_eq_true rfl) (fun G hw hl h => ?_)
  subst hw
  exact kX1_keep_e0 h zf

-- X3_read
theorem kX3_read_e0 {G : GX} (h : OKm G cX3_read RX3 3 none { frames := 1, cells := 0, slots := 0, locals := 200 }) {M : Mem} {x0 : Nat} {x1 : Nat} {x2 : Int32} {res : Mem} (zf : fX3_read M x0 x1 x2 = some res) : GG G (Qm G (Pwv res) 0 0) 0 0 0 [(0, rv G.1 x0), (1, rv G.1 x1), (2, .int x2)] [] M := by
  unfold fX3_read at zf
  have zf1 := pre_ck zf
  clear zf; obtain ⟨zk_x0, zf⟩ := zf1
  have zf1 := pre_ck zf
  clear zf; obtain ⟨zk_x1, zf⟩ := zf1
  refine g_iload_n h 2 rfl dX3_read_0 ?_
  refine g_if_lt h 13 (by decide) zf dX3_read_1 ?_ ?_ <;> clear zf <;> intro zf
  · obtain rfl := Option.some.inj zf
    exact g_vret h rfl ⟨rfl, rfl⟩ (Nat.le_refl _) (Nat.le_refl _) dX3_read_13
  · refine g_iload_n h 2 rfl dX3_read_4 ?_
    refine g_bipush h 31 (v := 31) (by decide) dX3_read_5 ?_
    refine g_iadd h dX3_read_7 ?_
    refine g_aload_n h 1 rfl dX3_read_8 ?_
    refine g_ilen h (ln x1) (z := Int32.ofNat (ln x1)) zk_x1 rfl rfl dX3_read_9 ?_
    refine g_ic_le h 14 (by decide) zf dX3_read_10 ?_ ?_ <;> clear zf <;> intro zf
    · refine g_aload_n h 0 rfl dX3_read_14 ?_
      refine g_aload_n h 1 rfl dX3_read_15 ?_
      refine g_iload_n h 2 rfl dX3_read_16 ?_
      refine g_iald h (ln x1) zk_x1 rfl zf dX3_read_17 ?_
      clear zf; intro vq1 zf
      refine pfX3_27 h zk_x0 dX3_read_18 ?_
      refine g_nmM zf ?_
      clear zf; intro Mq2 zf
      refine g_aload_n h 0 rfl dX3_read_21 ?_
      refine g_aload_n h 1 rfl dX3_read_22 ?_
      refine g_iload_n h 2 rfl dX3_read_23 ?_
      refine g_iconst h 1 (v := 1) (by decide) dX3_read_24 ?_
      refine g_iadd h dX3_read_25 ?_
      refine g_iald h (ln x1) zk_x1 rfl zf dX3_read_26 ?_
      clear zf; intro vq3 zf
      refine pfX3_31 h zk_x0 dX3_read_27 ?_
      refine g_nmM zf ?_
      clear zf; intro Mq4 zf
      refine g_aload_n h 0 rfl dX3_read_30 ?_
      refine g_aload_n h 1 rfl dX3_read_31 ?_
      refine g_iload_n h 2 rfl dX3_read_32 ?_
      refine g_iconst h 2 (v := 2) (by decide) dX3_read_33 ?_
      refine g_iadd h dX3_read_34 ?_
      refine g_iald h (ln x1) zk_x1 rfl zf dX3_read_35 ?_
      clear zf; intro vq5 zf
      refine pfX3_34 h zk_x0 dX3_read_36 ?_
      refine g_nmM zf ?_
      clear zf; intro Mq6 zf
      refine g_aload_n h 0 rfl dX3_read_39 ?_
      refine g_aload_n h 1 rfl dX3_read_40 ?_
      refine g_iload_n h 2 rfl dX3_read_41 ?_
      refine g_iconst h 3 (v := 3) (by decide) dX3_read_42 ?_
      refine g_iadd h dX3_read_43 ?_
      refine g_iald h (ln x1) zk_x1 rfl zf dX3_read_44 ?_
      clear zf; intro vq7 zf
      refine pfX3_37 h zk_x0 dX3_read_45 ?_
      refine g_nmM zf ?_
      clear zf; intro Mq8 zf
      refine g_aload_n h 0 rfl dX3_read_48 ?_
      refine g_aload_n h 1 rfl dX3_read_49 ?_
      refine g_iload_n h 2 rfl dX3_read_50 ?_
      refine g_iconst h 4 (v := 4) (by decide) dX3_read_51 ?_
      refine g_iadd h dX3_read_52 ?_
      refine g_iald h (ln x1) zk_x1 rfl zf dX3_read_53 ?_
      clear zf; intro vq9 zf
      refine pfX3_40 h zk_x0 dX3_read_54 ?_
      refine g_nmM zf ?_
      clear zf; intro Mq10 zf
      refine g_aload_n h 0 rfl dX3_read_57 ?_
      refine g_aload_n h 1 rfl dX3_read_58 ?_
      refine g_iload_n h 2 rfl dX3_read_59 ?_
      refine g_iconst h 5 (v := 5) (by decide) dX3_read_60 ?_
      refine g_iadd h dX3_read_61 ?_
      refine g_iald h (ln x1) zk_x1 rfl zf dX3_read_62 ?_
      clear zf; intro vq11 zf
      refine pfX3_43 h zk_x0 dX3_read_63 ?_
      refine g_nmM zf ?_
      clear zf; intro Mq12 zf
      refine g_aload_n h 0 rfl dX3_read_66 ?_
      refine g_aload_n h 1 rfl dX3_read_67 ?_
      refine g_iload_n h 2 rfl dX3_read_68 ?_
      refine g_bipush h 6 (v := 6) (by decide) dX3_read_69 ?_
      refine g_iadd h dX3_read_71 ?_
      refine g_iald h (ln x1) zk_x1 rfl zf dX3_read_72 ?_
      clear zf; intro vq13 zf
      refine pfX3_46 h zk_x0 dX3_read_73 ?_
      refine g_nmM zf ?_
      clear zf; intro Mq14 zf
      refine g_aload_n h 0 rfl dX3_read_76 ?_
      refine g_aload_n h 1 rfl dX3_read_77 ?_
      refine g_iload_n h 2 rfl dX3_read_78 ?_
      refine g_bipush h 7 (v := 7) (by decide) dX3_read_79 ?_
      refine g_iadd h dX3_read_81 ?_
      refine g_iald h (ln x1) zk_x1 rfl zf dX3_read_82 ?_
      clear zf; intro vq15 zf
      refine pfX3_49 h zk_x0 dX3_read_83 ?_
      refine g_nmM zf ?_
      clear zf; intro Mq16 zf
      refine g_aload_n h 0 rfl dX3_read_86 ?_
      refine g_aload_n h 1 rfl dX3_read_87 ?_
      refine g_iload_n h 2 rfl dX3_read_88 ?_
      refine g_bipush h 8 (v := 8) (by decide) dX3_read_89 ?_
      refine g_iadd h dX3_read_91 ?_
      refine g_iald h (ln x1) zk_x1 rfl zf dX3_read_92 ?_
      clear zf; intro vq17 zf
      refine pfX3_52 h zk_x0 dX3_read_93 ?_
      refine g_nmM zf ?_
      clear zf; intro Mq18 zf
      refine g_aload_n h 1 rfl dX3_read_96 ?_
      refine g_iload_n h 2 rfl dX3_read_97 ?_
      refine g_bipush h 9 (v := 9) (by decide) dX3_read_98 ?_
      refine g_iadd h dX3_read_100 ?_
      refine g_aload_n h 0 rfl dX3_read_101 ?_
      refine gfX3_9 h zk_x0 dX3_read_102 ?_
      refine g_iconst h 0 (v := 0) (by decide) dX3_read_105 ?_
      refine g_iconst h 2 (v := 2) (by decide) dX3_read_106 ?_
      refine g_copy h mlX3_59 natCopy smCopy initSystem zk_x1 rfl (kf2_1 zk_x0) (lf2_1 zk_x0) zf (by decide) (Nat.le_of_ble_eq_true rfl) dX3_read_107 ?_
      clear zf; intro Mq19 zf
      refine g_aload_n h 1 rfl dX3_read_110 ?_
      refine g_iload_n h 2 rfl dX3_read_111 ?_
      refine g_bipush h 11 (v := 11) (by decide) dX3_read_112 ?_
      refine g_iadd h dX3_read_114 ?_
      refine g_aload_n h 0 rfl dX3_read_115 ?_
      refine gfX3_15 h zk_x0 dX3_read_116 ?_
      refine g_iconst h 0 (v := 0) (by decide) dX3_read_119 ?_
      refine g_iconst h 2 (v := 2) (by decide) dX3_read_120 ?_
      refine g_copy h mlX3_59 natCopy smCopy initSystem zk_x1 rfl (kf2_2 zk_x0) (lf2_2 zk_x0) zf (by decide) (Nat.le_of_ble_eq_true rfl) dX3_read_121 ?_
      clear zf; intro Mq20 zf
      refine g_aload_n h 1 rfl dX3_read_124 ?_
      refine g_iload_n h 2 rfl dX3_read_125 ?_
      refine g_bipush h 13 (v := 13) (by decide) dX3_read_126 ?_
      refine g_iadd h dX3_read_128 ?_
      refine g_aload_n h 0 rfl dX3_read_129 ?_
      refine gfX3_18 h zk_x0 dX3_read_130 ?_
      refine g_iconst h 0 (v := 0) (by decide) dX3_read_133 ?_
      refine g_bipush h 12 (v := 12) (by decide) dX3_read_134 ?_
      refine g_copy h mlX3_59 natCopy smCopy initSystem zk_x1 rfl (kf2_3 zk_x0) (lf2_3 zk_x0) zf (by decide) (Nat.le_of_ble_eq_true rfl) dX3_read_136 ?_
      clear zf; intro Mq21 zf
      refine g_aload_n h 1 rfl dX3_read_139 ?_
      refine g_iload_n h 2 rfl dX3_read_140 ?_
      refine g_bipush h 13 (v := 13) (by decide) dX3_read_141 ?_
      refine g_iadd h dX3_read_143 ?_
      refine g_bipush h 12 (v := 12) (by decide) dX3_read_144 ?_
      refine g_iadd h dX3_read_146 ?_
      refine g_aload_n h 0 rfl dX3_read_147 ?_
      refine gfX3_21 h zk_x0 dX3_read_148 ?_
      refine g_iconst h 0 (v := 0) (by decide) dX3_read_151 ?_
      refine g_bipush h 6 (v := 6) (by decide) dX3_read_152 ?_
      refine g_copy h mlX3_59 natCopy smCopy initSystem zk_x1 rfl (kf2_4 zk_x0) (lf2_4 zk_x0) zf (by decide) (Nat.le_of_ble_eq_true rfl) dX3_read_154 ?_
      clear zf; intro Mq22 zf
      obtain rfl := Option.some.inj zf
      exact g_vret h rfl ⟨rfl, rfl⟩ (Nat.le_refl _) (Nat.le_refl _) dX3_read_157
    · obtain rfl := Option.some.inj zf
      exact g_vret h rfl ⟨rfl, rfl⟩ (Nat.le_refl _) (Nat.le_refl _) dX3_read_13

theorem cmX3_read {l : Launch} {w : WX} {M : Mem} {x0 : Nat} {x1 : Nat} {x2 : Int32} {res : Mem} (zf : fX3_read M x0 x1 x2 = some res) : CM l w yX3_read cX3_read 3 none { frames := 1, cells := 0, slots := 0, locals := 200 } 0 0 [rv w x0, rv w x1, .int x2] M (Pwv res) := by
  refine CM_of (by decide) (Nat.le_of_ble_eq_true rfl) (fun G hw hl h => ?_)
  subst hw
  exact kX3_read_e0 h zf

-- X1_takeBack
theorem kX1_takeBack_e0 {G : GX} (h : OKm G cX1_takeBack RX1 2 (some .boolean) { frames := 2, cells := 0, slots := 0, locals := 222 }) {M : Mem} {x0 : Nat} {x1 : Nat} {res : (Int32 × Mem)} (zf : fX1_takeBack M x0 x1 = some res) : GG G (Qm G (Pwi res) 0 0) 0 0 0 [(0, rv G.1 x0), (1, rv G.1 x1)] [] M := by
  unfold fX1_takeBack at zf
  have zf1 := pre_ck zf
  clear zf; obtain ⟨zk_x0, zf⟩ := zf1
  have zf1 := pre_ck zf
  clear zf; obtain ⟨zk_x1, zf⟩ := zf1
  refine g_aload_n h 0 rfl dX1_takeBack_0 ?_
  refine gfX1_9 h zk_x0 dX1_takeBack_1 ?_
  refine g_nmI zf ?_
  clear zf; intro vq1 zf
  refine g_if_ne h 9 (by decide) zf dX1_takeBack_4 ?_ ?_ <;> clear zf <;> intro zf
  · refine g_aload_n h 0 rfl dX1_takeBack_9 ?_
    refine g_dup h rfl dX1_takeBack_10 ?_
    refine gfX1_9 h zk_x0 dX1_takeBack_11 ?_
    refine g_nmI zf ?_
    clear zf; intro vq2 zf
    refine g_iconst h 1 (v := 1) (by decide) dX1_takeBack_14 ?_
    refine g_isub h dX1_takeBack_15 ?_
    refine pfX1_9 h zk_x0 dX1_takeBack_16 ?_
    refine g_nmM zf ?_
    clear zf; intro Mq3 zf
    refine g_aload_n h 1 rfl dX1_takeBack_19 ?_
    refine g_aload_n h 0 rfl dX1_takeBack_20 ?_
    refine gfX1_17 h zk_x0 dX1_takeBack_21 ?_
    refine g_aload_n h 0 rfl dX1_takeBack_24 ?_
    refine gfX1_9 h zk_x0 dX1_takeBack_25 ?_
    refine g_nmI zf ?_
    clear zf; intro vq4 zf
    refine g_bipush h 31 (v := 31) (by decide) dX1_takeBack_28 ?_
    refine g_imul h dX1_takeBack_30 ?_
    have zf1 := bd_some zf
    clear zf; obtain ⟨Mq5, zq, zf⟩ := zf1
    refine g_callVwv (As := [rv G.1 (x0 + 1), .int (vq4 * 31)]) (rest := []) h ceX3_read mlX1_31 imX3_read seX3_read (by rfl) (kd_lt (by rw [zk_x1]; decide)) (ent_2 zk_x1) rfl rfl ⟨by decide, by decide⟩ ⟨by decide, by decide⟩ rfl dX1_takeBack_31 rfl (Nat.le_of_ble_eq_true rfl) (cmX3_read zq) ?_
    refine g_iconst h 1 (v := 1) (by decide) dX1_takeBack_34 ?_
    obtain rfl := Option.some.inj zf
    exact g_zret h (by decide) rfl ⟨rfl, rfl⟩ (Nat.le_refl _) (Nat.le_refl _) dX1_takeBack_35
  · refine g_iconst h 0 (v := 0) (by decide) dX1_takeBack_7 ?_
    obtain rfl := Option.some.inj zf
    exact g_zret h (by decide) rfl ⟨rfl, rfl⟩ (Nat.le_refl _) (Nat.le_refl _) dX1_takeBack_8

theorem cmX1_takeBack {l : Launch} {w : WX} {M : Mem} {x0 : Nat} {x1 : Nat} {res : (Int32 × Mem)} (zf : fX1_takeBack M x0 x1 = some res) : CM l w yX1_takeBack cX1_takeBack 2 (some .boolean) { frames := 2, cells := 0, slots := 0, locals := 222 } 0 0 [rv w x0, rv w x1] M (Pwi res) := by
  refine CM_of (by decide) (Nat.le_of_ble_eq_true rfl) (fun G hw hl h => ?_)
  subst hw
  exact kX1_takeBack_e0 h zf

-- X7_harvestOf
theorem kX7_harvestOf_e0 {G : GX} (h : OKm G cX7_harvestOf RX7 2 (some .int) { frames := 0, cells := 0, slots := 0, locals := 0 }) {M : Mem} {x1 : Int32} {res : Int32} (zf : fX7_harvestOf M x1 = some res) : GG G (Qm G (Pri res M) 0 0) 0 0 0 [(0, rv G.1 28), (1, .int x1)] [] M := by
  unfold fX7_harvestOf at zf
  refine g_aload_n h 0 rfl dX7_harvestOf_0 ?_
  refine gfX7_12 h (by decide : kd 28 = 6) dX7_harvestOf_1 ?_
  refine g_nmR zf ?_
  clear zf; intro oq1 zf
  have zf1 := pre_ck zf
  clear zf; obtain ⟨zk_oq1, zf⟩ := zf1
  refine gfX7_30 h zk_oq1 dX7_harvestOf_4 ?_
  refine g_nmI zf ?_
  clear zf; intro vq2 zf
  refine g_if_eq h 14 (by decide) zf dX7_harvestOf_7 ?_ ?_ <;> clear zf <;> intro zf
  · refine g_bipush h 20 (v := 20) (by decide) dX7_harvestOf_14 ?_
    obtain rfl := Option.some.inj zf
    exact g_iret h rfl ⟨rfl, rfl⟩ (Nat.le_refl _) (Nat.le_refl _) dX7_harvestOf_16
  · refine g_iload_n h 1 rfl dX7_harvestOf_10 ?_
    refine g_if_ge h 17 (by decide) zf dX7_harvestOf_11 ?_ ?_ <;> clear zf <;> intro zf
    · refine g_aload_n h 0 rfl dX7_harvestOf_17 ?_
      refine gfX7_12 h (by decide : kd 28 = 6) dX7_harvestOf_18 ?_
      refine g_nmR zf ?_
      clear zf; intro oq3 zf
      have zf1 := pre_ck zf
      clear zf; obtain ⟨zk_oq3, zf⟩ := zf1
      refine gfX7_34 h zk_oq3 dX7_harvestOf_21 ?_
      refine g_iload_n h 1 rfl dX7_harvestOf_24 ?_
      refine g_aload_n h 0 rfl dX7_harvestOf_25 ?_
      refine gfX7_12 h (by decide : kd 28 = 6) dX7_harvestOf_26 ?_
      refine g_nmR zf ?_
      clear zf; intro oq4 zf
      have zf1 := pre_ck zf
      clear zf; obtain ⟨zk_oq4, zf⟩ := zf1
      refine gfX7_30 h zk_oq4 dX7_harvestOf_29 ?_
      refine g_nmI zf ?_
      clear zf; intro vq5 zf
      have zf1 := pre_if zf
      clear zf; obtain ⟨zne, zf⟩ := zf1
      refine g_irem h zne dX7_harvestOf_32 ?_
      refine g_iald h 10 (kf4_6 zk_oq3) (lf4_6 zk_oq3) zf dX7_harvestOf_33 ?_
      clear zf; intro vq6 zf
      obtain rfl := Option.some.inj zf
      exact g_iret h rfl ⟨rfl, rfl⟩ (Nat.le_refl _) (Nat.le_refl _) dX7_harvestOf_34
    · refine g_bipush h 20 (v := 20) (by decide) dX7_harvestOf_14 ?_
      obtain rfl := Option.some.inj zf
      exact g_iret h rfl ⟨rfl, rfl⟩ (Nat.le_refl _) (Nat.le_refl _) dX7_harvestOf_16

theorem cmX7_harvestOf {l : Launch} {w : WX} {M : Mem} {x1 : Int32} {res : Int32} (zf : fX7_harvestOf M x1 = some res) : CM l w yX7_harvestOf cX7_harvestOf 2 (some .int) { frames := 0, cells := 0, slots := 0, locals := 0 } 0 0 [rv w 28, .int x1] M (Pri res M) := by
  refine CM_of (by decide) (Nat.le_of_ble_eq_true rfl) (fun G hw hl h => ?_)
  subst hw
  exact kX7_harvestOf_e0 h zf

-- X7_reap
theorem kX7_reap_e0 {G : GX} (h : OKm G cX7_reap RX7 3 none { frames := 6, cells := 0, slots := 0, locals := 140 }) {M : Mem} {x1 : Nat} {x2 : Int32} {res : Mem} (zf : fX7_reap M x1 x2 = some res) : GG G (Qm G (Pwv res) 0 0) 0 0 0 [(0, rv G.1 28), (1, rv G.1 x1), (2, .int x2)] [] M := by
  unfold fX7_reap at zf
  have zf1 := pre_ck zf
  clear zf; obtain ⟨zk_x1, zf⟩ := zf1
  refine g_aload_n h 1 rfl dX7_reap_0 ?_
  refine g_sipush h 999 (v := 999) (by decide) dX7_reap_1 ?_
  refine g_aload_n h 1 rfl dX7_reap_4 ?_
  refine gfX7_81 h zk_x1 dX7_reap_5 ?_
  refine g_nmI zf ?_
  clear zf; intro vq1 zf
  refine g_iload_n h 2 rfl dX7_reap_8 ?_
  refine g_iadd h dX7_reap_9 ?_
  refine g_mmin h mlX7_84 smMathmin initMath ceMathmin (by decide) (Nat.le_of_ble_eq_true rfl) (Nat.le_of_ble_eq_true rfl) (Nat.le_of_ble_eq_true rfl) dX7_reap_10 ?_
  refine g_nmI zf ?_
  clear zf; intro vq2 zf
  refine pfX7_81 h zk_x1 dX7_reap_13 ?_
  refine g_nmM zf ?_
  clear zf; intro Mq3 zf
  refine g_aload_n h 1 rfl dX7_reap_16 ?_
  refine g_sipush h 999 (v := 999) (by decide) dX7_reap_17 ?_
  refine g_aload_n h 1 rfl dX7_reap_20 ?_
  refine gfX7_90 h zk_x1 dX7_reap_21 ?_
  refine g_nmI zf ?_
  clear zf; intro vq4 zf
  refine g_aload_n h 1 rfl dX7_reap_24 ?_
  refine gfX7_90 h zk_x1 dX7_reap_25 ?_
  refine g_nmI zf ?_
  clear zf; intro vq5 zf
  refine g_bipush h 10 (v := 10) (by decide) dX7_reap_28 ?_
  refine g_idiv h (by decide) dX7_reap_30 ?_
  refine g_iadd h dX7_reap_31 ?_
  refine g_mmin h mlX7_84 smMathmin initMath ceMathmin (by decide) (Nat.le_of_ble_eq_true rfl) (Nat.le_of_ble_eq_true rfl) (Nat.le_of_ble_eq_true rfl) dX7_reap_32 ?_
  refine g_nmI zf ?_
  clear zf; intro vq6 zf
  refine pfX7_90 h zk_x1 dX7_reap_35 ?_
  refine g_nmM zf ?_
  clear zf; intro Mq7 zf
  obtain rfl := Option.some.inj zf
  exact g_vret h rfl ⟨rfl, rfl⟩ (Nat.le_refl _) (Nat.le_refl _) dX7_reap_38

theorem cmX7_reap {l : Launch} {w : WX} {M : Mem} {x1 : Nat} {x2 : Int32} {res : Mem} (zf : fX7_reap M x1 x2 = some res) : CM l w yX7_reap cX7_reap 3 none { frames := 6, cells := 0, slots := 0, locals := 140 } 0 0 [rv w 28, rv w x1, .int x2] M (Pwv res) := by
  refine CM_of (by decide) (Nat.le_of_ble_eq_true rfl) (fun G hw hl h => ?_)
  subst hw
  exact kX7_reap_e0 h zf

-- X3_become
theorem kX3_become_e0 {G : GX} (h : OKm G cX3_become RX3 2 none { frames := 1, cells := 0, slots := 0, locals := 200 }) {M : Mem} {x0 : Nat} {x1 : Nat} {res : Mem} (zf : fX3_become M x0 x1 = some res) : GG G (Qm G (Pwv res) 0 0) 0 0 0 [(0, rv G.1 x0), (1, rv G.1 x1)] [] M := by
  unfold fX3_become at zf
  have zf1 := pre_ck zf
  clear zf; obtain ⟨zk_x0, zf⟩ := zf1
  have zf1 := pre_ck zf
  clear zf; obtain ⟨zk_x1, zf⟩ := zf1
  refine g_aload_n h 0 rfl dX3_become_0 ?_
  refine g_aload_n h 1 rfl dX3_become_1 ?_
  refine gfX3_27 h zk_x1 dX3_become_2 ?_
  refine g_nmI zf ?_
  clear zf; intro vq1 zf
  refine pfX3_27 h zk_x0 dX3_become_5 ?_
  refine g_nmM zf ?_
  clear zf; intro Mq2 zf
  refine g_aload_n h 0 rfl dX3_become_8 ?_
  refine g_aload_n h 1 rfl dX3_become_9 ?_
  refine gfX3_31 h zk_x1 dX3_become_10 ?_
  refine g_nmI zf ?_
  clear zf; intro vq3 zf
  refine pfX3_31 h zk_x0 dX3_become_13 ?_
  refine g_nmM zf ?_
  clear zf; intro Mq4 zf
  refine g_aload_n h 0 rfl dX3_become_16 ?_
  refine g_aload_n h 1 rfl dX3_become_17 ?_
  refine gfX3_34 h zk_x1 dX3_become_18 ?_
  refine g_nmI zf ?_
  clear zf; intro vq5 zf
  refine pfX3_34 h zk_x0 dX3_become_21 ?_
  refine g_nmM zf ?_
  clear zf; intro Mq6 zf
  refine g_aload_n h 0 rfl dX3_become_24 ?_
  refine g_aload_n h 1 rfl dX3_become_25 ?_
  refine gfX3_37 h zk_x1 dX3_become_26 ?_
  refine g_nmI zf ?_
  clear zf; intro vq7 zf
  refine pfX3_37 h zk_x0 dX3_become_29 ?_
  refine g_nmM zf ?_
  clear zf; intro Mq8 zf
  refine g_aload_n h 0 rfl dX3_become_32 ?_
  refine g_aload_n h 1 rfl dX3_become_33 ?_
  refine gfX3_40 h zk_x1 dX3_become_34 ?_
  refine g_nmI zf ?_
  clear zf; intro vq9 zf
  refine pfX3_40 h zk_x0 dX3_become_37 ?_
  refine g_nmM zf ?_
  clear zf; intro Mq10 zf
  refine g_aload_n h 0 rfl dX3_become_40 ?_
  refine g_aload_n h 1 rfl dX3_become_41 ?_
  refine gfX3_43 h zk_x1 dX3_become_42 ?_
  refine g_nmI zf ?_
  clear zf; intro vq11 zf
  refine pfX3_43 h zk_x0 dX3_become_45 ?_
  refine g_nmM zf ?_
  clear zf; intro Mq12 zf
  refine g_aload_n h 0 rfl dX3_become_48 ?_
  refine g_aload_n h 1 rfl dX3_become_49 ?_
  refine gfX3_46 h zk_x1 dX3_become_50 ?_
  refine g_nmI zf ?_
  clear zf; intro vq13 zf
  refine pfX3_46 h zk_x0 dX3_become_53 ?_
  refine g_nmM zf ?_
  clear zf; intro Mq14 zf
  refine g_aload_n h 0 rfl dX3_become_56 ?_
  refine g_aload_n h 1 rfl dX3_become_57 ?_
  refine gfX3_49 h zk_x1 dX3_become_58 ?_
  refine g_nmI zf ?_
  clear zf; intro vq15 zf
  refine pfX3_49 h zk_x0 dX3_become_61 ?_
  refine g_nmM zf ?_
  clear zf; intro Mq16 zf
  refine g_aload_n h 0 rfl dX3_become_64 ?_
  refine g_aload_n h 1 rfl dX3_become_65 ?_
  refine gfX3_52 h zk_x1 dX3_become_66 ?_
  refine g_nmI zf ?_
  clear zf; intro vq17 zf
  refine pfX3_52 h zk_x0 dX3_become_69 ?_
  refine g_nmM zf ?_
  clear zf; intro Mq18 zf
  refine g_aload_n h 1 rfl dX3_become_72 ?_
  refine gfX3_9 h zk_x1 dX3_become_73 ?_
  refine g_iconst h 0 (v := 0) (by decide) dX3_become_76 ?_
  refine g_aload_n h 0 rfl dX3_become_77 ?_
  refine gfX3_9 h zk_x0 dX3_become_78 ?_
  refine g_iconst h 0 (v := 0) (by decide) dX3_become_81 ?_
  refine g_iconst h 2 (v := 2) (by decide) dX3_become_82 ?_
  refine g_copy h mlX3_59 natCopy smCopy initSystem (kf2_1 zk_x1) (lf2_1 zk_x1) (kf2_1 zk_x0) (lf2_1 zk_x0) zf (by decide) (Nat.le_of_ble_eq_true rfl) dX3_become_83 ?_
  clear zf; intro Mq19 zf
  refine g_aload_n h 1 rfl dX3_become_86 ?_
  refine gfX3_15 h zk_x1 dX3_become_87 ?_
  refine g_iconst h 0 (v := 0) (by decide) dX3_become_90 ?_
  refine g_aload_n h 0 rfl dX3_become_91 ?_
  refine gfX3_15 h zk_x0 dX3_become_92 ?_
  refine g_iconst h 0 (v := 0) (by decide) dX3_become_95 ?_
  refine g_iconst h 2 (v := 2) (by decide) dX3_become_96 ?_
  refine g_copy h mlX3_59 natCopy smCopy initSystem (kf2_2 zk_x1) (lf2_2 zk_x1) (kf2_2 zk_x0) (lf2_2 zk_x0) zf (by decide) (Nat.le_of_ble_eq_true rfl) dX3_become_97 ?_
  clear zf; intro Mq20 zf
  refine g_aload_n h 1 rfl dX3_become_100 ?_
  refine gfX3_18 h zk_x1 dX3_become_101 ?_
  refine g_iconst h 0 (v := 0) (by decide) dX3_become_104 ?_
  refine g_aload_n h 0 rfl dX3_become_105 ?_
  refine gfX3_18 h zk_x0 dX3_become_106 ?_
  refine g_iconst h 0 (v := 0) (by decide) dX3_become_109 ?_
  refine g_bipush h 12 (v := 12) (by decide) dX3_become_110 ?_
  refine g_copy h mlX3_59 natCopy smCopy initSystem (kf2_3 zk_x1) (lf2_3 zk_x1) (kf2_3 zk_x0) (lf2_3 zk_x0) zf (by decide) (Nat.le_of_ble_eq_true rfl) dX3_become_112 ?_
  clear zf; intro Mq21 zf
  refine g_aload_n h 1 rfl dX3_become_115 ?_
  refine gfX3_21 h zk_x1 dX3_become_116 ?_
  refine g_iconst h 0 (v := 0) (by decide) dX3_become_119 ?_
  refine g_aload_n h 0 rfl dX3_become_120 ?_
  refine gfX3_21 h zk_x0 dX3_become_121 ?_
  refine g_iconst h 0 (v := 0) (by decide) dX3_become_124 ?_
  refine g_bipush h 6 (v := 6) (by decide) dX3_become_125 ?_
  refine g_copy h mlX3_59 natCopy smCopy initSystem (kf2_4 zk_x1) (lf2_4 zk_x1) (kf2_4 zk_x0) (lf2_4 zk_x0) zf (by decide) (Nat.le_of_ble_eq_true rfl) dX3_become_127 ?_
  clear zf; intro Mq22 zf
  obtain rfl := Option.some.inj zf
  exact g_vret h rfl ⟨rfl, rfl⟩ (Nat.le_refl _) (Nat.le_refl _) dX3_become_130

theorem cmX3_become {l : Launch} {w : WX} {M : Mem} {x0 : Nat} {x1 : Nat} {res : Mem} (zf : fX3_become M x0 x1 = some res) : CM l w yX3_become cX3_become 2 none { frames := 1, cells := 0, slots := 0, locals := 200 } 0 0 [rv w x0, rv w x1] M (Pwv res) := by
  refine CM_of (by decide) (Nat.le_of_ble_eq_true rfl) (fun G hw hl h => ?_)
  subst hw
  exact kX3_become_e0 h zf

-- X7_perform
theorem kX7_perform_e0 {G : GX} (h : OKm G cX7_perform RX7 3 (some .boolean) { frames := 6, cells := 0, slots := 0, locals := 140 }) {M : Mem} {x1 : Nat} {x2 : Int32} {res : (Int32 × Mem)} (zf : fX7_perform M x1 x2 = some res) : GG G (Qm G (Pwi res) 0 0) 0 0 0 [(0, rv G.1 28), (1, rv G.1 x1), (2, .int x2)] [] M := by
  unfold fX7_perform at zf
  have zf1 := pre_ck zf
  clear zf; obtain ⟨zk_x1, zf⟩ := zf1
  refine g_iload_n h 2 rfl dX7_perform_0 ?_
  refine g_if_lt h 15 (by decide) zf dX7_perform_1 ?_ ?_ <;> clear zf <;> intro zf
  · refine g_iconst h 0 (v := 0) (by decide) dX7_perform_15 ?_
    obtain rfl := Option.some.inj zf
    exact g_zret h (by decide) rfl ⟨rfl, rfl⟩ (Nat.le_refl _) (Nat.le_refl _) dX7_perform_16
  · refine g_iload_n h 2 rfl dX7_perform_4 ?_
    refine g_aload_n h 0 rfl dX7_perform_5 ?_
    refine gfX7_12 h (by decide : kd 28 = 6) dX7_perform_6 ?_
    refine g_nmR zf ?_
    clear zf; intro oq1 zf
    have zf1 := pre_ck zf
    clear zf; obtain ⟨zk_oq1, zf⟩ := zf1
    refine gfX7_93 h zk_oq1 dX7_perform_9 ?_
    refine g_nmI zf ?_
    clear zf; intro vq2 zf
    refine g_ic_lt h 17 (by decide) zf dX7_perform_12 ?_ ?_ <;> clear zf <;> intro zf
    · refine g_aload_n h 0 rfl dX7_perform_17 ?_
      refine gfX7_12 h (by decide : kd 28 = 6) dX7_perform_18 ?_
      refine g_nmR zf ?_
      clear zf; intro oq3 zf
      have zf1 := pre_ck zf
      clear zf; obtain ⟨zk_oq3, zf⟩ := zf1
      refine gfX7_96 h zk_oq3 dX7_perform_21 ?_
      refine g_iload_n h 2 rfl dX7_perform_24 ?_
      refine g_iald h 7 (kf4_1 zk_oq3) (lf4_1 zk_oq3) zf dX7_perform_25 ?_
      clear zf; intro vq4 zf
      refine g_aload_n h 1 rfl dX7_perform_26 ?_
      refine gfX7_81 h zk_x1 dX7_perform_27 ?_
      refine g_nmI zf ?_
      clear zf; intro vq5 zf
      refine g_ic_le h 45 (by decide) zf dX7_perform_30 ?_ ?_ <;> clear zf <;> intro zf
      · refine g_aload_n h 1 rfl dX7_perform_45 ?_
        refine g_dup h rfl dX7_perform_46 ?_
        refine gfX7_81 h zk_x1 dX7_perform_47 ?_
        refine g_nmI zf ?_
        clear zf; intro vq6 zf
        refine g_aload_n h 0 rfl dX7_perform_50 ?_
        refine gfX7_12 h (by decide : kd 28 = 6) dX7_perform_51 ?_
        refine g_nmR zf ?_
        clear zf; intro oq7 zf
        have zf1 := pre_ck zf
        clear zf; obtain ⟨zk_oq7, zf⟩ := zf1
        refine gfX7_96 h zk_oq7 dX7_perform_54 ?_
        refine g_iload_n h 2 rfl dX7_perform_57 ?_
        refine g_iald h 7 (kf4_1 zk_oq7) (lf4_1 zk_oq7) zf dX7_perform_58 ?_
        clear zf; intro vq8 zf
        refine g_isub h dX7_perform_59 ?_
        refine pfX7_81 h zk_x1 dX7_perform_60 ?_
        refine g_nmM zf ?_
        clear zf; intro Mq9 zf
        refine g_aload_n h 1 rfl dX7_perform_63 ?_
        refine g_iconst h 0 (v := 0) (by decide) dX7_perform_64 ?_
        refine g_bipush h 99 (v := 99) (by decide) dX7_perform_65 ?_
        refine g_aload_n h 1 rfl dX7_perform_67 ?_
        refine gfX7_102 h zk_x1 dX7_perform_68 ?_
        refine g_nmI zf ?_
        clear zf; intro vq10 zf
        refine g_aload_n h 0 rfl dX7_perform_71 ?_
        refine gfX7_12 h (by decide : kd 28 = 6) dX7_perform_72 ?_
        refine g_nmR zf ?_
        clear zf; intro oq11 zf
        have zf1 := pre_ck zf
        clear zf; obtain ⟨zk_oq11, zf⟩ := zf1
        refine gfX7_105 h zk_oq11 dX7_perform_75 ?_
        refine g_iload_n h 2 rfl dX7_perform_78 ?_
        refine g_iald h 7 (kf4_2 zk_oq11) (lf4_2 zk_oq11) zf dX7_perform_79 ?_
        clear zf; intro vq12 zf
        refine g_iadd h dX7_perform_80 ?_
        refine g_mmin h mlX7_84 smMathmin initMath ceMathmin (by decide) (Nat.le_of_ble_eq_true rfl) (Nat.le_of_ble_eq_true rfl) (Nat.le_of_ble_eq_true rfl) dX7_perform_81 ?_
        refine g_nmI zf ?_
        clear zf; intro vq13 zf
        refine g_mmax h mlX7_108 smMathmax initMath ceMathmax (by decide) (Nat.le_of_ble_eq_true rfl) (Nat.le_of_ble_eq_true rfl) (Nat.le_of_ble_eq_true rfl) dX7_perform_84 ?_
        refine g_nmI zf ?_
        clear zf; intro vq14 zf
        refine pfX7_102 h zk_x1 dX7_perform_87 ?_
        refine g_nmM zf ?_
        clear zf; intro Mq15 zf
        refine g_aload_n h 1 rfl dX7_perform_90 ?_
        refine g_iconst h 0 (v := 0) (by decide) dX7_perform_91 ?_
        refine g_sipush h 999 (v := 999) (by decide) dX7_perform_92 ?_
        refine g_aload_n h 1 rfl dX7_perform_95 ?_
        refine gfX7_90 h zk_x1 dX7_perform_96 ?_
        refine g_nmI zf ?_
        clear zf; intro vq16 zf
        refine g_aload_n h 0 rfl dX7_perform_99 ?_
        refine gfX7_12 h (by decide : kd 28 = 6) dX7_perform_100 ?_
        refine g_nmR zf ?_
        clear zf; intro oq17 zf
        have zf1 := pre_ck zf
        clear zf; obtain ⟨zk_oq17, zf⟩ := zf1
        refine gfX7_111 h zk_oq17 dX7_perform_103 ?_
        refine g_iload_n h 2 rfl dX7_perform_106 ?_
        refine g_iald h 7 (kf4_3 zk_oq17) (lf4_3 zk_oq17) zf dX7_perform_107 ?_
        clear zf; intro vq18 zf
        refine g_iadd h dX7_perform_108 ?_
        refine g_mmin h mlX7_84 smMathmin initMath ceMathmin (by decide) (Nat.le_of_ble_eq_true rfl) (Nat.le_of_ble_eq_true rfl) (Nat.le_of_ble_eq_true rfl) dX7_perform_109 ?_
        refine g_nmI zf ?_
        clear zf; intro vq19 zf
        refine g_mmax h mlX7_108 smMathmax initMath ceMathmax (by decide) (Nat.le_of_ble_eq_true rfl) (Nat.le_of_ble_eq_true rfl) (Nat.le_of_ble_eq_true rfl) dX7_perform_112 ?_
        refine g_nmI zf ?_
        clear zf; intro vq20 zf
        refine pfX7_90 h zk_x1 dX7_perform_115 ?_
        refine g_nmM zf ?_
        clear zf; intro Mq21 zf
        refine g_aload_n h 1 rfl dX7_perform_118 ?_
        refine gfX7_114 h zk_x1 dX7_perform_119 ?_
        refine g_aload_n h 1 rfl dX7_perform_122 ?_
        refine gfX7_55 h zk_x1 dX7_perform_123 ?_
        refine g_nmI zf ?_
        clear zf; intro vq22 zf
        refine g_dup2 h rfl rfl dX7_perform_126 ?_
        refine g_iald h 2 (kf2_2 zk_x1) (lf2_2 zk_x1) zf dX7_perform_127 ?_
        clear zf; intro vq23 zf
        refine g_aload_n h 0 rfl dX7_perform_128 ?_
        refine gfX7_12 h (by decide : kd 28 = 6) dX7_perform_129 ?_
        refine g_nmR zf ?_
        clear zf; intro oq24 zf
        have zf1 := pre_ck zf
        clear zf; obtain ⟨zk_oq24, zf⟩ := zf1
        refine gfX7_117 h zk_oq24 dX7_perform_132 ?_
        refine g_iload_n h 2 rfl dX7_perform_135 ?_
        refine g_iald h 7 (kf4_4 zk_oq24) (lf4_4 zk_oq24) zf dX7_perform_136 ?_
        clear zf; intro vq25 zf
        refine g_iadd h dX7_perform_137 ?_
        refine g_iast h 2 (kf2_2 zk_x1) (lf2_2 zk_x1) zf dX7_perform_138 ?_
        clear zf; intro Mq26 zf
        refine g_iconst h 1 (v := 1) (by decide) dX7_perform_139 ?_
        obtain rfl := Option.some.inj zf
        exact g_zret h (by decide) rfl ⟨rfl, rfl⟩ (Nat.le_refl _) (Nat.le_refl _) dX7_perform_140
      · refine g_aload_n h 1 rfl dX7_perform_33 ?_
        refine g_dup h rfl dX7_perform_34 ?_
        refine gfX7_99 h zk_x1 dX7_perform_35 ?_
        refine g_nmI zf ?_
        clear zf; intro vq27 zf
        refine g_iconst h 1 (v := 1) (by decide) dX7_perform_38 ?_
        refine g_iadd h dX7_perform_39 ?_
        refine pfX7_99 h zk_x1 dX7_perform_40 ?_
        refine g_nmM zf ?_
        clear zf; intro Mq28 zf
        refine g_iconst h 0 (v := 0) (by decide) dX7_perform_43 ?_
        obtain rfl := Option.some.inj zf
        exact g_zret h (by decide) rfl ⟨rfl, rfl⟩ (Nat.le_refl _) (Nat.le_refl _) dX7_perform_44
    · refine g_iconst h 0 (v := 0) (by decide) dX7_perform_15 ?_
      obtain rfl := Option.some.inj zf
      exact g_zret h (by decide) rfl ⟨rfl, rfl⟩ (Nat.le_refl _) (Nat.le_refl _) dX7_perform_16

theorem cmX7_perform {l : Launch} {w : WX} {M : Mem} {x1 : Nat} {x2 : Int32} {res : (Int32 × Mem)} (zf : fX7_perform M x1 x2 = some res) : CM l w yX7_perform cX7_perform 3 (some .boolean) { frames := 6, cells := 0, slots := 0, locals := 140 } 0 0 [rv w 28, rv w x1, .int x2] M (Pwi res) := by
  refine CM_of (by decide) (Nat.le_of_ble_eq_true rfl) (fun G hw hl h => ?_)
  subst hw
  exact kX7_perform_e0 h zf

-- X7_age
theorem kX7_age_e0 {G : GX} (h : OKm G cX7_age RX7 2 none { frames := 0, cells := 0, slots := 0, locals := 0 }) {M : Mem} {x1 : Nat} {res : Mem} (zf : fX7_age M x1 = some res) : GG G (Qm G (Pwv res) 0 0) 0 0 0 [(0, rv G.1 28), (1, rv G.1 x1)] [] M := by
  unfold fX7_age at zf
  have zf1 := pre_ck zf
  clear zf; obtain ⟨zk_x1, zf⟩ := zf1
  refine g_aload_n h 1 rfl dX7_age_0 ?_
  refine g_dup h rfl dX7_age_1 ?_
  refine gfX7_48 h zk_x1 dX7_age_2 ?_
  refine g_nmI zf ?_
  clear zf; intro vq1 zf
  refine g_iconst h 1 (v := 1) (by decide) dX7_age_5 ?_
  refine g_iadd h dX7_age_6 ?_
  refine pfX7_48 h zk_x1 dX7_age_7 ?_
  refine g_nmM zf ?_
  clear zf; intro Mq2 zf
  refine g_aload_n h 1 rfl dX7_age_10 ?_
  refine gfX7_45 h zk_x1 dX7_age_11 ?_
  refine g_aload_n h 1 rfl dX7_age_14 ?_
  refine gfX7_55 h zk_x1 dX7_age_15 ?_
  refine g_nmI zf ?_
  clear zf; intro vq3 zf
  refine g_dup2 h rfl rfl dX7_age_18 ?_
  refine g_iald h 2 (kf2_1 zk_x1) (lf2_1 zk_x1) zf dX7_age_19 ?_
  clear zf; intro vq4 zf
  refine g_iconst h 1 (v := 1) (by decide) dX7_age_20 ?_
  refine g_iadd h dX7_age_21 ?_
  refine g_iast h 2 (kf2_1 zk_x1) (lf2_1 zk_x1) zf dX7_age_22 ?_
  clear zf; intro Mq5 zf
  refine g_aload_n h 1 rfl dX7_age_23 ?_
  refine g_dup h rfl dX7_age_24 ?_
  refine gfX7_118 h zk_x1 dX7_age_25 ?_
  refine g_nmI zf ?_
  clear zf; intro vq6 zf
  refine g_iconst h 1 (v := 1) (by decide) dX7_age_28 ?_
  refine g_iadd h dX7_age_29 ?_
  refine pfX7_118 h zk_x1 dX7_age_30 ?_
  refine g_nmM zf ?_
  clear zf; intro Mq7 zf
  obtain rfl := Option.some.inj zf
  exact g_vret h rfl ⟨rfl, rfl⟩ (Nat.le_refl _) (Nat.le_refl _) dX7_age_33

theorem cmX7_age {l : Launch} {w : WX} {M : Mem} {x1 : Nat} {res : Mem} (zf : fX7_age M x1 = some res) : CM l w yX7_age cX7_age 2 none { frames := 0, cells := 0, slots := 0, locals := 0 } 0 0 [rv w 28, rv w x1] M (Pwv res) := by
  refine CM_of (by decide) (Nat.le_of_ble_eq_true rfl) (fun G hw hl h => ?_)
  subst hw
  exact kX7_age_e0 h zf

-- X8_isTold
theorem kX8_isTold_e0 {G : GX} (h : OKm G cX8_isTold RX8 1 (some .boolean) { frames := 0, cells := 0, slots := 0, locals := 0 }) {M : Mem} {x0 : Nat} {res : Int32} (zf : fX8_isTold M x0 = some res) : GG G (Qm G (Pri res M) 0 0) 0 0 0 [(0, rv G.1 x0)] [] M := by
  unfold fX8_isTold at zf
  have zf1 := pre_ck zf
  clear zf; obtain ⟨zk_x0, zf⟩ := zf1
  refine g_aload_n h 0 rfl dX8_isTold_0 ?_
  refine gfX8_13 h zk_x0 dX8_isTold_1 ?_
  refine g_nmI zf ?_
  clear zf; intro vq1 zf
  refine g_aload_n h 0 rfl dX8_isTold_4 ?_
  refine gfX8_7 h zk_x0 dX8_isTold_5 ?_
  refine g_nmI zf ?_
  clear zf; intro vq2 zf
  refine g_ic_le h 15 (by decide) zf dX8_isTold_8 ?_ ?_ <;> clear zf <;> intro zf
  · refine g_iconst h 0 (v := 0) (by decide) dX8_isTold_15 ?_
    obtain rfl := Option.some.inj zf
    exact g_zret h (by decide) rfl ⟨rfl, rfl⟩ (Nat.le_refl _) (Nat.le_refl _) dX8_isTold_16
  · refine g_iconst h 1 (v := 1) (by decide) dX8_isTold_11 ?_
    refine g_goto h 16 (by decide) dX8_isTold_12 ?_
    obtain rfl := Option.some.inj zf
    exact g_zret h (by decide) rfl ⟨rfl, rfl⟩ (Nat.le_refl _) (Nat.le_refl _) dX8_isTold_16

theorem cmX8_isTold {l : Launch} {w : WX} {M : Mem} {x0 : Nat} {res : Int32} (zf : fX8_isTold M x0 = some res) : CM l w yX8_isTold cX8_isTold 1 (some .boolean) { frames := 0, cells := 0, slots := 0, locals := 0 } 0 0 [rv w x0] M (Pri res M) := by
  refine CM_of (by decide) (Nat.le_of_ble_eq_true rfl) (fun G hw hl h => ?_)
  subst hw
  exact kX8_isTold_e0 h zf

-- X8_evaluate
theorem kX8_evaluate_b299 {G : GX} (h : OKm G cX8_evaluate RX8 9 (some .int) { frames := 0, cells := 0, slots := 0, locals := 0 }) {a8 : Mem → Nat → Nat → Nat → Int32 → Int32 → Option (Int32 × Mem)} (zh8 : ∀ (M : Mem) (x0 : Nat) (x1 : Nat) (x2 : Nat) (x3 : Int32) (x4 : Int32) (res : (Int32 × Mem)), a8 M x0 x1 x2 x3 x4 = some res → GG G (Qm G (Pwi res) 0 0) 0 0 8 [(0, rv G.1 x0), (1, rv G.1 x1), (2, rv G.1 x2), (3, .int x3), (4, .int x4)] [] M) {M : Mem} {x0 : Nat} {x1 : Nat} {x2 : Nat} {x3 : Int32} {x4 : Int32} {res : (Int32 × Mem)} (zf : fX8_evaluate_b299 a8 M x0 x1 x2 x3 x4 = some res) : GG G (Qm G (Pwi res) 0 0) 0 0 299 [(0, rv G.1 x0), (1, rv G.1 x1), (2, rv G.1 x2), (3, .int x3), (4, .int x4)] [] M := by
  unfold fX8_evaluate_b299 at zf
  have zf1 := pre_ck zf
  clear zf; obtain ⟨zk_x0, zf⟩ := zf1
  have zf1 := pre_ck zf
  clear zf; obtain ⟨zk_x1, zf⟩ := zf1
  have zf1 := pre_ck zf
  clear zf; obtain ⟨zk_x2, zf⟩ := zf1
  refine g_iinc h 4 4 rfl (v := x4 + 1) (congrArg (fun z => x4 + z) (by decide : Int32.ofInt (1) = (1 : Int32))) [(4, .int (x4 + 1)), (0, rv G.1 x0), (1, rv G.1 x1), (2, rv G.1 x2), (3, .int x3)] (by decide) rfl dX8_evaluate_299 ?_
  refine g_nmV zf ?_
  clear zf; intro vq10 zf
  refine g_goto h 8 (by decide) dX8_evaluate_302 ?_
  refine g_sub h [1, 2, 3, 4, 0] rfl ?_
  exact zh8 _ _ _ _ _ _ _ zf

theorem kX8_evaluate_b292 {G : GX} (h : OKm G cX8_evaluate RX8 9 (some .int) { frames := 0, cells := 0, slots := 0, locals := 0 }) {a8 : Mem → Nat → Nat → Nat → Int32 → Int32 → Option (Int32 × Mem)} (zh8 : ∀ (M : Mem) (x0 : Nat) (x1 : Nat) (x2 : Nat) (x3 : Int32) (x4 : Int32) (res : (Int32 × Mem)), a8 M x0 x1 x2 x3 x4 = some res → GG G (Qm G (Pwi res) 0 0) 0 0 8 [(0, rv G.1 x0), (1, rv G.1 x1), (2, rv G.1 x2), (3, .int x3), (4, .int x4)] [] M) {M : Mem} {x0 : Nat} {x1 : Nat} {x2 : Nat} {x3 : Int32} {x4 : Int32} {x8 : Int32} {res : (Int32 × Mem)} (zf : fX8_evaluate_b292 a8 M x0 x1 x2 x3 x4 x8 = some res) : GG G (Qm G (Pwi res) 0 0) 0 0 292 [(0, rv G.1 x0), (1, rv G.1 x1), (2, rv G.1 x2), (3, .int x3), (4, .int x4), (8, .int x8)] [] M := by
  unfold fX8_evaluate_b292 at zf
  have zf1 := pre_ck zf
  clear zf; obtain ⟨zk_x0, zf⟩ := zf1
  have zf1 := pre_ck zf
  clear zf; obtain ⟨zk_x1, zf⟩ := zf1
  have zf1 := pre_ck zf
  clear zf; obtain ⟨zk_x2, zf⟩ := zf1
  refine g_aload_n h 2 rfl dX8_evaluate_292 ?_
  refine g_iload_n h 3 rfl dX8_evaluate_293 ?_
  refine g_iconst h 1 (v := 1) (by decide) dX8_evaluate_294 ?_
  refine g_isub h dX8_evaluate_295 ?_
  refine g_iload h 5 rfl dX8_evaluate_296 ?_
  refine g_iast h (ln x2) zk_x2 rfl zf dX8_evaluate_298 ?_
  clear zf; intro Mq9 zf
  refine g_sub h [0, 1, 2, 3, 4] rfl ?_
  exact kX8_evaluate_b299 h zh8 zf

theorem kX8_evaluate_b241 {G : GX} (h : OKm G cX8_evaluate RX8 9 (some .int) { frames := 0, cells := 0, slots := 0, locals := 0 }) {a8 : Mem → Nat → Nat → Nat → Int32 → Int32 → Option (Int32 × Mem)} (zh8 : ∀ (M : Mem) (x0 : Nat) (x1 : Nat) (x2 : Nat) (x3 : Int32) (x4 : Int32) (res : (Int32 × Mem)), a8 M x0 x1 x2 x3 x4 = some res → GG G (Qm G (Pwi res) 0 0) 0 0 8 [(0, rv G.1 x0), (1, rv G.1 x1), (2, rv G.1 x2), (3, .int x3), (4, .int x4)] [] M) {M : Mem} {x0 : Nat} {x1 : Nat} {x2 : Nat} {x3 : Int32} {x4 : Int32} {s0 : Int32} {res : (Int32 × Mem)} (zf : fX8_evaluate_b241 a8 M x0 x1 x2 x3 x4 s0 = some res) : GG G (Qm G (Pwi res) 0 0) 0 0 241 [(0, rv G.1 x0), (1, rv G.1 x1), (2, rv G.1 x2), (3, .int x3), (4, .int x4)] [.int s0] M := by
  unfold fX8_evaluate_b241 at zf
  have zf1 := pre_ck zf
  clear zf; obtain ⟨zk_x0, zf⟩ := zf1
  have zf1 := pre_ck zf
  clear zf; obtain ⟨zk_x1, zf⟩ := zf1
  have zf1 := pre_ck zf
  clear zf; obtain ⟨zk_x2, zf⟩ := zf1
  refine g_istore h [(8, .int s0), (0, rv G.1 x0), (1, rv G.1 x1), (2, rv G.1 x2), (3, .int x3), (4, .int x4)] (by decide) rfl dX8_evaluate_241 ?_
  refine g_goto h 292 (by decide) dX8_evaluate_243 ?_
  refine g_sub h [1, 2, 3, 4, 5, 0] rfl ?_
  exact kX8_evaluate_b292 h zh8 zf

theorem kX8_evaluate_b224 {G : GX} (h : OKm G cX8_evaluate RX8 9 (some .int) { frames := 0, cells := 0, slots := 0, locals := 0 }) {a8 : Mem → Nat → Nat → Nat → Int32 → Int32 → Option (Int32 × Mem)} (zh8 : ∀ (M : Mem) (x0 : Nat) (x1 : Nat) (x2 : Nat) (x3 : Int32) (x4 : Int32) (res : (Int32 × Mem)), a8 M x0 x1 x2 x3 x4 = some res → GG G (Qm G (Pwi res) 0 0) 0 0 8 [(0, rv G.1 x0), (1, rv G.1 x1), (2, rv G.1 x2), (3, .int x3), (4, .int x4)] [] M) {M : Mem} {x0 : Nat} {x1 : Nat} {x2 : Nat} {x3 : Int32} {x4 : Int32} {s0 : Int32} {res : (Int32 × Mem)} (zf : fX8_evaluate_b224 a8 M x0 x1 x2 x3 x4 s0 = some res) : GG G (Qm G (Pwi res) 0 0) 0 0 224 [(0, rv G.1 x0), (1, rv G.1 x1), (2, rv G.1 x2), (3, .int x3), (4, .int x4)] [.int s0] M := by
  unfold fX8_evaluate_b224 at zf
  have zf1 := pre_ck zf
  clear zf; obtain ⟨zk_x0, zf⟩ := zf1
  have zf1 := pre_ck zf
  clear zf; obtain ⟨zk_x1, zf⟩ := zf1
  have zf1 := pre_ck zf
  clear zf; obtain ⟨zk_x2, zf⟩ := zf1
  refine g_istore h [(8, .int s0), (0, rv G.1 x0), (1, rv G.1 x1), (2, rv G.1 x2), (3, .int x3), (4, .int x4)] (by decide) rfl dX8_evaluate_224 ?_
  refine g_goto h 292 (by decide) dX8_evaluate_226 ?_
  refine g_sub h [1, 2, 3, 4, 5, 0] rfl ?_
  exact kX8_evaluate_b292 h zh8 zf

theorem kX8_evaluate_b207 {G : GX} (h : OKm G cX8_evaluate RX8 9 (some .int) { frames := 0, cells := 0, slots := 0, locals := 0 }) {a8 : Mem → Nat → Nat → Nat → Int32 → Int32 → Option (Int32 × Mem)} (zh8 : ∀ (M : Mem) (x0 : Nat) (x1 : Nat) (x2 : Nat) (x3 : Int32) (x4 : Int32) (res : (Int32 × Mem)), a8 M x0 x1 x2 x3 x4 = some res → GG G (Qm G (Pwi res) 0 0) 0 0 8 [(0, rv G.1 x0), (1, rv G.1 x1), (2, rv G.1 x2), (3, .int x3), (4, .int x4)] [] M) {M : Mem} {x0 : Nat} {x1 : Nat} {x2 : Nat} {x3 : Int32} {x4 : Int32} {s0 : Int32} {res : (Int32 × Mem)} (zf : fX8_evaluate_b207 a8 M x0 x1 x2 x3 x4 s0 = some res) : GG G (Qm G (Pwi res) 0 0) 0 0 207 [(0, rv G.1 x0), (1, rv G.1 x1), (2, rv G.1 x2), (3, .int x3), (4, .int x4)] [.int s0] M := by
  unfold fX8_evaluate_b207 at zf
  have zf1 := pre_ck zf
  clear zf; obtain ⟨zk_x0, zf⟩ := zf1
  have zf1 := pre_ck zf
  clear zf; obtain ⟨zk_x1, zf⟩ := zf1
  have zf1 := pre_ck zf
  clear zf; obtain ⟨zk_x2, zf⟩ := zf1
  refine g_istore h [(8, .int s0), (0, rv G.1 x0), (1, rv G.1 x1), (2, rv G.1 x2), (3, .int x3), (4, .int x4)] (by decide) rfl dX8_evaluate_207 ?_
  refine g_goto h 292 (by decide) dX8_evaluate_209 ?_
  refine g_sub h [1, 2, 3, 4, 5, 0] rfl ?_
  exact kX8_evaluate_b292 h zh8 zf

theorem kX8_evaluate_b206 {G : GX} (h : OKm G cX8_evaluate RX8 9 (some .int) { frames := 0, cells := 0, slots := 0, locals := 0 }) {a8 : Mem → Nat → Nat → Nat → Int32 → Int32 → Option (Int32 × Mem)} (zh8 : ∀ (M : Mem) (x0 : Nat) (x1 : Nat) (x2 : Nat) (x3 : Int32) (x4 : Int32) (res : (Int32 × Mem)), a8 M x0 x1 x2 x3 x4 = some res → GG G (Qm G (Pwi res) 0 0) 0 0 8 [(0, rv G.1 x0), (1, rv G.1 x1), (2, rv G.1 x2), (3, .int x3), (4, .int x4)] [] M) {M : Mem} {x0 : Nat} {x1 : Nat} {x2 : Nat} {x3 : Int32} {x4 : Int32} {res : (Int32 × Mem)} (zf : fX8_evaluate_b206 a8 M x0 x1 x2 x3 x4 = some res) : GG G (Qm G (Pwi res) 0 0) 0 0 206 [(0, rv G.1 x0), (1, rv G.1 x1), (2, rv G.1 x2), (3, .int x3), (4, .int x4)] [] M := by
  unfold fX8_evaluate_b206 at zf
  have zf1 := pre_ck zf
  clear zf; obtain ⟨zk_x0, zf⟩ := zf1
  have zf1 := pre_ck zf
  clear zf; obtain ⟨zk_x1, zf⟩ := zf1
  have zf1 := pre_ck zf
  clear zf; obtain ⟨zk_x2, zf⟩ := zf1
  refine g_iconst h 0 (v := 0) (by decide) dX8_evaluate_206 ?_
  refine g_sub h [0, 1, 2, 3, 4] rfl ?_
  exact kX8_evaluate_b207 h zh8 zf

theorem kX8_evaluate_b187 {G : GX} (h : OKm G cX8_evaluate RX8 9 (some .int) { frames := 0, cells := 0, slots := 0, locals := 0 }) {a8 : Mem → Nat → Nat → Nat → Int32 → Int32 → Option (Int32 × Mem)} (zh8 : ∀ (M : Mem) (x0 : Nat) (x1 : Nat) (x2 : Nat) (x3 : Int32) (x4 : Int32) (res : (Int32 × Mem)), a8 M x0 x1 x2 x3 x4 = some res → GG G (Qm G (Pwi res) 0 0) 0 0 8 [(0, rv G.1 x0), (1, rv G.1 x1), (2, rv G.1 x2), (3, .int x3), (4, .int x4)] [] M) {M : Mem} {x0 : Nat} {x1 : Nat} {x2 : Nat} {x3 : Int32} {x4 : Int32} {s0 : Int32} {res : (Int32 × Mem)} (zf : fX8_evaluate_b187 a8 M x0 x1 x2 x3 x4 s0 = some res) : GG G (Qm G (Pwi res) 0 0) 0 0 187 [(0, rv G.1 x0), (1, rv G.1 x1), (2, rv G.1 x2), (3, .int x3), (4, .int x4)] [.int s0] M := by
  unfold fX8_evaluate_b187 at zf
  have zf1 := pre_ck zf
  clear zf; obtain ⟨zk_x0, zf⟩ := zf1
  have zf1 := pre_ck zf
  clear zf; obtain ⟨zk_x1, zf⟩ := zf1
  have zf1 := pre_ck zf
  clear zf; obtain ⟨zk_x2, zf⟩ := zf1
  refine g_istore h [(8, .int s0), (0, rv G.1 x0), (1, rv G.1 x1), (2, rv G.1 x2), (3, .int x3), (4, .int x4)] (by decide) rfl dX8_evaluate_187 ?_
  refine g_goto h 292 (by decide) dX8_evaluate_189 ?_
  refine g_sub h [1, 2, 3, 4, 5, 0] rfl ?_
  exact kX8_evaluate_b292 h zh8 zf

theorem kX8_evaluate_b182 {G : GX} (h : OKm G cX8_evaluate RX8 9 (some .int) { frames := 0, cells := 0, slots := 0, locals := 0 }) {a8 : Mem → Nat → Nat → Nat → Int32 → Int32 → Option (Int32 × Mem)} (zh8 : ∀ (M : Mem) (x0 : Nat) (x1 : Nat) (x2 : Nat) (x3 : Int32) (x4 : Int32) (res : (Int32 × Mem)), a8 M x0 x1 x2 x3 x4 = some res → GG G (Qm G (Pwi res) 0 0) 0 0 8 [(0, rv G.1 x0), (1, rv G.1 x1), (2, rv G.1 x2), (3, .int x3), (4, .int x4)] [] M) {M : Mem} {x0 : Nat} {x1 : Nat} {x2 : Nat} {x3 : Int32} {x4 : Int32} {res : (Int32 × Mem)} (zf : fX8_evaluate_b182 a8 M x0 x1 x2 x3 x4 = some res) : GG G (Qm G (Pwi res) 0 0) 0 0 182 [(0, rv G.1 x0), (1, rv G.1 x1), (2, rv G.1 x2), (3, .int x3), (4, .int x4)] [] M := by
  unfold fX8_evaluate_b182 at zf
  have zf1 := pre_ck zf
  clear zf; obtain ⟨zk_x0, zf⟩ := zf1
  have zf1 := pre_ck zf
  clear zf; obtain ⟨zk_x1, zf⟩ := zf1
  have zf1 := pre_ck zf
  clear zf; obtain ⟨zk_x2, zf⟩ := zf1
  refine g_iconst h 1 (v := 1) (by decide) dX8_evaluate_182 ?_
  refine g_goto h 187 (by decide) dX8_evaluate_183 ?_
  refine g_sub h [0, 1, 2, 3, 4] rfl ?_
  exact kX8_evaluate_b187 h zh8 zf

theorem kX8_evaluate_b290 {G : GX} (h : OKm G cX8_evaluate RX8 9 (some .int) { frames := 0, cells := 0, slots := 0, locals := 0 }) {a8 : Mem → Nat → Nat → Nat → Int32 → Int32 → Option (Int32 × Mem)} (zh8 : ∀ (M : Mem) (x0 : Nat) (x1 : Nat) (x2 : Nat) (x3 : Int32) (x4 : Int32) (res : (Int32 × Mem)), a8 M x0 x1 x2 x3 x4 = some res → GG G (Qm G (Pwi res) 0 0) 0 0 8 [(0, rv G.1 x0), (1, rv G.1 x1), (2, rv G.1 x2), (3, .int x3), (4, .int x4)] [] M) {M : Mem} {x0 : Nat} {x1 : Nat} {x2 : Nat} {x3 : Int32} {x4 : Int32} {s0 : Int32} {res : (Int32 × Mem)} (zf : fX8_evaluate_b290 a8 M x0 x1 x2 x3 x4 s0 = some res) : GG G (Qm G (Pwi res) 0 0) 0 0 290 [(0, rv G.1 x0), (1, rv G.1 x1), (2, rv G.1 x2), (3, .int x3), (4, .int x4)] [.int s0] M := by
  unfold fX8_evaluate_b290 at zf
  have zf1 := pre_ck zf
  clear zf; obtain ⟨zk_x0, zf⟩ := zf1
  have zf1 := pre_ck zf
  clear zf; obtain ⟨zk_x1, zf⟩ := zf1
  have zf1 := pre_ck zf
  clear zf; obtain ⟨zk_x2, zf⟩ := zf1
  refine g_istore h [(8, .int s0), (0, rv G.1 x0), (1, rv G.1 x1), (2, rv G.1 x2), (3, .int x3), (4, .int x4)] (by decide) rfl dX8_evaluate_290 ?_
  refine g_sub h [1, 2, 3, 4, 5, 0] rfl ?_
  exact kX8_evaluate_b292 h zh8 zf

theorem kX8_evaluate_b97 {G : GX} (h : OKm G cX8_evaluate RX8 9 (some .int) { frames := 0, cells := 0, slots := 0, locals := 0 }) {a8 : Mem → Nat → Nat → Nat → Int32 → Int32 → Option (Int32 × Mem)} (zh8 : ∀ (M : Mem) (x0 : Nat) (x1 : Nat) (x2 : Nat) (x3 : Int32) (x4 : Int32) (res : (Int32 × Mem)), a8 M x0 x1 x2 x3 x4 = some res → GG G (Qm G (Pwi res) 0 0) 0 0 8 [(0, rv G.1 x0), (1, rv G.1 x1), (2, rv G.1 x2), (3, .int x3), (4, .int x4)] [] M) {M : Mem} {x0 : Nat} {x1 : Nat} {x2 : Nat} {x3 : Int32} {x4 : Int32} {s0 : Int32} {s1 : Int32} {s2 : Nat} {res : (Int32 × Mem)} (zf : fX8_evaluate_b97 a8 M x0 x1 x2 x3 x4 s0 s1 s2 = some res) : GG G (Qm G (Pwi res) 0 0) 0 0 97 [(0, rv G.1 x0), (1, rv G.1 x1), (2, rv G.1 x2), (3, .int x3), (4, .int x4)] [.int s0, .int s1, rv G.1 s2] M := by
  unfold fX8_evaluate_b97 at zf
  have zf1 := pre_ck zf
  clear zf; obtain ⟨zk_x0, zf⟩ := zf1
  have zf1 := pre_ck zf
  clear zf; obtain ⟨zk_x1, zf⟩ := zf1
  have zf1 := pre_ck zf
  clear zf; obtain ⟨zk_x2, zf⟩ := zf1
  have zf1 := pre_ck zf
  clear zf; obtain ⟨zk_s2, zf⟩ := zf1
  refine g_iast h (ln s2) zk_s2 rfl zf dX8_evaluate_97 ?_
  clear zf; intro Mq14 zf
  refine g_goto h 299 (by decide) dX8_evaluate_98 ?_
  refine g_sub h [0, 1, 2, 3, 4] rfl ?_
  exact kX8_evaluate_b299 h zh8 zf

theorem kX8_evaluate_b59 {G : GX} (h : OKm G cX8_evaluate RX8 9 (some .int) { frames := 0, cells := 0, slots := 0, locals := 0 }) {a8 : Mem → Nat → Nat → Nat → Int32 → Int32 → Option (Int32 × Mem)} (zh8 : ∀ (M : Mem) (x0 : Nat) (x1 : Nat) (x2 : Nat) (x3 : Int32) (x4 : Int32) (res : (Int32 × Mem)), a8 M x0 x1 x2 x3 x4 = some res → GG G (Qm G (Pwi res) 0 0) 0 0 8 [(0, rv G.1 x0), (1, rv G.1 x1), (2, rv G.1 x2), (3, .int x3), (4, .int x4)] [] M) {M : Mem} {x0 : Nat} {x1 : Nat} {x2 : Nat} {x3 : Int32} {x4 : Int32} {s0 : Int32} {s1 : Int32} {s2 : Nat} {res : (Int32 × Mem)} (zf : fX8_evaluate_b59 a8 M x0 x1 x2 x3 x4 s0 s1 s2 = some res) : GG G (Qm G (Pwi res) 0 0) 0 0 59 [(0, rv G.1 x0), (1, rv G.1 x1), (2, rv G.1 x2), (3, .int x3), (4, .int x4)] [.int s0, .int s1, rv G.1 s2] M := by
  unfold fX8_evaluate_b59 at zf
  have zf1 := pre_ck zf
  clear zf; obtain ⟨zk_x0, zf⟩ := zf1
  have zf1 := pre_ck zf
  clear zf; obtain ⟨zk_x1, zf⟩ := zf1
  have zf1 := pre_ck zf
  clear zf; obtain ⟨zk_x2, zf⟩ := zf1
  have zf1 := pre_ck zf
  clear zf; obtain ⟨zk_s2, zf⟩ := zf1
  refine g_iast h (ln s2) zk_s2 rfl zf dX8_evaluate_59 ?_
  clear zf; intro Mq16 zf
  refine g_iinc h 3 3 rfl (v := x3 + 1) (congrArg (fun z => x3 + z) (by decide : Int32.ofInt (1) = (1 : Int32))) [(3, .int (x3 + 1)), (0, rv G.1 x0), (1, rv G.1 x1), (2, rv G.1 x2), (4, .int x4)] (by decide) rfl dX8_evaluate_60 ?_
  refine g_nmV zf ?_
  clear zf; intro vq17 zf
  refine g_goto h 299 (by decide) dX8_evaluate_63 ?_
  refine g_sub h [1, 2, 3, 0, 4] rfl ?_
  exact kX8_evaluate_b299 h zh8 zf

theorem kX8_evaluate_l8 {G : GX} (h : OKm G cX8_evaluate RX8 9 (some .int) { frames := 0, cells := 0, slots := 0, locals := 0 }) : ∀ (n : Nat) (M : Mem) (x0 : Nat) (x1 : Nat) (x2 : Nat) (x3 : Int32) (x4 : Int32) (res : (Int32 × Mem)), fX8_evaluate_l8 n M x0 x1 x2 x3 x4 = some res → GG G (Qm G (Pwi res) 0 0) 0 0 8 [(0, rv G.1 x0), (1, rv G.1 x1), (2, rv G.1 x2), (3, .int x3), (4, .int x4)] [] M := by
  intro n
  induction n with
  | zero => intro M x0 x1 x2 x3 x4 res zf; rw [fX8_evaluate_l8] at zf; cases zf
  | succ n ih =>
    intro M x0 x1 x2 x3 x4 res zf
    rw [fX8_evaluate_l8] at zf
    have zf1 := pre_ck zf
    clear zf; obtain ⟨zk_x0, zf⟩ := zf1
    have zf1 := pre_ck zf
    clear zf; obtain ⟨zk_x1, zf⟩ := zf1
    have zf1 := pre_ck zf
    clear zf; obtain ⟨zk_x2, zf⟩ := zf1
    refine g_iload h 4 rfl dX8_evaluate_8 ?_
    refine g_aload_n h 0 rfl dX8_evaluate_10 ?_
    refine gfX8_13 h zk_x0 dX8_evaluate_11 ?_
    refine g_nmI zf ?_
    clear zf; intro vq2 zf
    refine g_ic_ge h 305 (by decide) zf dX8_evaluate_14 ?_ ?_ <;> clear zf <;> intro zf
    · refine g_iload_n h 3 rfl dX8_evaluate_305 ?_
      refine g_if_le h 315 (by decide) zf dX8_evaluate_306 ?_ ?_ <;> clear zf <;> intro zf
      · refine g_iconst h 0 (v := 0) (by decide) dX8_evaluate_315 ?_
        obtain rfl := Option.some.inj zf
        exact g_iret h rfl ⟨rfl, rfl⟩ (Nat.le_refl _) (Nat.le_refl _) dX8_evaluate_316
      · refine g_aload_n h 2 rfl dX8_evaluate_309 ?_
        refine g_iconst h 0 (v := 0) (by decide) dX8_evaluate_310 ?_
        refine g_iald h (ln x2) zk_x2 rfl zf dX8_evaluate_311 ?_
        clear zf; intro vq3 zf
        refine g_goto h 316 (by decide) dX8_evaluate_312 ?_
        obtain rfl := Option.some.inj zf
        exact g_iret h rfl ⟨rfl, rfl⟩ (Nat.le_refl _) (Nat.le_refl _) dX8_evaluate_316
    · refine g_aload_n h 0 rfl dX8_evaluate_17 ?_
      refine gfX8_20 h zk_x0 dX8_evaluate_18 ?_
      refine g_iload h 4 rfl dX8_evaluate_21 ?_
      refine g_iald h 700 (kfrc zk_x0) (lfrc zk_x0) zf dX8_evaluate_23 ?_
      clear zf; intro vq4 zf
      refine g_istore h [(5, .int vq4), (0, rv G.1 x0), (1, rv G.1 x1), (2, rv G.1 x2), (3, .int x3), (4, .int x4)] (by decide) rfl dX8_evaluate_24 ?_
      refine g_iload h 0 rfl dX8_evaluate_26 ?_
      refine g_bipush h (-6) (v := (-6)) (by decide) dX8_evaluate_28 ?_
      refine g_ic_lt h 66 (by decide) zf dX8_evaluate_30 ?_ ?_ <;> clear zf <;> intro zf
      · refine g_iload h 0 rfl dX8_evaluate_66 ?_
        refine g_bipush h (-7) (v := (-7)) (by decide) dX8_evaluate_68 ?_
        refine g_ic_ne h 101 (by decide) zf dX8_evaluate_70 ?_ ?_ <;> clear zf <;> intro zf
        · refine g_iload_n h 4 rfl dX8_evaluate_101 ?_
          refine g_iconst h 2 (v := 2) (by decide) dX8_evaluate_102 ?_
          refine g_ic_ge h 108 (by decide) zf dX8_evaluate_103 ?_ ?_ <;> clear zf <;> intro zf
          · refine g_iinc h 3 4 rfl (v := x3 + (-1)) (congrArg (fun z => x3 + z) (by decide : Int32.ofInt (-1) = (-1 : Int32))) [(3, .int (x3 + (-1))), (5, .int vq4), (0, rv G.1 x0), (1, rv G.1 x1), (2, rv G.1 x2), (4, .int x4)] (by decide) rfl dX8_evaluate_108 ?_
            refine g_nmV zf ?_
            clear zf; intro vq5 zf
            refine g_aload_n h 4 rfl dX8_evaluate_111 ?_
            refine g_iload_n h 0 rfl dX8_evaluate_112 ?_
            refine g_iconst h 1 (v := 1) (by decide) dX8_evaluate_113 ?_
            refine g_isub h dX8_evaluate_114 ?_
            refine g_iald h (ln x2) zk_x2 rfl zf dX8_evaluate_115 ?_
            clear zf; intro vq6 zf
            refine g_istore h [(6, .int vq6), (3, .int vq5), (5, .int vq4), (0, rv G.1 x0), (1, rv G.1 x1), (2, rv G.1 x2), (4, .int x4)] (by decide) rfl dX8_evaluate_116 ?_
            refine g_aload_n h 5 rfl dX8_evaluate_118 ?_
            refine g_iload_n h 1 rfl dX8_evaluate_119 ?_
            refine g_iald h (ln x2) zk_x2 rfl zf dX8_evaluate_120 ?_
            clear zf; intro vq7 zf
            refine g_istore h [(7, .int vq7), (6, .int vq6), (3, .int vq5), (5, .int vq4), (0, rv G.1 x0), (1, rv G.1 x1), (2, rv G.1 x2), (4, .int x4)] (by decide) rfl dX8_evaluate_121 ?_
            refine g_iconst h 0 (v := 0) (by decide) dX8_evaluate_123 ?_
            refine g_istore h [(8, .int 0), (7, .int vq7), (6, .int vq6), (3, .int vq5), (5, .int vq4), (0, rv G.1 x0), (1, rv G.1 x1), (2, rv G.1 x2), (4, .int x4)] (by decide) rfl dX8_evaluate_124 ?_
            refine g_iload h 4 rfl dX8_evaluate_126 ?_
            by_cases zx0 : vq4 = (-14)
            · rw [if_pos zx0] at zf
              refine g_tabIn h (off := 138) 266 (by rw [zx0]; decide) (by rw [zx0]; decide) (by rw [zx0]; decide) (by decide) dX8_evaluate_128 ?_
              refine g_iload h 2 rfl dX8_evaluate_266 ?_
              refine g_iload h 1 rfl dX8_evaluate_268 ?_
              refine g_imul h dX8_evaluate_270 ?_
              refine g_nmI zf ?_
              clear zf; intro vq8 zf
              refine g_istore h [(8, .int vq8), (7, .int vq7), (6, .int vq6), (3, .int vq5), (5, .int vq4), (0, rv G.1 x0), (1, rv G.1 x1), (2, rv G.1 x2), (4, .int x4)] (by decide) rfl dX8_evaluate_271 ?_
              refine g_goto h 292 (by decide) dX8_evaluate_273 ?_
              refine g_sub h [5, 6, 7, 3, 8, 0] rfl ?_
              exact kX8_evaluate_b292 h ih zf
            rw [if_neg zx0] at zf
            have zy0 : vq4.toInt ≠ (-14) := fun q => zx0 (Int32.toInt_inj.mp (by rw [q]; rfl))
            by_cases zx1 : vq4 = (-13)
            · rw [if_pos zx1] at zf
              refine g_tabIn h (off := 128) 256 (by rw [zx1]; decide) (by rw [zx1]; decide) (by rw [zx1]; decide) (by decide) dX8_evaluate_128 ?_
              refine g_iload h 2 rfl dX8_evaluate_256 ?_
              refine g_iload h 1 rfl dX8_evaluate_258 ?_
              refine g_isub h dX8_evaluate_260 ?_
              refine g_nmI zf ?_
              clear zf; intro vq11 zf
              refine g_istore h [(8, .int vq11), (7, .int vq7), (6, .int vq6), (3, .int vq5), (5, .int vq4), (0, rv G.1 x0), (1, rv G.1 x1), (2, rv G.1 x2), (4, .int x4)] (by decide) rfl dX8_evaluate_261 ?_
              refine g_goto h 292 (by decide) dX8_evaluate_263 ?_
              refine g_sub h [5, 6, 7, 3, 8, 0] rfl ?_
              exact kX8_evaluate_b292 h ih zf
            rw [if_neg zx1] at zf
            have zy1 : vq4.toInt ≠ (-13) := fun q => zx1 (Int32.toInt_inj.mp (by rw [q]; rfl))
            by_cases zx2 : vq4 = (-12)
            · rw [if_pos zx2] at zf
              refine g_tabIn h (off := 118) 246 (by rw [zx2]; decide) (by rw [zx2]; decide) (by rw [zx2]; decide) (by decide) dX8_evaluate_128 ?_
              refine g_iload h 2 rfl dX8_evaluate_246 ?_
              refine g_iload h 1 rfl dX8_evaluate_248 ?_
              refine g_iadd h dX8_evaluate_250 ?_
              refine g_nmI zf ?_
              clear zf; intro vq12 zf
              refine g_istore h [(8, .int vq12), (7, .int vq7), (6, .int vq6), (3, .int vq5), (5, .int vq4), (0, rv G.1 x0), (1, rv G.1 x1), (2, rv G.1 x2), (4, .int x4)] (by decide) rfl dX8_evaluate_251 ?_
              refine g_goto h 292 (by decide) dX8_evaluate_253 ?_
              refine g_sub h [5, 6, 7, 3, 8, 0] rfl ?_
              exact kX8_evaluate_b292 h ih zf
            rw [if_neg zx2] at zf
            have zy2 : vq4.toInt ≠ (-12) := fun q => zx2 (Int32.toInt_inj.mp (by rw [q]; rfl))
            by_cases zx3 : vq4 = (-11)
            · rw [if_pos zx3] at zf
              refine g_tabIn h (off := 101) 229 (by rw [zx3]; decide) (by rw [zx3]; decide) (by rw [zx3]; decide) (by decide) dX8_evaluate_128 ?_
              refine g_iload h 2 rfl dX8_evaluate_229 ?_
              refine g_iload h 1 rfl dX8_evaluate_231 ?_
              refine g_ic_ne h 240 (by decide) zf dX8_evaluate_233 ?_ ?_ <;> clear zf <;> intro zf
              · refine g_iconst h 0 (v := 0) (by decide) dX8_evaluate_240 ?_
                refine g_sub h [5, 6, 7, 3, 8] rfl ?_
                exact kX8_evaluate_b241 h ih zf
              · refine g_iconst h 1 (v := 1) (by decide) dX8_evaluate_236 ?_
                refine g_goto h 241 (by decide) dX8_evaluate_237 ?_
                refine g_sub h [5, 6, 7, 3, 8] rfl ?_
                exact kX8_evaluate_b241 h ih zf
            rw [if_neg zx3] at zf
            have zy3 : vq4.toInt ≠ (-11) := fun q => zx3 (Int32.toInt_inj.mp (by rw [q]; rfl))
            by_cases zx4 : vq4 = (-10)
            · rw [if_pos zx4] at zf
              refine g_tabIn h (off := 84) 212 (by rw [zx4]; decide) (by rw [zx4]; decide) (by rw [zx4]; decide) (by decide) dX8_evaluate_128 ?_
              refine g_iload h 2 rfl dX8_evaluate_212 ?_
              refine g_iload h 1 rfl dX8_evaluate_214 ?_
              refine g_ic_ge h 223 (by decide) zf dX8_evaluate_216 ?_ ?_ <;> clear zf <;> intro zf
              · refine g_iconst h 0 (v := 0) (by decide) dX8_evaluate_223 ?_
                refine g_sub h [5, 6, 7, 3, 8] rfl ?_
                exact kX8_evaluate_b224 h ih zf
              · refine g_iconst h 1 (v := 1) (by decide) dX8_evaluate_219 ?_
                refine g_goto h 224 (by decide) dX8_evaluate_220 ?_
                refine g_sub h [5, 6, 7, 3, 8] rfl ?_
                exact kX8_evaluate_b224 h ih zf
            rw [if_neg zx4] at zf
            have zy4 : vq4.toInt ≠ (-10) := fun q => zx4 (Int32.toInt_inj.mp (by rw [q]; rfl))
            by_cases zx5 : vq4 = (-9)
            · rw [if_pos zx5] at zf
              refine g_tabIn h (off := 64) 192 (by rw [zx5]; decide) (by rw [zx5]; decide) (by rw [zx5]; decide) (by decide) dX8_evaluate_128 ?_
              refine g_iload h 2 rfl dX8_evaluate_192 ?_
              refine g_if_eq h 206 (by decide) zf dX8_evaluate_194 ?_ ?_ <;> clear zf <;> intro zf
              · refine g_sub h [5, 6, 7, 3, 8] rfl ?_
                exact kX8_evaluate_b206 h ih zf
              · refine g_iload h 1 rfl dX8_evaluate_197 ?_
                refine g_if_eq h 206 (by decide) zf dX8_evaluate_199 ?_ ?_ <;> clear zf <;> intro zf
                · refine g_sub h [5, 6, 7, 3, 8] rfl ?_
                  exact kX8_evaluate_b206 h ih zf
                · refine g_iconst h 1 (v := 1) (by decide) dX8_evaluate_202 ?_
                  refine g_goto h 207 (by decide) dX8_evaluate_203 ?_
                  refine g_sub h [5, 6, 7, 3, 8] rfl ?_
                  exact kX8_evaluate_b207 h ih zf
            rw [if_neg zx5] at zf
            have zy5 : vq4.toInt ≠ (-9) := fun q => zx5 (Int32.toInt_inj.mp (by rw [q]; rfl))
            by_cases zx6 : vq4 = (-8)
            · rw [if_pos zx6] at zf
              refine g_tabIn h (off := 44) 172 (by rw [zx6]; decide) (by rw [zx6]; decide) (by rw [zx6]; decide) (by decide) dX8_evaluate_128 ?_
              refine g_iload h 2 rfl dX8_evaluate_172 ?_
              refine g_if_ne h 182 (by decide) zf dX8_evaluate_174 ?_ ?_ <;> clear zf <;> intro zf
              · refine g_sub h [5, 6, 7, 3, 8] rfl ?_
                exact kX8_evaluate_b182 h ih zf
              · refine g_iload h 1 rfl dX8_evaluate_177 ?_
                refine g_if_eq h 186 (by decide) zf dX8_evaluate_179 ?_ ?_ <;> clear zf <;> intro zf
                · refine g_iconst h 0 (v := 0) (by decide) dX8_evaluate_186 ?_
                  refine g_sub h [5, 6, 7, 3, 8] rfl ?_
                  exact kX8_evaluate_b187 h ih zf
                · refine g_sub h [5, 6, 7, 3, 8] rfl ?_
                  exact kX8_evaluate_b182 h ih zf
            rw [if_neg zx6] at zf
            have zy6 : vq4.toInt ≠ (-8) := fun q => zx6 (Int32.toInt_inj.mp (by rw [q]; rfl))
            refine g_tabOut h 276 (by omega) (by decide) dX8_evaluate_128 ?_
            refine g_iload h 1 rfl dX8_evaluate_276 ?_
            refine g_if_ne h 285 (by decide) zf dX8_evaluate_278 ?_ ?_ <;> clear zf <;> intro zf
            · refine g_iload h 2 rfl dX8_evaluate_285 ?_
              refine g_iload h 1 rfl dX8_evaluate_287 ?_
              have zf1 := pre_if zf
              clear zf; obtain ⟨zne, zf⟩ := zf1
              refine g_idiv h zne dX8_evaluate_289 ?_
              refine g_sub h [5, 6, 7, 3, 8] rfl ?_
              exact kX8_evaluate_b290 h ih zf
            · refine g_iconst h 0 (v := 0) (by decide) dX8_evaluate_281 ?_
              refine g_goto h 290 (by decide) dX8_evaluate_282 ?_
              refine g_sub h [5, 6, 7, 3, 8] rfl ?_
              exact kX8_evaluate_b290 h ih zf
          · refine g_iconst h 0 (v := 0) (by decide) dX8_evaluate_106 ?_
            obtain rfl := Option.some.inj zf
            exact g_iret h rfl ⟨rfl, rfl⟩ (Nat.le_refl _) (Nat.le_refl _) dX8_evaluate_107
        · refine g_iload_n h 4 rfl dX8_evaluate_73 ?_
          refine g_iconst h 1 (v := 1) (by decide) dX8_evaluate_74 ?_
          refine g_ic_ge h 80 (by decide) zf dX8_evaluate_75 ?_ ?_ <;> clear zf <;> intro zf
          · refine g_aload_n h 3 rfl dX8_evaluate_80 ?_
            refine g_iload_n h 4 rfl dX8_evaluate_81 ?_
            refine g_iconst h 1 (v := 1) (by decide) dX8_evaluate_82 ?_
            refine g_isub h dX8_evaluate_83 ?_
            refine g_aload_n h 3 rfl dX8_evaluate_84 ?_
            refine g_iload_n h 4 rfl dX8_evaluate_85 ?_
            refine g_iconst h 1 (v := 1) (by decide) dX8_evaluate_86 ?_
            refine g_isub h dX8_evaluate_87 ?_
            refine g_iald h (ln x2) zk_x2 rfl zf dX8_evaluate_88 ?_
            clear zf; intro vq13 zf
            refine g_if_ne h 96 (by decide) zf dX8_evaluate_89 ?_ ?_ <;> clear zf <;> intro zf
            · refine g_iconst h 0 (v := 0) (by decide) dX8_evaluate_96 ?_
              refine g_sub h [1, 2, 3, 4, 5] rfl ?_
              exact kX8_evaluate_b97 h ih zf
            · refine g_iconst h 1 (v := 1) (by decide) dX8_evaluate_92 ?_
              refine g_goto h 97 (by decide) dX8_evaluate_93 ?_
              refine g_sub h [1, 2, 3, 4, 5] rfl ?_
              exact kX8_evaluate_b97 h ih zf
          · refine g_iconst h 0 (v := 0) (by decide) dX8_evaluate_78 ?_
            obtain rfl := Option.some.inj zf
            exact g_iret h rfl ⟨rfl, rfl⟩ (Nat.le_refl _) (Nat.le_refl _) dX8_evaluate_79
      · refine g_iload_n h 4 rfl dX8_evaluate_33 ?_
        refine g_aload_n h 3 rfl dX8_evaluate_34 ?_
        refine g_ilen h (ln x2) (z := Int32.ofNat (ln x2)) zk_x2 rfl rfl dX8_evaluate_35 ?_
        refine g_ic_lt h 41 (by decide) zf dX8_evaluate_36 ?_ ?_ <;> clear zf <;> intro zf
        · refine g_aload_n h 3 rfl dX8_evaluate_41 ?_
          refine g_iload_n h 4 rfl dX8_evaluate_42 ?_
          refine g_iload h 0 rfl dX8_evaluate_43 ?_
          refine g_if_lt h 53 (by decide) zf dX8_evaluate_45 ?_ ?_ <;> clear zf <;> intro zf
          · refine g_aload_n h 2 rfl dX8_evaluate_53 ?_
            refine g_iconst h (-1) (v := (-1)) (by decide) dX8_evaluate_54 ?_
            refine g_iload h 0 rfl dX8_evaluate_55 ?_
            refine g_isub h dX8_evaluate_57 ?_
            refine g_iald h (ln x1) zk_x1 rfl zf dX8_evaluate_58 ?_
            clear zf; intro vq15 zf
            refine g_sub h [1, 2, 3, 4, 5] rfl ?_
            exact kX8_evaluate_b59 h ih zf
          · refine g_iload h 0 rfl dX8_evaluate_48 ?_
            refine g_goto h 59 (by decide) dX8_evaluate_50 ?_
            refine g_sub h [1, 2, 3, 4, 5] rfl ?_
            exact kX8_evaluate_b59 h ih zf
        · refine g_iconst h 0 (v := 0) (by decide) dX8_evaluate_39 ?_
          obtain rfl := Option.some.inj zf
          exact g_iret h rfl ⟨rfl, rfl⟩ (Nat.le_refl _) (Nat.le_refl _) dX8_evaluate_40

theorem kX8_evaluate_e0 {G : GX} (h : OKm G cX8_evaluate RX8 9 (some .int) { frames := 0, cells := 0, slots := 0, locals := 0 }) {M : Mem} {x0 : Nat} {x1 : Nat} {x2 : Nat} {res : (Int32 × Mem)} (zf : fX8_evaluate M x0 x1 x2 = some res) : GG G (Qm G (Pwi res) 0 0) 0 0 0 [(0, rv G.1 x0), (1, rv G.1 x1), (2, rv G.1 x2)] [] M := by
  unfold fX8_evaluate at zf
  have zf1 := pre_ck zf
  clear zf; obtain ⟨zk_x0, zf⟩ := zf1
  have zf1 := pre_ck zf
  clear zf; obtain ⟨zk_x1, zf⟩ := zf1
  have zf1 := pre_ck zf
  clear zf; obtain ⟨zk_x2, zf⟩ := zf1
  refine g_iconst h 0 (v := 0) (by decide) dX8_evaluate_0 ?_
  refine g_istore_n h rfl [(3, .int 0), (0, rv G.1 x0), (1, rv G.1 x1), (2, rv G.1 x2)] (by decide) rfl dX8_evaluate_1 ?_
  refine g_aload_n h 1 rfl dX8_evaluate_2 ?_
  refine gfX8_7 h zk_x0 dX8_evaluate_3 ?_
  refine g_nmI zf ?_
  clear zf; intro vq1 zf
  refine g_istore h [(4, .int vq1), (3, .int 0), (0, rv G.1 x0), (1, rv G.1 x1), (2, rv G.1 x2)] (by decide) rfl dX8_evaluate_6 ?_
  refine g_sub h [2, 3, 4, 1, 0] rfl ?_
  exact kX8_evaluate_l8 h _ _ _ _ _ _ _ _ zf

theorem cmX8_evaluate {l : Launch} {w : WX} {M : Mem} {x0 : Nat} {x1 : Nat} {x2 : Nat} {res : (Int32 × Mem)} (zf : fX8_evaluate M x0 x1 x2 = some res) : CM l w yX8_evaluate cX8_evaluate 9 (some .int) { frames := 0, cells := 0, slots := 0, locals := 0 } 0 0 [rv w x0, rv w x1, rv w x2] M (Pwi res) := by
  refine CM_of (by decide) (Nat.le_of_ble_eq_true rfl) (fun G hw hl h => ?_)
  subst hw
  exact kX8_evaluate_e0 h zf

-- X7_liking
theorem kX7_liking_b56 {G : GX} (h : OKm G cX7_liking RX7 4 (some .int) { frames := 1, cells := 0, slots := 0, locals := 28 }) {M : Mem} {x1 : Nat} {s0 : Int32} {s1 : Int32} {res : (Int32 × Mem)} (zf : fX7_liking_b56 M x1 s0 s1 = some res) : GG G (Qm G (Pwi res) 0 0) 0 0 56 [(0, rv G.1 28), (1, rv G.1 x1)] [.int s0, .int s1, rv G.1 47] M := by
  unfold fX7_liking_b56 at zf
  have zf1 := pre_ck zf
  clear zf; obtain ⟨zk_x1, zf⟩ := zf1
  refine g_iast h 6 (by decide : kd 47 = 20) (by decide) zf dX7_liking_56 ?_
  clear zf; intro Mq6 zf
  refine g_aload_n h 0 rfl dX7_liking_57 ?_
  refine gfX7_24 h (by decide : kd 28 = 6) dX7_liking_58 ?_
  refine g_iconst h 3 (v := 3) (by decide) dX7_liking_61 ?_
  refine g_aload_n h 1 rfl dX7_liking_62 ?_
  refine gfX7_81 h zk_x1 dX7_liking_63 ?_
  refine g_nmI zf ?_
  clear zf; intro vq7 zf
  refine g_iast h 6 (by decide : kd 47 = 20) (by decide) zf dX7_liking_66 ?_
  clear zf; intro Mq8 zf
  refine g_aload_n h 0 rfl dX7_liking_67 ?_
  refine gfX7_24 h (by decide : kd 28 = 6) dX7_liking_68 ?_
  refine g_iconst h 4 (v := 4) (by decide) dX7_liking_71 ?_
  refine g_aload_n h 1 rfl dX7_liking_72 ?_
  refine gfX7_90 h zk_x1 dX7_liking_73 ?_
  refine g_nmI zf ?_
  clear zf; intro vq9 zf
  refine g_iast h 6 (by decide : kd 47 = 20) (by decide) zf dX7_liking_76 ?_
  clear zf; intro Mq10 zf
  refine g_aload_n h 0 rfl dX7_liking_77 ?_
  refine gfX7_12 h (by decide : kd 28 = 6) dX7_liking_78 ?_
  refine g_nmR zf ?_
  clear zf; intro oq11 zf
  have zf1 := pre_ck zf
  clear zf; obtain ⟨zk_oq11, zf⟩ := zf1
  refine gfX7_155 h zk_oq11 dX7_liking_81 ?_
  refine g_aload_n h 0 rfl dX7_liking_84 ?_
  refine gfX7_24 h (by decide : kd 28 = 6) dX7_liking_85 ?_
  refine g_aload_n h 0 rfl dX7_liking_88 ?_
  refine gfX7_27 h (by decide : kd 28 = 6) dX7_liking_89 ?_
  have zf1 := b2_some zf
  clear zf; obtain ⟨vq12, Mq13, zq, zf⟩ := zf1
  refine g_callVwi (As := [rv G.1 47, rv G.1 48]) (rest := []) h ceX8_evaluate mlX7_142 imX8_evaluate seX8_evaluate (by rfl) (kd_lt (by rw [(kf4_16 zk_oq11)]; decide)) (ent_7 (kf4_16 zk_oq11)) rfl rfl ⟨by decide, by decide⟩ ⟨by decide, by decide⟩ rfl dX7_liking_92 rfl (Nat.le_of_ble_eq_true rfl) (cmX8_evaluate zq) ?_
  obtain rfl := Option.some.inj zf
  exact g_iret h rfl ⟨rfl, rfl⟩ (Nat.le_refl _) (Nat.le_refl _) dX7_liking_95

theorem kX7_liking_b30 {G : GX} (h : OKm G cX7_liking RX7 4 (some .int) { frames := 1, cells := 0, slots := 0, locals := 28 }) {M : Mem} {x1 : Nat} {x2 : Int32} {x3 : Int32} {s0 : Int32} {s1 : Int32} {res : (Int32 × Mem)} (zf : fX7_liking_b30 M x1 x2 x3 s0 s1 = some res) : GG G (Qm G (Pwi res) 0 0) 0 0 30 [(0, rv G.1 28), (1, rv G.1 x1), (2, .int x2), (3, .int x3)] [.int s0, .int s1, rv G.1 47] M := by
  unfold fX7_liking_b30 at zf
  have zf1 := pre_ck zf
  clear zf; obtain ⟨zk_x1, zf⟩ := zf1
  refine g_iast h 6 (by decide : kd 47 = 20) (by decide) zf dX7_liking_30 ?_
  clear zf; intro Mq4 zf
  refine g_aload_n h 0 rfl dX7_liking_31 ?_
  refine gfX7_24 h (by decide : kd 28 = 6) dX7_liking_32 ?_
  refine g_iconst h 2 (v := 2) (by decide) dX7_liking_35 ?_
  refine g_iload_n h 3 rfl dX7_liking_36 ?_
  refine g_if_ne h 50 (by decide) zf dX7_liking_37 ?_ ?_ <;> clear zf <;> intro zf
  · refine g_aload_n h 1 rfl dX7_liking_50 ?_
    refine gfX7_162 h zk_x1 dX7_liking_51 ?_
    refine g_iload_n h 2 rfl dX7_liking_54 ?_
    refine g_iald h 6 (kf2_4 zk_x1) (lf2_4 zk_x1) zf dX7_liking_55 ?_
    clear zf; intro vq5 zf
    refine g_sub h [0, 1] rfl ?_
    exact kX7_liking_b56 h zf
  · refine g_aload_n h 1 rfl dX7_liking_40 ?_
    refine gfX7_162 h zk_x1 dX7_liking_41 ?_
    refine g_iload_n h 2 rfl dX7_liking_44 ?_
    refine g_iald h 6 (kf2_4 zk_x1) (lf2_4 zk_x1) zf dX7_liking_45 ?_
    clear zf; intro vq14 zf
    refine g_ineg h dX7_liking_46 ?_
    refine g_goto h 56 (by decide) dX7_liking_47 ?_
    refine g_sub h [0, 1] rfl ?_
    exact kX7_liking_b56 h zf

theorem kX7_liking_e0 {G : GX} (h : OKm G cX7_liking RX7 4 (some .int) { frames := 1, cells := 0, slots := 0, locals := 28 }) {M : Mem} {x1 : Nat} {x2 : Int32} {x3 : Int32} {res : (Int32 × Mem)} (zf : fX7_liking M x1 x2 x3 = some res) : GG G (Qm G (Pwi res) 0 0) 0 0 0 [(0, rv G.1 28), (1, rv G.1 x1), (2, .int x2), (3, .int x3)] [] M := by
  unfold fX7_liking at zf
  have zf1 := pre_ck zf
  clear zf; obtain ⟨zk_x1, zf⟩ := zf1
  refine g_aload_n h 0 rfl dX7_liking_0 ?_
  refine gfX7_24 h (by decide : kd 28 = 6) dX7_liking_1 ?_
  refine g_iconst h 0 (v := 0) (by decide) dX7_liking_4 ?_
  refine g_aload_n h 1 rfl dX7_liking_5 ?_
  refine gfX7_114 h zk_x1 dX7_liking_6 ?_
  refine g_iload_n h 3 rfl dX7_liking_9 ?_
  refine g_iald h 2 (kf2_2 zk_x1) (lf2_2 zk_x1) zf dX7_liking_10 ?_
  clear zf; intro vq1 zf
  refine g_iast h 6 (by decide : kd 47 = 20) (by decide) zf dX7_liking_11 ?_
  clear zf; intro Mq2 zf
  refine g_aload_n h 0 rfl dX7_liking_12 ?_
  refine gfX7_24 h (by decide : kd 28 = 6) dX7_liking_13 ?_
  refine g_iconst h 1 (v := 1) (by decide) dX7_liking_16 ?_
  refine g_aload_n h 1 rfl dX7_liking_17 ?_
  refine gfX7_55 h zk_x1 dX7_liking_18 ?_
  refine g_nmI zf ?_
  clear zf; intro vq3 zf
  refine g_iload_n h 3 rfl dX7_liking_21 ?_
  refine g_ic_ne h 29 (by decide) zf dX7_liking_22 ?_ ?_ <;> clear zf <;> intro zf
  · refine g_iconst h 0 (v := 0) (by decide) dX7_liking_29 ?_
    refine g_sub h [0, 1, 2, 3] rfl ?_
    exact kX7_liking_b30 h zf
  · refine g_iconst h 1 (v := 1) (by decide) dX7_liking_25 ?_
    refine g_goto h 30 (by decide) dX7_liking_26 ?_
    refine g_sub h [0, 1, 2, 3] rfl ?_
    exact kX7_liking_b30 h zf

theorem cmX7_liking {l : Launch} {w : WX} {M : Mem} {x1 : Nat} {x2 : Int32} {x3 : Int32} {res : (Int32 × Mem)} (zf : fX7_liking M x1 x2 x3 = some res) : CM l w yX7_liking cX7_liking 4 (some .int) { frames := 1, cells := 0, slots := 0, locals := 28 } 0 0 [rv w 28, rv w x1, .int x2, .int x3] M (Pwi res) := by
  refine CM_of (by decide) (Nat.le_of_ble_eq_true rfl) (fun G hw hl h => ?_)
  subst hw
  exact kX7_liking_e0 h zf

-- X7_followers
theorem kX7_followers_b96 {G : GX} (h : OKm G cX7_followers RX7 6 (some .int) { frames := 2, cells := 0, slots := 0, locals := 51 }) {a5 : Mem → Nat → Int32 → Int32 → Int32 → Option (Int32 × Mem)} (zh5 : ∀ (M : Mem) (x1 : Nat) (x2 : Int32) (x3 : Int32) (x4 : Int32) (res : (Int32 × Mem)), a5 M x1 x2 x3 x4 = some res → GG G (Qm G (Pwi res) 0 0) 0 0 5 [(0, rv G.1 28), (1, rv G.1 x1), (2, .int x2), (3, .int x3), (4, .int x4)] [] M) {M : Mem} {x1 : Nat} {x2 : Int32} {x3 : Int32} {x4 : Int32} {res : (Int32 × Mem)} (zf : fX7_followers_b96 a5 M x1 x2 x3 x4 = some res) : GG G (Qm G (Pwi res) 0 0) 0 0 96 [(0, rv G.1 28), (1, rv G.1 x1), (2, .int x2), (3, .int x3), (4, .int x4)] [] M := by
  unfold fX7_followers_b96 at zf
  have zf1 := pre_ck zf
  clear zf; obtain ⟨zk_x1, zf⟩ := zf1
  refine g_iinc h 4 4 rfl (v := x4 + 1) (congrArg (fun z => x4 + z) (by decide : Int32.ofInt (1) = (1 : Int32))) [(4, .int (x4 + 1)), (0, rv G.1 28), (1, rv G.1 x1), (2, .int x2), (3, .int x3)] (by decide) rfl dX7_followers_96 ?_
  refine g_nmV zf ?_
  clear zf; intro vq6 zf
  refine g_goto h 5 (by decide) dX7_followers_99 ?_
  refine g_sub h [1, 2, 3, 4, 0] rfl ?_
  exact zh5 _ _ _ _ _ _ zf

theorem kX7_followers_b86 {G : GX} (h : OKm G cX7_followers RX7 6 (some .int) { frames := 2, cells := 0, slots := 0, locals := 51 }) {a5 : Mem → Nat → Int32 → Int32 → Int32 → Option (Int32 × Mem)} (zh5 : ∀ (M : Mem) (x1 : Nat) (x2 : Int32) (x3 : Int32) (x4 : Int32) (res : (Int32 × Mem)), a5 M x1 x2 x3 x4 = some res → GG G (Qm G (Pwi res) 0 0) 0 0 5 [(0, rv G.1 28), (1, rv G.1 x1), (2, .int x2), (3, .int x3), (4, .int x4)] [] M) {M : Mem} {x1 : Nat} {x2 : Int32} {x3 : Int32} {x4 : Int32} {s0 : Int32} {s1 : Int32} {res : (Int32 × Mem)} (zf : fX7_followers_b86 a5 M x1 x2 x3 x4 s0 s1 = some res) : GG G (Qm G (Pwi res) 0 0) 0 0 86 [(0, rv G.1 28), (1, rv G.1 x1), (2, .int x2), (3, .int x3), (4, .int x4)] [.int s0, .int s1] M := by
  unfold fX7_followers_b86 at zf
  have zf1 := pre_ck zf
  clear zf; obtain ⟨zk_x1, zf⟩ := zf1
  refine g_ic_ne h 96 (by decide) zf dX7_followers_86 ?_ ?_ <;> clear zf <;> intro zf
  · refine g_sub h [0, 1, 2, 3, 4] rfl ?_
    exact kX7_followers_b96 h zh5 zf
  · refine g_iload_n h 3 rfl dX7_followers_89 ?_
    refine g_iconst h 1 (v := 1) (by decide) dX7_followers_90 ?_
    refine g_iload h 4 rfl dX7_followers_91 ?_
    refine g_ishl h dX7_followers_93 ?_
    refine g_ior h dX7_followers_94 ?_
    refine g_nmI zf ?_
    clear zf; intro vq7 zf
    refine g_istore_n h rfl [(3, .int vq7), (0, rv G.1 28), (1, rv G.1 x1), (2, .int x2), (4, .int x4)] (by decide) rfl dX7_followers_95 ?_
    refine g_sub h [1, 2, 3, 0, 4] rfl ?_
    exact kX7_followers_b96 h zh5 zf

theorem kX7_followers_b72 {G : GX} (h : OKm G cX7_followers RX7 6 (some .int) { frames := 2, cells := 0, slots := 0, locals := 51 }) {a5 : Mem → Nat → Int32 → Int32 → Int32 → Option (Int32 × Mem)} (zh5 : ∀ (M : Mem) (x1 : Nat) (x2 : Int32) (x3 : Int32) (x4 : Int32) (res : (Int32 × Mem)), a5 M x1 x2 x3 x4 = some res → GG G (Qm G (Pwi res) 0 0) 0 0 5 [(0, rv G.1 28), (1, rv G.1 x1), (2, .int x2), (3, .int x3), (4, .int x4)] [] M) {M : Mem} {x1 : Nat} {x2 : Int32} {x3 : Int32} {x4 : Int32} {s0 : Int32} {res : (Int32 × Mem)} (zf : fX7_followers_b72 a5 M x1 x2 x3 x4 s0 = some res) : GG G (Qm G (Pwi res) 0 0) 0 0 72 [(0, rv G.1 28), (1, rv G.1 x1), (2, .int x2), (3, .int x3), (4, .int x4)] [.int s0] M := by
  unfold fX7_followers_b72 at zf
  have zf1 := pre_ck zf
  clear zf; obtain ⟨zk_x1, zf⟩ := zf1
  refine g_istore h [(5, .int s0), (0, rv G.1 28), (1, rv G.1 x1), (2, .int x2), (3, .int x3), (4, .int x4)] (by decide) rfl dX7_followers_72 ?_
  refine g_iload h 0 rfl dX7_followers_74 ?_
  refine g_iload_n h 3 rfl dX7_followers_76 ?_
  refine g_iconst h 1 (v := 1) (by decide) dX7_followers_77 ?_
  refine g_ic_ne h 85 (by decide) zf dX7_followers_78 ?_ ?_ <;> clear zf <;> intro zf
  · refine g_iconst h 0 (v := 0) (by decide) dX7_followers_85 ?_
    refine g_sub h [1, 2, 3, 4, 5] rfl ?_
    exact kX7_followers_b86 h zh5 zf
  · refine g_iconst h 1 (v := 1) (by decide) dX7_followers_81 ?_
    refine g_goto h 86 (by decide) dX7_followers_82 ?_
    refine g_sub h [1, 2, 3, 4, 5] rfl ?_
    exact kX7_followers_b86 h zh5 zf

theorem kX7_followers_l5 {G : GX} (h : OKm G cX7_followers RX7 6 (some .int) { frames := 2, cells := 0, slots := 0, locals := 51 }) : ∀ (n : Nat) (M : Mem) (x1 : Nat) (x2 : Int32) (x3 : Int32) (x4 : Int32) (res : (Int32 × Mem)), fX7_followers_l5 n M x1 x2 x3 x4 = some res → GG G (Qm G (Pwi res) 0 0) 0 0 5 [(0, rv G.1 28), (1, rv G.1 x1), (2, .int x2), (3, .int x3), (4, .int x4)] [] M := by
  intro n
  induction n with
  | zero => intro M x1 x2 x3 x4 res zf; rw [fX7_followers_l5] at zf; cases zf
  | succ n ih =>
    intro M x1 x2 x3 x4 res zf
    rw [fX7_followers_l5] at zf
    have zf1 := pre_ck zf
    clear zf; obtain ⟨zk_x1, zf⟩ := zf1
    refine g_iload h 4 rfl dX7_followers_5 ?_
    refine g_aload_n h 0 rfl dX7_followers_7 ?_
    refine gfX7_12 h (by decide : kd 28 = 6) dX7_followers_8 ?_
    refine g_nmR zf ?_
    clear zf; intro oq1 zf
    have zf1 := pre_ck zf
    clear zf; obtain ⟨zk_oq1, zf⟩ := zf1
    refine gfX7_152 h zk_oq1 dX7_followers_11 ?_
    refine g_nmI zf ?_
    clear zf; intro vq2 zf
    refine g_ic_ge h 102 (by decide) zf dX7_followers_14 ?_ ?_ <;> clear zf <;> intro zf
    · refine g_iload_n h 3 rfl dX7_followers_102 ?_
      obtain rfl := Option.some.inj zf
      exact g_iret h rfl ⟨rfl, rfl⟩ (Nat.le_refl _) (Nat.le_refl _) dX7_followers_103
    · refine g_aload_n h 0 rfl dX7_followers_17 ?_
      refine gfX7_12 h (by decide : kd 28 = 6) dX7_followers_18 ?_
      refine g_nmR zf ?_
      clear zf; intro oq3 zf
      have zf1 := pre_ck zf
      clear zf; obtain ⟨zk_oq3, zf⟩ := zf1
      refine gfX7_155 h zk_oq3 dX7_followers_21 ?_
      have zf1 := bd_some zf
      clear zf; obtain ⟨vq4, zq, zf⟩ := zf1
      refine g_callVri (As := []) (rest := []) h ceX8_isTold mlX7_128 imX8_isTold seX8_isTold (by rfl) (kd_lt (by rw [(kf4_16 zk_oq3)]; decide)) (ent_7 (kf4_16 zk_oq3)) rfl rfl ⟨by decide, by decide⟩ ⟨by decide, by decide⟩ rfl dX7_followers_24 rfl (Nat.le_of_ble_eq_true rfl) (cmX8_isTold zq) ?_
      refine g_if_eq h 57 (by decide) zf dX7_followers_27 ?_ ?_ <;> clear zf <;> intro zf
      · refine g_aload_n h 1 rfl dX7_followers_57 ?_
        refine gfX7_162 h zk_x1 dX7_followers_58 ?_
        refine g_iload h 4 rfl dX7_followers_61 ?_
        refine g_iald h 6 (kf2_4 zk_x1) (lf2_4 zk_x1) zf dX7_followers_63 ?_
        clear zf; intro vq5 zf
        refine g_if_le h 71 (by decide) zf dX7_followers_64 ?_ ?_ <;> clear zf <;> intro zf
        · refine g_iconst h 0 (v := 0) (by decide) dX7_followers_71 ?_
          refine g_sub h [0, 1, 2, 3, 4] rfl ?_
          exact kX7_followers_b72 h ih zf
        · refine g_iconst h 1 (v := 1) (by decide) dX7_followers_67 ?_
          refine g_goto h 72 (by decide) dX7_followers_68 ?_
          refine g_sub h [0, 1, 2, 3, 4] rfl ?_
          exact kX7_followers_b72 h ih zf
      · refine g_aload_n h 0 rfl dX7_followers_30 ?_
        refine g_aload_n h 1 rfl dX7_followers_31 ?_
        refine g_iload h 4 rfl dX7_followers_32 ?_
        refine g_iconst h 1 (v := 1) (by decide) dX7_followers_34 ?_
        have zf1 := b2_some zf
        clear zf; obtain ⟨vq8, Mq9, zq, zf⟩ := zf1
        refine g_callVwi (As := [rv G.1 x1, .int x4, .int 1]) (rest := []) h ceX7_liking mlX7_158 imX7_liking seX7_liking (by rfl) (kd_lt (by rw [(by decide : kd 28 = 6)]; decide)) (ent_6 (by decide : kd 28 = 6)) rfl rfl ⟨by decide, by decide⟩ ⟨by decide, by decide⟩ rfl dX7_followers_35 rfl (Nat.le_of_ble_eq_true rfl) (cmX7_liking zq) ?_
        refine g_aload_n h 0 rfl dX7_followers_38 ?_
        refine g_aload_n h 1 rfl dX7_followers_39 ?_
        refine g_iload h 4 rfl dX7_followers_40 ?_
        refine g_iconst h 0 (v := 0) (by decide) dX7_followers_42 ?_
        have zf1 := b2_some zf
        clear zf; obtain ⟨vq10, Mq11, zq, zf⟩ := zf1
        refine g_callVwi (As := [rv G.1 x1, .int x4, .int 0]) (rest := [.int vq8]) h ceX7_liking mlX7_158 imX7_liking seX7_liking (by rfl) (kd_lt (by rw [(by decide : kd 28 = 6)]; decide)) (ent_6 (by decide : kd 28 = 6)) rfl rfl ⟨by decide, by decide⟩ ⟨by decide, by decide⟩ rfl dX7_followers_43 rfl (Nat.le_of_ble_eq_true rfl) (cmX7_liking zq) ?_
        refine g_ic_le h 53 (by decide) zf dX7_followers_46 ?_ ?_ <;> clear zf <;> intro zf
        · refine g_iconst h 0 (v := 0) (by decide) dX7_followers_53 ?_
          refine g_goto h 72 (by decide) dX7_followers_54 ?_
          refine g_sub h [0, 1, 2, 3, 4] rfl ?_
          exact kX7_followers_b72 h ih zf
        · refine g_iconst h 1 (v := 1) (by decide) dX7_followers_49 ?_
          refine g_goto h 72 (by decide) dX7_followers_50 ?_
          refine g_sub h [0, 1, 2, 3, 4] rfl ?_
          exact kX7_followers_b72 h ih zf

theorem kX7_followers_e0 {G : GX} (h : OKm G cX7_followers RX7 6 (some .int) { frames := 2, cells := 0, slots := 0, locals := 51 }) {M : Mem} {x1 : Nat} {x2 : Int32} {res : (Int32 × Mem)} (zf : fX7_followers M x1 x2 = some res) : GG G (Qm G (Pwi res) 0 0) 0 0 0 [(0, rv G.1 28), (1, rv G.1 x1), (2, .int x2)] [] M := by
  unfold fX7_followers at zf
  have zf1 := pre_ck zf
  clear zf; obtain ⟨zk_x1, zf⟩ := zf1
  refine g_iconst h 0 (v := 0) (by decide) dX7_followers_0 ?_
  refine g_istore_n h rfl [(3, .int 0), (0, rv G.1 28), (1, rv G.1 x1), (2, .int x2)] (by decide) rfl dX7_followers_1 ?_
  refine g_iconst h 0 (v := 0) (by decide) dX7_followers_2 ?_
  refine g_istore h [(4, .int 0), (3, .int 0), (0, rv G.1 28), (1, rv G.1 x1), (2, .int x2)] (by decide) rfl dX7_followers_3 ?_
  refine g_sub h [2, 3, 4, 1, 0] rfl ?_
  exact kX7_followers_l5 h _ _ _ _ _ _ _ zf

theorem cmX7_followers {l : Launch} {w : WX} {M : Mem} {x1 : Nat} {x2 : Int32} {res : (Int32 × Mem)} (zf : fX7_followers M x1 x2 = some res) : CM l w yX7_followers cX7_followers 6 (some .int) { frames := 2, cells := 0, slots := 0, locals := 51 } 0 0 [rv w 28, rv w x1, .int x2] M (Pwi res) := by
  refine CM_of (by decide) (Nat.le_of_ble_eq_true rfl) (fun G hw hl h => ?_)
  subst hw
  exact kX7_followers_e0 h zf

-- X7_menOf
theorem kX7_menOf_b35 {G : GX} (h : OKm G cX7_menOf RX7 4 (some .int) { frames := 0, cells := 0, slots := 0, locals := 0 }) {a4 : Mem → Int32 → Int32 → Int32 → Option Int32} (zh4 : ∀ (M : Mem) (x1 : Int32) (x2 : Int32) (x3 : Int32) (res : Int32), a4 M x1 x2 x3 = some res → GG G (Qm G (Pri res M) 0 0) 0 0 4 [(0, rv G.1 28), (1, .int x1), (2, .int x2), (3, .int x3)] [] M) {M : Mem} {x1 : Int32} {x2 : Int32} {x3 : Int32} {res : Int32} (zf : fX7_menOf_b35 a4 M x1 x2 x3 = some res) : GG G (Qm G (Pri res M) 0 0) 0 0 35 [(0, rv G.1 28), (1, .int x1), (2, .int x2), (3, .int x3)] [] M := by
  unfold fX7_menOf_b35 at zf
  refine g_iinc h 3 3 rfl (v := x3 + 1) (congrArg (fun z => x3 + z) (by decide : Int32.ofInt (1) = (1 : Int32))) [(3, .int (x3 + 1)), (0, rv G.1 28), (1, .int x1), (2, .int x2)] (by decide) rfl dX7_menOf_35 ?_
  refine g_nmV zf ?_
  clear zf; intro vq3 zf
  refine g_goto h 4 (by decide) dX7_menOf_38 ?_
  refine g_sub h [1, 2, 3, 0] rfl ?_
  exact zh4 _ _ _ _ _ zf

theorem kX7_menOf_l4 {G : GX} (h : OKm G cX7_menOf RX7 4 (some .int) { frames := 0, cells := 0, slots := 0, locals := 0 }) : ∀ (n : Nat) (M : Mem) (x1 : Int32) (x2 : Int32) (x3 : Int32) (res : Int32), fX7_menOf_l4 n M x1 x2 x3 = some res → GG G (Qm G (Pri res M) 0 0) 0 0 4 [(0, rv G.1 28), (1, .int x1), (2, .int x2), (3, .int x3)] [] M := by
  intro n
  induction n with
  | zero => intro M x1 x2 x3 res zf; rw [fX7_menOf_l4] at zf; cases zf
  | succ n ih =>
    intro M x1 x2 x3 res zf
    rw [fX7_menOf_l4] at zf
    refine g_iload_n h 3 rfl dX7_menOf_4 ?_
    refine g_aload_n h 0 rfl dX7_menOf_5 ?_
    refine gfX7_12 h (by decide : kd 28 = 6) dX7_menOf_6 ?_
    refine g_nmR zf ?_
    clear zf; intro oq1 zf
    have zf1 := pre_ck zf
    clear zf; obtain ⟨zk_oq1, zf⟩ := zf1
    refine gfX7_152 h zk_oq1 dX7_menOf_9 ?_
    refine g_nmI zf ?_
    clear zf; intro vq2 zf
    refine g_ic_ge h 41 (by decide) zf dX7_menOf_12 ?_ ?_ <;> clear zf <;> intro zf
    · refine g_iload_n h 2 rfl dX7_menOf_41 ?_
      obtain rfl := Option.some.inj zf
      exact g_iret h rfl ⟨rfl, rfl⟩ (Nat.le_refl _) (Nat.le_refl _) dX7_menOf_42
    · refine g_iload_n h 1 rfl dX7_menOf_15 ?_
      refine g_iload_n h 3 rfl dX7_menOf_16 ?_
      refine g_ishr h dX7_menOf_17 ?_
      refine g_iconst h 1 (v := 1) (by decide) dX7_menOf_18 ?_
      refine g_iand h dX7_menOf_19 ?_
      refine g_if_eq h 35 (by decide) zf dX7_menOf_20 ?_ ?_ <;> clear zf <;> intro zf
      · refine g_sub h [0, 1, 2, 3] rfl ?_
        exact kX7_menOf_b35 h ih zf
      · refine g_iload_n h 2 rfl dX7_menOf_23 ?_
        refine g_aload_n h 0 rfl dX7_menOf_24 ?_
        refine gfX7_12 h (by decide : kd 28 = 6) dX7_menOf_25 ?_
        refine g_nmR zf ?_
        clear zf; intro oq4 zf
        have zf1 := pre_ck zf
        clear zf; obtain ⟨zk_oq4, zf⟩ := zf1
        refine gfX7_165 h zk_oq4 dX7_menOf_28 ?_
        refine g_iload_n h 3 rfl dX7_menOf_31 ?_
        refine g_iald h 6 (kf4_7 zk_oq4) (lf4_7 zk_oq4) zf dX7_menOf_32 ?_
        clear zf; intro vq5 zf
        refine g_iadd h dX7_menOf_33 ?_
        refine g_nmI zf ?_
        clear zf; intro vq6 zf
        refine g_istore_n h rfl [(2, .int vq6), (0, rv G.1 28), (1, .int x1), (3, .int x3)] (by decide) rfl dX7_menOf_34 ?_
        refine g_sub h [1, 2, 0, 3] rfl ?_
        exact kX7_menOf_b35 h ih zf

theorem kX7_menOf_e0 {G : GX} (h : OKm G cX7_menOf RX7 4 (some .int) { frames := 0, cells := 0, slots := 0, locals := 0 }) {M : Mem} {x1 : Int32} {res : Int32} (zf : fX7_menOf M x1 = some res) : GG G (Qm G (Pri res M) 0 0) 0 0 0 [(0, rv G.1 28), (1, .int x1)] [] M := by
  unfold fX7_menOf at zf
  refine g_iconst h 0 (v := 0) (by decide) dX7_menOf_0 ?_
  refine g_istore_n h rfl [(2, .int 0), (0, rv G.1 28), (1, .int x1)] (by decide) rfl dX7_menOf_1 ?_
  refine g_iconst h 0 (v := 0) (by decide) dX7_menOf_2 ?_
  refine g_istore_n h rfl [(3, .int 0), (2, .int 0), (0, rv G.1 28), (1, .int x1)] (by decide) rfl dX7_menOf_3 ?_
  refine g_sub h [2, 3, 1, 0] rfl ?_
  exact kX7_menOf_l4 h _ _ _ _ _ _ zf

theorem cmX7_menOf {l : Launch} {w : WX} {M : Mem} {x1 : Int32} {res : Int32} (zf : fX7_menOf M x1 = some res) : CM l w yX7_menOf cX7_menOf 4 (some .int) { frames := 0, cells := 0, slots := 0, locals := 0 } 0 0 [rv w 28, .int x1] M (Pri res M) := by
  refine CM_of (by decide) (Nat.le_of_ble_eq_true rfl) (fun G hw hl h => ?_)
  subst hw
  exact kX7_menOf_e0 h zf

-- X3_handOver
theorem kX3_handOver_e0 {G : GX} (h : OKm G cX3_handOver RX3 1 none { frames := 0, cells := 0, slots := 0, locals := 0 }) {M : Mem} {x0 : Nat} {res : Mem} (zf : fX3_handOver M x0 = some res) : GG G (Qm G (Pwv res) 0 0) 0 0 0 [(0, rv G.1 x0)] [] M := by
  unfold fX3_handOver at zf
  have zf1 := pre_ck zf
  clear zf; obtain ⟨zk_x0, zf⟩ := zf1
  refine g_aload_n h 0 rfl dX3_handOver_0 ?_
  refine g_iconst h 1 (v := 1) (by decide) dX3_handOver_1 ?_
  refine g_aload_n h 0 rfl dX3_handOver_2 ?_
  refine gfX3_40 h zk_x0 dX3_handOver_3 ?_
  refine g_nmI zf ?_
  clear zf; intro vq1 zf
  refine g_isub h dX3_handOver_6 ?_
  refine pfX3_40 h zk_x0 dX3_handOver_7 ?_
  refine g_nmM zf ?_
  clear zf; intro Mq2 zf
  refine g_aload_n h 0 rfl dX3_handOver_10 ?_
  refine g_iconst h 0 (v := 0) (by decide) dX3_handOver_11 ?_
  refine pfX3_43 h zk_x0 dX3_handOver_12 ?_
  refine g_nmM zf ?_
  clear zf; intro Mq3 zf
  obtain rfl := Option.some.inj zf
  exact g_vret h rfl ⟨rfl, rfl⟩ (Nat.le_refl _) (Nat.le_refl _) dX3_handOver_15

theorem cmX3_handOver {l : Launch} {w : WX} {M : Mem} {x0 : Nat} {res : Mem} (zf : fX3_handOver M x0 = some res) : CM l w yX3_handOver cX3_handOver 1 none { frames := 0, cells := 0, slots := 0, locals := 0 } 0 0 [rv w x0] M (Pwv res) := by
  refine CM_of (by decide) (Nat.le_of_ble_eq_true rfl) (fun G hw hl h => ?_)
  subst hw
  exact kX3_handOver_e0 h zf

-- X7_turn
theorem kX7_turn_b148 {G : GX} (h : OKm G cX7_turn RX7 2 none { frames := 3, cells := 0, slots := 0, locals := 76 }) {M : Mem} {x1 : Nat} {res : Mem} (zf : fX7_turn_b148 M x1 = some res) : GG G (Qm G (Pwv res) 0 0) 0 0 148 [(1, rv G.1 x1)] [] M := by
  unfold fX7_turn_b148 at zf
  have zf1 := pre_ck zf
  clear zf; obtain ⟨zk_x1, zf⟩ := zf1
  refine g_aload_n h 0 rfl dX7_turn_148 ?_
  have zf1 := bd_some zf
  clear zf; obtain ⟨Mq5, zq, zf⟩ := zf1
  refine g_callVwv (As := []) (rest := []) h ceX3_handOver mlX7_149 imX3_handOver seX3_handOver (by rfl) (kd_lt (by rw [zk_x1]; decide)) (ent_2 zk_x1) rfl rfl ⟨by decide, by decide⟩ ⟨by decide, by decide⟩ rfl dX7_turn_149 rfl (Nat.le_of_ble_eq_true rfl) (cmX3_handOver zq) ?_
  obtain rfl := Option.some.inj zf
  exact g_vret h rfl ⟨rfl, rfl⟩ (Nat.le_refl _) (Nat.le_refl _) dX7_turn_152

theorem kX7_turn_b115 {G : GX} (h : OKm G cX7_turn RX7 2 none { frames := 3, cells := 0, slots := 0, locals := 76 }) {M : Mem} {x1 : Nat} {s0 : Int32} {s1 : Int32} {res : Mem} (zf : fX7_turn_b115 M x1 s0 s1 = some res) : GG G (Qm G (Pwv res) 0 0) 0 0 115 [(0, rv G.1 28), (1, rv G.1 x1)] [.int s0, .int s1, rv G.1 46] M := by
  unfold fX7_turn_b115 at zf
  have zf1 := pre_ck zf
  clear zf; obtain ⟨zk_x1, zf⟩ := zf1
  refine g_iast h 6 (by decide : kd 46 = 20) (by decide) zf dX7_turn_115 ?_
  clear zf; intro Mq19 zf
  refine g_aload_n h 0 rfl dX7_turn_116 ?_
  refine gfX7_12 h (by decide : kd 28 = 6) dX7_turn_117 ?_
  refine g_nmR zf ?_
  clear zf; intro oq20 zf
  have zf1 := pre_ck zf
  clear zf; obtain ⟨zk_oq20, zf⟩ := zf1
  refine gfX7_124 h zk_oq20 dX7_turn_120 ?_
  refine g_aload_n h 0 rfl dX7_turn_123 ?_
  refine gfX7_20 h (by decide : kd 28 = 6) dX7_turn_124 ?_
  refine g_aload_n h 0 rfl dX7_turn_127 ?_
  refine gfX7_27 h (by decide : kd 28 = 6) dX7_turn_128 ?_
  have zf1 := b2_some zf
  clear zf; obtain ⟨vq21, Mq22, zq, zf⟩ := zf1
  refine g_callVwi (As := [rv G.1 46, rv G.1 48]) (rest := []) h ceX8_evaluate mlX7_142 imX8_evaluate seX8_evaluate (by rfl) (kd_lt (by rw [(kf4_15 zk_oq20)]; decide)) (ent_7 (kf4_15 zk_oq20)) rfl rfl ⟨by decide, by decide⟩ ⟨by decide, by decide⟩ rfl dX7_turn_131 rfl (Nat.le_of_ble_eq_true rfl) (cmX8_evaluate zq) ?_
  refine g_if_le h 148 (by decide) zf dX7_turn_134 ?_ ?_ <;> clear zf <;> intro zf
  · refine g_sub h [1] rfl ?_
    exact kX7_turn_b148 h zf
  · refine g_aload_n h 1 rfl dX7_turn_137 ?_
    refine g_dup h rfl dX7_turn_138 ?_
    refine gfX7_146 h zk_x1 dX7_turn_139 ?_
    refine g_nmI zf ?_
    clear zf; intro vq23 zf
    refine g_iconst h 1 (v := 1) (by decide) dX7_turn_142 ?_
    refine g_iadd h dX7_turn_143 ?_
    refine pfX7_146 h zk_x1 dX7_turn_144 ?_
    refine g_nmM zf ?_
    clear zf; intro Mq24 zf
    obtain rfl := Option.some.inj zf
    exact g_vret h rfl ⟨rfl, rfl⟩ (Nat.le_refl _) (Nat.le_refl _) dX7_turn_147

theorem kX7_turn_e0 {G : GX} (h : OKm G cX7_turn RX7 2 none { frames := 3, cells := 0, slots := 0, locals := 76 }) {M : Mem} {x1 : Nat} {res : Mem} (zf : fX7_turn M x1 = some res) : GG G (Qm G (Pwv res) 0 0) 0 0 0 [(0, rv G.1 28), (1, rv G.1 x1)] [] M := by
  unfold fX7_turn at zf
  have zf1 := pre_ck zf
  clear zf; obtain ⟨zk_x1, zf⟩ := zf1
  refine g_aload_n h 1 rfl dX7_turn_0 ?_
  refine gfX7_118 h zk_x1 dX7_turn_1 ?_
  refine g_nmI zf ?_
  clear zf; intro vq1 zf
  refine g_aload_n h 1 rfl dX7_turn_4 ?_
  refine gfX7_121 h zk_x1 dX7_turn_5 ?_
  refine g_nmI zf ?_
  clear zf; intro vq2 zf
  refine g_ic_ge h 12 (by decide) zf dX7_turn_8 ?_ ?_ <;> clear zf <;> intro zf
  · refine g_aload_n h 0 rfl dX7_turn_12 ?_
    refine gfX7_12 h (by decide : kd 28 = 6) dX7_turn_13 ?_
    refine g_nmR zf ?_
    clear zf; intro oq3 zf
    have zf1 := pre_ck zf
    clear zf; obtain ⟨zk_oq3, zf⟩ := zf1
    refine gfX7_124 h zk_oq3 dX7_turn_16 ?_
    have zf1 := bd_some zf
    clear zf; obtain ⟨vq4, zq, zf⟩ := zf1
    refine g_callVri (As := []) (rest := []) h ceX8_isTold mlX7_128 imX8_isTold seX8_isTold (by rfl) (kd_lt (by rw [(kf4_15 zk_oq3)]; decide)) (ent_7 (kf4_15 zk_oq3)) rfl rfl ⟨by decide, by decide⟩ ⟨by decide, by decide⟩ rfl dX7_turn_19 rfl (Nat.le_of_ble_eq_true rfl) (cmX8_isTold zq) ?_
    refine g_if_eq h 148 (by decide) zf dX7_turn_22 ?_ ?_ <;> clear zf <;> intro zf
    · refine g_sub h [1] rfl ?_
      exact kX7_turn_b148 h zf
    · refine g_aload_n h 0 rfl dX7_turn_25 ?_
      refine gfX7_20 h (by decide : kd 28 = 6) dX7_turn_26 ?_
      refine g_iconst h 0 (v := 0) (by decide) dX7_turn_29 ?_
      refine g_aload_n h 1 rfl dX7_turn_30 ?_
      refine gfX7_81 h zk_x1 dX7_turn_31 ?_
      refine g_nmI zf ?_
      clear zf; intro vq6 zf
      refine g_iast h 6 (by decide : kd 46 = 20) (by decide) zf dX7_turn_34 ?_
      clear zf; intro Mq7 zf
      refine g_aload_n h 0 rfl dX7_turn_35 ?_
      refine gfX7_20 h (by decide : kd 28 = 6) dX7_turn_36 ?_
      refine g_iconst h 1 (v := 1) (by decide) dX7_turn_39 ?_
      refine g_aload_n h 1 rfl dX7_turn_40 ?_
      refine gfX7_102 h zk_x1 dX7_turn_41 ?_
      refine g_nmI zf ?_
      clear zf; intro vq8 zf
      refine g_iast h 6 (by decide : kd 46 = 20) (by decide) zf dX7_turn_44 ?_
      clear zf; intro Mq9 zf
      refine g_aload_n h 0 rfl dX7_turn_45 ?_
      refine gfX7_20 h (by decide : kd 28 = 6) dX7_turn_46 ?_
      refine g_iconst h 2 (v := 2) (by decide) dX7_turn_49 ?_
      refine g_aload_n h 1 rfl dX7_turn_50 ?_
      refine gfX7_90 h zk_x1 dX7_turn_51 ?_
      refine g_nmI zf ?_
      clear zf; intro vq10 zf
      refine g_iast h 6 (by decide : kd 46 = 20) (by decide) zf dX7_turn_54 ?_
      clear zf; intro Mq11 zf
      refine g_aload_n h 0 rfl dX7_turn_55 ?_
      refine gfX7_20 h (by decide : kd 28 = 6) dX7_turn_56 ?_
      refine g_iconst h 3 (v := 3) (by decide) dX7_turn_59 ?_
      refine g_aload_n h 1 rfl dX7_turn_60 ?_
      refine gfX7_114 h zk_x1 dX7_turn_61 ?_
      refine g_aload_n h 1 rfl dX7_turn_64 ?_
      refine gfX7_55 h zk_x1 dX7_turn_65 ?_
      refine g_nmI zf ?_
      clear zf; intro vq12 zf
      refine g_iald h 2 (kf2_2 zk_x1) (lf2_2 zk_x1) zf dX7_turn_68 ?_
      clear zf; intro vq13 zf
      refine g_iast h 6 (by decide : kd 46 = 20) (by decide) zf dX7_turn_69 ?_
      clear zf; intro Mq14 zf
      refine g_aload_n h 0 rfl dX7_turn_70 ?_
      refine gfX7_20 h (by decide : kd 28 = 6) dX7_turn_71 ?_
      refine g_iconst h 4 (v := 4) (by decide) dX7_turn_74 ?_
      refine g_aload_n h 1 rfl dX7_turn_75 ?_
      refine gfX7_48 h zk_x1 dX7_turn_76 ?_
      refine g_nmI zf ?_
      clear zf; intro vq15 zf
      refine g_iast h 6 (by decide : kd 46 = 20) (by decide) zf dX7_turn_79 ?_
      clear zf; intro Mq16 zf
      refine g_aload_n h 0 rfl dX7_turn_80 ?_
      refine gfX7_20 h (by decide : kd 28 = 6) dX7_turn_81 ?_
      refine g_iconst h 5 (v := 5) (by decide) dX7_turn_84 ?_
      refine g_aload_n h 0 rfl dX7_turn_85 ?_
      refine gfX7_12 h (by decide : kd 28 = 6) dX7_turn_86 ?_
      refine g_nmR zf ?_
      clear zf; intro oq17 zf
      have zf1 := pre_ck zf
      clear zf; obtain ⟨zk_oq17, zf⟩ := zf1
      refine gfX7_124 h zk_oq17 dX7_turn_89 ?_
      refine gfX7_132 h (kf4_15 zk_oq17) dX7_turn_92 ?_
      refine g_nmI zf ?_
      clear zf; intro vq18 zf
      refine g_if_eq h 114 (by decide) zf dX7_turn_95 ?_ ?_ <;> clear zf <;> intro zf
      · refine g_iconst h 0 (v := 0) (by decide) dX7_turn_114 ?_
        refine g_sub h [0, 1] rfl ?_
        exact kX7_turn_b115 h zf
      · refine g_aload_n h 0 rfl dX7_turn_98 ?_
        refine g_aload_n h 0 rfl dX7_turn_99 ?_
        refine g_aload_n h 1 rfl dX7_turn_100 ?_
        refine g_aload_n h 1 rfl dX7_turn_101 ?_
        refine gfX7_55 h zk_x1 dX7_turn_102 ?_
        refine g_nmI zf ?_
        clear zf; intro vq25 zf
        have zf1 := b2_some zf
        clear zf; obtain ⟨vq26, Mq27, zq, zf⟩ := zf1
        refine g_callVwi (As := [rv G.1 x1, .int vq25]) (rest := [rv G.1 28, .int 5, rv G.1 46]) h ceX7_followers mlX7_136 imX7_followers seX7_followers (by rfl) (kd_lt (by rw [(by decide : kd 28 = 6)]; decide)) (ent_6 (by decide : kd 28 = 6)) rfl rfl ⟨by decide, by decide⟩ ⟨by decide, by decide⟩ rfl dX7_turn_105 rfl (Nat.le_of_ble_eq_true rfl) (cmX7_followers zq) ?_
        have zf1 := bd_some zf
        clear zf; obtain ⟨vq28, zq, zf⟩ := zf1
        refine g_callVri (As := [.int vq26]) (rest := [.int 5, rv G.1 46]) h ceX7_menOf mlX7_139 imX7_menOf seX7_menOf (by rfl) (kd_lt (by rw [(by decide : kd 28 = 6)]; decide)) (ent_6 (by decide : kd 28 = 6)) rfl rfl ⟨by decide, by decide⟩ ⟨by decide, by decide⟩ rfl dX7_turn_108 rfl (Nat.le_of_ble_eq_true rfl) (cmX7_menOf zq) ?_
        refine g_goto h 115 (by decide) dX7_turn_111 ?_
        refine g_sub h [0, 1] rfl ?_
        exact kX7_turn_b115 h zf
  · obtain rfl := Option.some.inj zf
    exact g_vret h rfl ⟨rfl, rfl⟩ (Nat.le_refl _) (Nat.le_refl _) dX7_turn_11

theorem cmX7_turn {l : Launch} {w : WX} {M : Mem} {x1 : Nat} {res : Mem} (zf : fX7_turn M x1 = some res) : CM l w yX7_turn cX7_turn 2 none { frames := 3, cells := 0, slots := 0, locals := 76 } 0 0 [rv w 28, rv w x1] M (Pwv res) := by
  refine CM_of (by decide) (Nat.le_of_ble_eq_true rfl) (fun G hw hl h => ?_)
  subst hw
  exact kX7_turn_e0 h zf

-- X2_gainBehind
theorem kX2_gainBehind_b89 {G : GX} {r : Mem → Int32 → Int32 → Option (Int32 × Mem)} {fr lo : Nat} (zr : ∀ (M : Mem) (u0 u1 : Int32) (res : (Int32 × Mem)), r M u0 u1 = some res → CM G.2.2.1 G.1 yX2_bestGain cX2_bestGain 11 (some .int) { frames := fr, cells := 0, slots := 0, locals := lo } 0 0 [rv G.1 49, .int u0, .int u1] M (Pwi res)) (h : OKm G cX2_gainBehind RX2 8 (some .int) { frames := fr + 7, cells := 0, slots := 0, locals := lo + 221 }) {M : Mem} {x1 : Int32} {x3 : Int32} {s0 : Int32} {res : (Int32 × Mem)} (zf : fX2_gainBehind_b89 r M x1 x3 s0 = some res) : GG G (Qm G (Pwi res) 0 0) 0 0 89 [(0, rv G.1 49), (1, .int x1), (3, .int x3)] [.int s0] M := by
  unfold fX2_gainBehind_b89 at zf
  refine g_istore h [(6, .int s0), (0, rv G.1 49), (1, .int x1), (3, .int x3)] (by decide) rfl dX2_gainBehind_89 ?_
  refine g_aload_n h 1 rfl dX2_gainBehind_91 ?_
  refine g_iload_n h 2 rfl dX2_gainBehind_92 ?_
  refine g_iconst h 1 (v := 1) (by decide) dX2_gainBehind_93 ?_
  refine g_iadd h dX2_gainBehind_94 ?_
  refine g_iload_n h 3 rfl dX2_gainBehind_95 ?_
  refine g_iconst h 1 (v := 1) (by decide) dX2_gainBehind_96 ?_
  refine g_isub h dX2_gainBehind_97 ?_
  have zf1 := b2_some zf
  clear zf; obtain ⟨vq11, Mq12, zq, zf⟩ := zf1
  refine g_callVwi (As := [.int (x1 + 1), .int (x3 - 1)]) (rest := []) h ceX2_bestGain mlX2_51 imX2_bestGain seX2_bestGain (by rfl) (kd_lt (by rw [(by decide : kd 49 = 1)]; decide)) (ent_1 (by decide : kd 49 = 1)) rfl rfl ⟨by dsimp only; omega, by dsimp only; omega⟩ ⟨Nat.le_of_ble_eq_true rfl, Nat.le_of_ble_eq_true rfl⟩ rfl dX2_gainBehind_98 rfl (Nat.le_of_ble_eq_true rfl) (zr _ _ _ _ zq) ?_
  refine g_istore h [(7, .int vq11), (6, .int s0), (0, rv G.1 49), (1, .int x1), (3, .int x3)] (by decide) rfl dX2_gainBehind_101 ?_
  refine g_iload h 1 rfl dX2_gainBehind_103 ?_
  refine g_if_eq h 113 (by decide) zf dX2_gainBehind_105 ?_ ?_ <;> clear zf <;> intro zf
  · refine g_iload h 0 rfl dX2_gainBehind_113 ?_
    refine g_ineg h dX2_gainBehind_115 ?_
    obtain rfl := Option.some.inj zf
    exact g_iret h rfl ⟨rfl, rfl⟩ (Nat.le_refl _) (Nat.le_refl _) dX2_gainBehind_116
  · refine g_iload h 0 rfl dX2_gainBehind_108 ?_
    refine g_goto h 116 (by decide) dX2_gainBehind_110 ?_
    obtain rfl := Option.some.inj zf
    exact g_iret h rfl ⟨rfl, rfl⟩ (Nat.le_refl _) (Nat.le_refl _) dX2_gainBehind_116

theorem kX2_gainBehind_e0 {G : GX} {r : Mem → Int32 → Int32 → Option (Int32 × Mem)} {fr lo : Nat} (zr : ∀ (M : Mem) (u0 u1 : Int32) (res : (Int32 × Mem)), r M u0 u1 = some res → CM G.2.2.1 G.1 yX2_bestGain cX2_bestGain 11 (some .int) { frames := fr, cells := 0, slots := 0, locals := lo } 0 0 [rv G.1 49, .int u0, .int u1] M (Pwi res)) (h : OKm G cX2_gainBehind RX2 8 (some .int) { frames := fr + 7, cells := 0, slots := 0, locals := lo + 221 }) {M : Mem} {x1 : Int32} {x2 : Int32} {x3 : Int32} {res : (Int32 × Mem)} (zf : fX2_gainBehind r M x1 x2 x3 = some res) : GG G (Qm G (Pwi res) 0 0) 0 0 0 [(0, rv G.1 49), (1, .int x1), (2, .int x2), (3, .int x3)] [] M := by
  unfold fX2_gainBehind at zf
  refine g_iload_n h 1 rfl dX2_gainBehind_0 ?_
  refine g_iconst h 1 (v := 1) (by decide) dX2_gainBehind_1 ?_
  refine g_iadd h dX2_gainBehind_2 ?_
  refine g_aload_n h 0 rfl dX2_gainBehind_3 ?_
  refine gfX2_18 h (by decide : kd 49 = 1) dX2_gainBehind_4 ?_
  refine g_alen h 4 (z := 4) (by decide : kd 55 = 24) (by decide) (by decide) dX2_gainBehind_7 ?_
  refine g_ic_lt h 13 (by decide) zf dX2_gainBehind_8 ?_ ?_ <;> clear zf <;> intro zf
  · refine g_aload_n h 0 rfl dX2_gainBehind_13 ?_
    refine gfX2_18 h (by decide : kd 49 = 1) dX2_gainBehind_14 ?_
    refine g_iload_n h 1 rfl dX2_gainBehind_17 ?_
    refine g_iconst h 1 (v := 1) (by decide) dX2_gainBehind_18 ?_
    refine g_iadd h dX2_gainBehind_19 ?_
    refine g_aald h (by decide : kd 55 = 24) (by decide) zf dX2_gainBehind_20 ?_
    clear zf; intro oq1 zf
    have zf1 := pre_ck zf
    clear zf; obtain ⟨zk_oq1, zf⟩ := zf1
    refine g_astore h [(4, rv G.1 oq1), (0, rv G.1 49), (1, .int x1), (2, .int x2), (3, .int x3)] (by decide) rfl dX2_gainBehind_21 ?_
    refine g_aload_n h 1 rfl dX2_gainBehind_23 ?_
    refine gfX2_18 h (by decide : kd 49 = 1) dX2_gainBehind_24 ?_
    refine g_iload_n h 2 rfl dX2_gainBehind_27 ?_
    refine g_aald h (by decide : kd 55 = 24) (by decide) zf dX2_gainBehind_28 ?_
    clear zf; intro oq2 zf
    have zf1 := pre_ck zf
    clear zf; obtain ⟨zk_oq2, zf⟩ := zf1
    refine gfX2_90 h zk_oq2 dX2_gainBehind_29 ?_
    refine g_nmI zf ?_
    clear zf; intro vq3 zf
    refine g_istore h [(5, .int vq3), (4, rv G.1 oq1), (0, rv G.1 49), (1, .int x1), (2, .int x2), (3, .int x3)] (by decide) rfl dX2_gainBehind_32 ?_
    refine g_aload h 1 rfl dX2_gainBehind_34 ?_
    refine g_aload_n h 2 rfl dX2_gainBehind_36 ?_
    refine gfX2_18 h (by decide : kd 49 = 1) dX2_gainBehind_37 ?_
    refine g_iload_n h 3 rfl dX2_gainBehind_40 ?_
    refine g_aald h (by decide : kd 55 = 24) (by decide) zf dX2_gainBehind_41 ?_
    clear zf; intro oq4 zf
    have zf1 := pre_ck zf
    clear zf; obtain ⟨zk_oq4, zf⟩ := zf1
    have zf1 := bd_some zf
    clear zf; obtain ⟨Mq5, zq, zf⟩ := zf1
    refine g_callVwv (As := [rv G.1 oq4]) (rest := []) h ceX3_become mlX2_47 imX3_become seX3_become (by rfl) (kd_lt (by rw [zk_oq1]; decide)) (ent_2 zk_oq1) rfl rfl ⟨by dsimp only; omega, by dsimp only; omega⟩ ⟨Nat.le_of_ble_eq_true rfl, Nat.le_of_ble_eq_true rfl⟩ rfl dX2_gainBehind_42 rfl (Nat.le_of_ble_eq_true rfl) (cmX3_become zq) ?_
    refine g_aload_n h 2 rfl dX2_gainBehind_45 ?_
    refine gfX2_43 h (by decide : kd 49 = 1) dX2_gainBehind_46 ?_
    refine g_aload h 1 rfl dX2_gainBehind_49 ?_
    refine g_iload_n h 4 rfl dX2_gainBehind_51 ?_
    have zf1 := b2_some zf
    clear zf; obtain ⟨vq6, Mq7, zq, zf⟩ := zf1
    refine g_callVwi (As := [rv G.1 oq1, .int x2]) (rest := []) h ceX7_perform mlX2_93 imX7_perform seX7_perform (by rfl) (kd_lt (by rw [(by decide : kd 28 = 6)]; decide)) (ent_6 (by decide : kd 28 = 6)) rfl rfl ⟨by dsimp only; omega, by dsimp only; omega⟩ ⟨Nat.le_of_ble_eq_true rfl, Nat.le_of_ble_eq_true rfl⟩ rfl dX2_gainBehind_52 rfl (Nat.le_of_ble_eq_true rfl) (cmX7_perform zq) ?_
    refine g_pop h rfl dX2_gainBehind_55 ?_
    refine g_aload_n h 2 rfl dX2_gainBehind_56 ?_
    refine gfX2_43 h (by decide : kd 49 = 1) dX2_gainBehind_57 ?_
    refine g_aload h 1 rfl dX2_gainBehind_60 ?_
    have zf1 := bd_some zf
    clear zf; obtain ⟨Mq8, zq, zf⟩ := zf1
    refine g_callVwv (As := [rv G.1 oq1]) (rest := []) h ceX7_age mlX2_97 imX7_age seX7_age (by rfl) (kd_lt (by rw [(by decide : kd 28 = 6)]; decide)) (ent_6 (by decide : kd 28 = 6)) rfl rfl ⟨by dsimp only; omega, by dsimp only; omega⟩ ⟨Nat.le_of_ble_eq_true rfl, Nat.le_of_ble_eq_true rfl⟩ rfl dX2_gainBehind_62 rfl (Nat.le_of_ble_eq_true rfl) (cmX7_age zq) ?_
    refine g_aload_n h 2 rfl dX2_gainBehind_65 ?_
    refine gfX2_43 h (by decide : kd 49 = 1) dX2_gainBehind_66 ?_
    refine g_aload h 1 rfl dX2_gainBehind_69 ?_
    have zf1 := bd_some zf
    clear zf; obtain ⟨Mq9, zq, zf⟩ := zf1
    refine g_callVwv (As := [rv G.1 oq1]) (rest := []) h ceX7_turn mlX2_100 imX7_turn seX7_turn (by rfl) (kd_lt (by rw [(by decide : kd 28 = 6)]; decide)) (ent_6 (by decide : kd 28 = 6)) rfl rfl ⟨by dsimp only; omega, by dsimp only; omega⟩ ⟨Nat.le_of_ble_eq_true rfl, Nat.le_of_ble_eq_true rfl⟩ rfl dX2_gainBehind_71 rfl (Nat.le_of_ble_eq_true rfl) (cmX7_turn zq) ?_
    refine g_aload h 1 rfl dX2_gainBehind_74 ?_
    refine gfX2_90 h zk_oq1 dX2_gainBehind_76 ?_
    refine g_nmI zf ?_
    clear zf; intro vq10 zf
    refine g_iload h 0 rfl dX2_gainBehind_79 ?_
    refine g_ic_ne h 88 (by decide) zf dX2_gainBehind_81 ?_ ?_ <;> clear zf <;> intro zf
    · refine g_iconst h 0 (v := 0) (by decide) dX2_gainBehind_88 ?_
      refine g_sub h [2, 3, 5] rfl ?_
      exact kX2_gainBehind_b89 zr h zf
    · refine g_iconst h 1 (v := 1) (by decide) dX2_gainBehind_84 ?_
      refine g_goto h 89 (by decide) dX2_gainBehind_85 ?_
      refine g_sub h [2, 3, 5] rfl ?_
      exact kX2_gainBehind_b89 zr h zf
  · refine g_iconst h 0 (v := 0) (by decide) dX2_gainBehind_11 ?_
    obtain rfl := Option.some.inj zf
    exact g_iret h rfl ⟨rfl, rfl⟩ (Nat.le_refl _) (Nat.le_refl _) dX2_gainBehind_12

theorem cmX2_gainBehind {l : Launch} {w : WX} {r : Mem → Int32 → Int32 → Option (Int32 × Mem)} {fr lo : Nat} (zr : ∀ (M : Mem) (u0 u1 : Int32) (res : (Int32 × Mem)), r M u0 u1 = some res → CM l w yX2_bestGain cX2_bestGain 11 (some .int) { frames := fr, cells := 0, slots := 0, locals := lo } 0 0 [rv w 49, .int u0, .int u1] M (Pwi res)) {M : Mem} {x1 : Int32} {x2 : Int32} {x3 : Int32} {res : (Int32 × Mem)} (zf : fX2_gainBehind r M x1 x2 x3 = some res) : CM l w yX2_gainBehind cX2_gainBehind 8 (some .int) { frames := fr + 7, cells := 0, slots := 0, locals := lo + 221 } 0 0 [rv w 49, .int x1, .int x2, .int x3] M (Pwi res) := by
  refine CM_of (by decide) (Nat.le_of_ble_eq_true rfl) (fun G hw hl h => ?_)
  subst hw
  subst hl
  exact kX2_gainBehind_e0 zr h zf

-- X2_bestGain
theorem kX2_bestGain_b171 {G : GX} {r : Mem → Int32 → Int32 → Option (Int32 × Mem)} {fr lo : Nat} (zr : ∀ (M : Mem) (u0 u1 : Int32) (res : (Int32 × Mem)), r M u0 u1 = some res → CM G.2.2.1 G.1 yX2_bestGain cX2_bestGain 11 (some .int) { frames := fr, cells := 0, slots := 0, locals := lo } 0 0 [rv G.1 49, .int u0, .int u1] M (Pwi res)) (h : OKm G cX2_bestGain RX2 11 (some .int) { frames := fr + 8, cells := 0, slots := 0, locals := lo + 248 }) {a58 : Mem → Int32 → Int32 → Nat → Nat → Int32 → Int32 → Int32 → Int32 → Option (Int32 × Mem)} (zh58 : ∀ (M : Mem) (x1 : Int32) (x2 : Int32) (x3 : Nat) (x4 : Nat) (x5 : Int32) (x6 : Int32) (x7 : Int32) (x8 : Int32) (res : (Int32 × Mem)), a58 M x1 x2 x3 x4 x5 x6 x7 x8 = some res → GG G (Qm G (Pwi res) 0 0) 0 0 58 [(0, rv G.1 49), (1, .int x1), (2, .int x2), (3, rv G.1 x3), (4, rv G.1 x4), (5, .int x5), (6, .int x6), (7, .int x7), (8, .int x8)] [] M) {M : Mem} {x1 : Int32} {x2 : Int32} {x3 : Nat} {x4 : Nat} {x5 : Int32} {x6 : Int32} {x7 : Int32} {x8 : Int32} {res : (Int32 × Mem)} (zf : fX2_bestGain_b171 r a58 M x1 x2 x3 x4 x5 x6 x7 x8 = some res) : GG G (Qm G (Pwi res) 0 0) 0 0 171 [(0, rv G.1 49), (1, .int x1), (2, .int x2), (3, rv G.1 x3), (4, rv G.1 x4), (5, .int x5), (6, .int x6), (7, .int x7), (8, .int x8)] [] M := by
  unfold fX2_bestGain_b171 at zf
  have zf1 := pre_ck zf
  clear zf; obtain ⟨zk_x3, zf⟩ := zf1
  have zf1 := pre_ck zf
  clear zf; obtain ⟨zk_x4, zf⟩ := zf1
  refine g_iinc h 8 8 rfl (v := x8 + 1) (congrArg (fun z => x8 + z) (by decide : Int32.ofInt (1) = (1 : Int32))) [(8, .int (x8 + 1)), (0, rv G.1 49), (1, .int x1), (2, .int x2), (3, rv G.1 x3), (4, rv G.1 x4), (5, .int x5), (6, .int x6), (7, .int x7)] (by decide) rfl dX2_bestGain_171 ?_
  refine g_nmV zf ?_
  clear zf; intro vq10 zf
  refine g_goto h 58 (by decide) dX2_bestGain_174 ?_
  refine g_sub h [1, 2, 3, 4, 5, 6, 7, 8, 0] rfl ?_
  exact zh58 _ _ _ _ _ _ _ _ _ _ zf

theorem kX2_bestGain_b160 {G : GX} {r : Mem → Int32 → Int32 → Option (Int32 × Mem)} {fr lo : Nat} (zr : ∀ (M : Mem) (u0 u1 : Int32) (res : (Int32 × Mem)), r M u0 u1 = some res → CM G.2.2.1 G.1 yX2_bestGain cX2_bestGain 11 (some .int) { frames := fr, cells := 0, slots := 0, locals := lo } 0 0 [rv G.1 49, .int u0, .int u1] M (Pwi res)) (h : OKm G cX2_bestGain RX2 11 (some .int) { frames := fr + 8, cells := 0, slots := 0, locals := lo + 248 }) {a58 : Mem → Int32 → Int32 → Nat → Nat → Int32 → Int32 → Int32 → Int32 → Option (Int32 × Mem)} (zh58 : ∀ (M : Mem) (x1 : Int32) (x2 : Int32) (x3 : Nat) (x4 : Nat) (x5 : Int32) (x6 : Int32) (x7 : Int32) (x8 : Int32) (res : (Int32 × Mem)), a58 M x1 x2 x3 x4 x5 x6 x7 x8 = some res → GG G (Qm G (Pwi res) 0 0) 0 0 58 [(0, rv G.1 49), (1, .int x1), (2, .int x2), (3, rv G.1 x3), (4, rv G.1 x4), (5, .int x5), (6, .int x6), (7, .int x7), (8, .int x8)] [] M) {M : Mem} {x1 : Int32} {x2 : Int32} {x3 : Nat} {x4 : Nat} {x8 : Int32} {x9 : Int32} {x10 : Int32} {res : (Int32 × Mem)} (zf : fX2_bestGain_b160 r a58 M x1 x2 x3 x4 x8 x9 x10 = some res) : GG G (Qm G (Pwi res) 0 0) 0 0 160 [(0, rv G.1 49), (1, .int x1), (2, .int x2), (3, rv G.1 x3), (4, rv G.1 x4), (8, .int x8), (9, .int x9), (10, .int x10)] [] M := by
  unfold fX2_bestGain_b160 at zf
  have zf1 := pre_ck zf
  clear zf; obtain ⟨zk_x3, zf⟩ := zf1
  have zf1 := pre_ck zf
  clear zf; obtain ⟨zk_x4, zf⟩ := zf1
  refine g_iload h 7 rfl dX2_bestGain_160 ?_
  refine g_istore h [(5, .int x10), (0, rv G.1 49), (1, .int x1), (2, .int x2), (3, rv G.1 x3), (4, rv G.1 x4), (8, .int x8), (9, .int x9), (10, .int x10)] (by decide) rfl dX2_bestGain_162 ?_
  refine g_iload h 7 rfl dX2_bestGain_164 ?_
  refine g_istore h [(6, .int x9), (5, .int x10), (0, rv G.1 49), (1, .int x1), (2, .int x2), (3, rv G.1 x3), (4, rv G.1 x4), (8, .int x8), (9, .int x9), (10, .int x10)] (by decide) rfl dX2_bestGain_166 ?_
  refine g_iconst h 1 (v := 1) (by decide) dX2_bestGain_168 ?_
  refine g_istore h [(7, .int 1), (6, .int x9), (5, .int x10), (0, rv G.1 49), (1, .int x1), (2, .int x2), (3, rv G.1 x3), (4, rv G.1 x4), (8, .int x8), (9, .int x9), (10, .int x10)] (by decide) rfl dX2_bestGain_169 ?_
  refine g_sub h [3, 4, 5, 6, 7, 2, 1, 0, 8] rfl ?_
  exact kX2_bestGain_b171 zr h zh58 zf

theorem kX2_bestGain_b148 {G : GX} {r : Mem → Int32 → Int32 → Option (Int32 × Mem)} {fr lo : Nat} (zr : ∀ (M : Mem) (u0 u1 : Int32) (res : (Int32 × Mem)), r M u0 u1 = some res → CM G.2.2.1 G.1 yX2_bestGain cX2_bestGain 11 (some .int) { frames := fr, cells := 0, slots := 0, locals := lo } 0 0 [rv G.1 49, .int u0, .int u1] M (Pwi res)) (h : OKm G cX2_bestGain RX2 11 (some .int) { frames := fr + 8, cells := 0, slots := 0, locals := lo + 248 }) {a58 : Mem → Int32 → Int32 → Nat → Nat → Int32 → Int32 → Int32 → Int32 → Option (Int32 × Mem)} (zh58 : ∀ (M : Mem) (x1 : Int32) (x2 : Int32) (x3 : Nat) (x4 : Nat) (x5 : Int32) (x6 : Int32) (x7 : Int32) (x8 : Int32) (res : (Int32 × Mem)), a58 M x1 x2 x3 x4 x5 x6 x7 x8 = some res → GG G (Qm G (Pwi res) 0 0) 0 0 58 [(0, rv G.1 49), (1, .int x1), (2, .int x2), (3, rv G.1 x3), (4, rv G.1 x4), (5, .int x5), (6, .int x6), (7, .int x7), (8, .int x8)] [] M) {M : Mem} {x1 : Int32} {x2 : Int32} {x3 : Nat} {x4 : Nat} {x5 : Int32} {x6 : Int32} {x7 : Int32} {x8 : Int32} {x9 : Int32} {x10 : Int32} {res : (Int32 × Mem)} (zf : fX2_bestGain_b148 r a58 M x1 x2 x3 x4 x5 x6 x7 x8 x9 x10 = some res) : GG G (Qm G (Pwi res) 0 0) 0 0 148 [(0, rv G.1 49), (1, .int x1), (2, .int x2), (3, rv G.1 x3), (4, rv G.1 x4), (5, .int x5), (6, .int x6), (7, .int x7), (8, .int x8), (9, .int x9), (10, .int x10)] [] M := by
  unfold fX2_bestGain_b148 at zf
  have zf1 := pre_ck zf
  clear zf; obtain ⟨zk_x3, zf⟩ := zf1
  have zf1 := pre_ck zf
  clear zf; obtain ⟨zk_x4, zf⟩ := zf1
  refine g_iload h 7 rfl dX2_bestGain_148 ?_
  refine g_if_eq h 160 (by decide) zf dX2_bestGain_150 ?_ ?_ <;> clear zf <;> intro zf
  · refine g_sub h [0, 1, 2, 3, 4, 8, 9, 10] rfl ?_
    exact kX2_bestGain_b160 zr h zh58 zf
  · refine g_iload h 10 rfl dX2_bestGain_153 ?_
    refine g_iload h 5 rfl dX2_bestGain_155 ?_
    refine g_ic_le h 171 (by decide) zf dX2_bestGain_157 ?_ ?_ <;> clear zf <;> intro zf
    · refine g_sub h [0, 1, 2, 3, 4, 5, 6, 7, 8] rfl ?_
      exact kX2_bestGain_b171 zr h zh58 zf
    · refine g_sub h [0, 1, 2, 3, 4, 8, 9, 10] rfl ?_
      exact kX2_bestGain_b160 zr h zh58 zf

theorem kX2_bestGain_b128 {G : GX} {r : Mem → Int32 → Int32 → Option (Int32 × Mem)} {fr lo : Nat} (zr : ∀ (M : Mem) (u0 u1 : Int32) (res : (Int32 × Mem)), r M u0 u1 = some res → CM G.2.2.1 G.1 yX2_bestGain cX2_bestGain 11 (some .int) { frames := fr, cells := 0, slots := 0, locals := lo } 0 0 [rv G.1 49, .int u0, .int u1] M (Pwi res)) (h : OKm G cX2_bestGain RX2 11 (some .int) { frames := fr + 8, cells := 0, slots := 0, locals := lo + 248 }) {a58 : Mem → Int32 → Int32 → Nat → Nat → Int32 → Int32 → Int32 → Int32 → Option (Int32 × Mem)} (zh58 : ∀ (M : Mem) (x1 : Int32) (x2 : Int32) (x3 : Nat) (x4 : Nat) (x5 : Int32) (x6 : Int32) (x7 : Int32) (x8 : Int32) (res : (Int32 × Mem)), a58 M x1 x2 x3 x4 x5 x6 x7 x8 = some res → GG G (Qm G (Pwi res) 0 0) 0 0 58 [(0, rv G.1 49), (1, .int x1), (2, .int x2), (3, rv G.1 x3), (4, rv G.1 x4), (5, .int x5), (6, .int x6), (7, .int x7), (8, .int x8)] [] M) {M : Mem} {x1 : Int32} {x2 : Int32} {x3 : Nat} {x4 : Nat} {x5 : Int32} {x6 : Int32} {x7 : Int32} {x8 : Int32} {x9 : Int32} {s0 : Int32} {res : (Int32 × Mem)} (zf : fX2_bestGain_b128 r a58 M x1 x2 x3 x4 x5 x6 x7 x8 x9 s0 = some res) : GG G (Qm G (Pwi res) 0 0) 0 0 128 [(0, rv G.1 49), (1, .int x1), (2, .int x2), (3, rv G.1 x3), (4, rv G.1 x4), (5, .int x5), (6, .int x6), (7, .int x7), (8, .int x8), (9, .int x9)] [.int s0] M := by
  unfold fX2_bestGain_b128 at zf
  have zf1 := pre_ck zf
  clear zf; obtain ⟨zk_x3, zf⟩ := zf1
  have zf1 := pre_ck zf
  clear zf; obtain ⟨zk_x4, zf⟩ := zf1
  refine g_istore h [(10, .int s0), (0, rv G.1 49), (1, .int x1), (2, .int x2), (3, rv G.1 x3), (4, rv G.1 x4), (5, .int x5), (6, .int x6), (7, .int x7), (8, .int x8), (9, .int x9)] (by decide) rfl dX2_bestGain_128 ?_
  refine g_iload_n h 3 rfl dX2_bestGain_130 ?_
  refine g_iconst h 1 (v := 1) (by decide) dX2_bestGain_131 ?_
  refine g_ic_le h 148 (by decide) zf dX2_bestGain_132 ?_ ?_ <;> clear zf <;> intro zf
  · refine g_sub h [1, 2, 3, 4, 5, 6, 7, 8, 9, 10, 0] rfl ?_
    exact kX2_bestGain_b148 zr h zh58 zf
  · refine g_iload h 0 rfl dX2_bestGain_135 ?_
    refine g_aload_n h 1 rfl dX2_bestGain_137 ?_
    refine g_iload_n h 2 rfl dX2_bestGain_138 ?_
    refine g_iload h 10 rfl dX2_bestGain_139 ?_
    refine g_iload_n h 3 rfl dX2_bestGain_141 ?_
    have zf1 := b2_some zf
    clear zf; obtain ⟨vq11, Mq12, zq, zf⟩ := zf1
    refine g_callVwi (As := [.int x1, .int x9, .int x2]) (rest := [.int s0]) h ceX2_gainBehind mlX2_86 imX2_gainBehind seX2_gainBehind (by rfl) (kd_lt (by rw [(by decide : kd 49 = 1)]; decide)) (ent_1 (by decide : kd 49 = 1)) rfl rfl ⟨by dsimp only; omega, by dsimp only; omega⟩ ⟨Nat.le_of_ble_eq_true rfl, Nat.le_of_ble_eq_true rfl⟩ rfl dX2_bestGain_142 rfl (Nat.le_of_ble_eq_true rfl) (cmX2_gainBehind zr zq) ?_
    refine g_iadd h dX2_bestGain_145 ?_
    refine g_nmI zf ?_
    clear zf; intro vq13 zf
    refine g_istore h [(10, .int vq13), (0, rv G.1 49), (1, .int x1), (2, .int x2), (3, rv G.1 x3), (4, rv G.1 x4), (5, .int x5), (6, .int x6), (7, .int x7), (8, .int x8), (9, .int x9)] (by decide) rfl dX2_bestGain_146 ?_
    refine g_sub h [1, 2, 3, 4, 5, 6, 7, 8, 9, 10, 0] rfl ?_
    exact kX2_bestGain_b148 zr h zh58 zf

theorem kX2_bestGain_b110 {G : GX} {r : Mem → Int32 → Int32 → Option (Int32 × Mem)} {fr lo : Nat} (zr : ∀ (M : Mem) (u0 u1 : Int32) (res : (Int32 × Mem)), r M u0 u1 = some res → CM G.2.2.1 G.1 yX2_bestGain cX2_bestGain 11 (some .int) { frames := fr, cells := 0, slots := 0, locals := lo } 0 0 [rv G.1 49, .int u0, .int u1] M (Pwi res)) (h : OKm G cX2_bestGain RX2 11 (some .int) { frames := fr + 8, cells := 0, slots := 0, locals := lo + 248 }) {a58 : Mem → Int32 → Int32 → Nat → Nat → Int32 → Int32 → Int32 → Int32 → Option (Int32 × Mem)} (zh58 : ∀ (M : Mem) (x1 : Int32) (x2 : Int32) (x3 : Nat) (x4 : Nat) (x5 : Int32) (x6 : Int32) (x7 : Int32) (x8 : Int32) (res : (Int32 × Mem)), a58 M x1 x2 x3 x4 x5 x6 x7 x8 = some res → GG G (Qm G (Pwi res) 0 0) 0 0 58 [(0, rv G.1 49), (1, .int x1), (2, .int x2), (3, rv G.1 x3), (4, rv G.1 x4), (5, .int x5), (6, .int x6), (7, .int x7), (8, .int x8)] [] M) {M : Mem} {x1 : Int32} {x2 : Int32} {x3 : Nat} {x4 : Nat} {x5 : Int32} {x6 : Int32} {x7 : Int32} {x8 : Int32} {x9 : Int32} {res : (Int32 × Mem)} (zf : fX2_bestGain_b110 r a58 M x1 x2 x3 x4 x5 x6 x7 x8 x9 = some res) : GG G (Qm G (Pwi res) 0 0) 0 0 110 [(0, rv G.1 49), (1, .int x1), (2, .int x2), (3, rv G.1 x3), (4, rv G.1 x4), (5, .int x5), (6, .int x6), (7, .int x7), (8, .int x8), (9, .int x9)] [] M := by
  unfold fX2_bestGain_b110 at zf
  have zf1 := pre_ck zf
  clear zf; obtain ⟨zk_x3, zf⟩ := zf1
  have zf1 := pre_ck zf
  clear zf; obtain ⟨zk_x4, zf⟩ := zf1
  refine g_iload h 9 rfl dX2_bestGain_110 ?_
  refine g_iconst h (-1) (v := (-1)) (by decide) dX2_bestGain_112 ?_
  refine g_ic_ne h 120 (by decide) zf dX2_bestGain_113 ?_ ?_ <;> clear zf <;> intro zf
  · refine g_aload h 4 rfl dX2_bestGain_120 ?_
    refine gfX2_83 h zk_x4 dX2_bestGain_122 ?_
    refine g_iload h 9 rfl dX2_bestGain_125 ?_
    refine g_iald h 7 (kf4_4 zk_x4) (lf4_4 zk_x4) zf dX2_bestGain_127 ?_
    clear zf; intro vq9 zf
    refine g_sub h [0, 1, 2, 3, 4, 5, 6, 7, 8, 9] rfl ?_
    exact kX2_bestGain_b128 zr h zh58 zf
  · refine g_iconst h 0 (v := 0) (by decide) dX2_bestGain_116 ?_
    refine g_goto h 128 (by decide) dX2_bestGain_117 ?_
    refine g_sub h [0, 1, 2, 3, 4, 5, 6, 7, 8, 9] rfl ?_
    exact kX2_bestGain_b128 zr h zh58 zf

theorem kX2_bestGain_b84 {G : GX} {r : Mem → Int32 → Int32 → Option (Int32 × Mem)} {fr lo : Nat} (zr : ∀ (M : Mem) (u0 u1 : Int32) (res : (Int32 × Mem)), r M u0 u1 = some res → CM G.2.2.1 G.1 yX2_bestGain cX2_bestGain 11 (some .int) { frames := fr, cells := 0, slots := 0, locals := lo } 0 0 [rv G.1 49, .int u0, .int u1] M (Pwi res)) (h : OKm G cX2_bestGain RX2 11 (some .int) { frames := fr + 8, cells := 0, slots := 0, locals := lo + 248 }) {a58 : Mem → Int32 → Int32 → Nat → Nat → Int32 → Int32 → Int32 → Int32 → Option (Int32 × Mem)} (zh58 : ∀ (M : Mem) (x1 : Int32) (x2 : Int32) (x3 : Nat) (x4 : Nat) (x5 : Int32) (x6 : Int32) (x7 : Int32) (x8 : Int32) (res : (Int32 × Mem)), a58 M x1 x2 x3 x4 x5 x6 x7 x8 = some res → GG G (Qm G (Pwi res) 0 0) 0 0 58 [(0, rv G.1 49), (1, .int x1), (2, .int x2), (3, rv G.1 x3), (4, rv G.1 x4), (5, .int x5), (6, .int x6), (7, .int x7), (8, .int x8)] [] M) {M : Mem} {x1 : Int32} {x2 : Int32} {x3 : Nat} {x4 : Nat} {x5 : Int32} {x6 : Int32} {x7 : Int32} {x8 : Int32} {s0 : Int32} {res : (Int32 × Mem)} (zf : fX2_bestGain_b84 r a58 M x1 x2 x3 x4 x5 x6 x7 x8 s0 = some res) : GG G (Qm G (Pwi res) 0 0) 0 0 84 [(0, rv G.1 49), (1, .int x1), (2, .int x2), (3, rv G.1 x3), (4, rv G.1 x4), (5, .int x5), (6, .int x6), (7, .int x7), (8, .int x8)] [.int s0] M := by
  unfold fX2_bestGain_b84 at zf
  have zf1 := pre_ck zf
  clear zf; obtain ⟨zk_x3, zf⟩ := zf1
  have zf1 := pre_ck zf
  clear zf; obtain ⟨zk_x4, zf⟩ := zf1
  refine g_istore h [(9, .int s0), (0, rv G.1 49), (1, .int x1), (2, .int x2), (3, rv G.1 x3), (4, rv G.1 x4), (5, .int x5), (6, .int x6), (7, .int x7), (8, .int x8)] (by decide) rfl dX2_bestGain_84 ?_
  refine g_iload h 0 rfl dX2_bestGain_86 ?_
  refine g_iconst h (-1) (v := (-1)) (by decide) dX2_bestGain_88 ?_
  refine g_ic_eq h 110 (by decide) zf dX2_bestGain_89 ?_ ?_ <;> clear zf <;> intro zf
  · refine g_sub h [1, 2, 3, 4, 5, 6, 7, 8, 9, 0] rfl ?_
    exact kX2_bestGain_b110 zr h zh58 zf
  · refine g_aload h 5 rfl dX2_bestGain_92 ?_
    refine gfX2_77 h zk_x4 dX2_bestGain_94 ?_
    refine g_iload h 0 rfl dX2_bestGain_97 ?_
    refine g_iald h 7 (kf4_1 zk_x4) (lf4_1 zk_x4) zf dX2_bestGain_99 ?_
    clear zf; intro vq14 zf
    refine g_aload_n h 4 rfl dX2_bestGain_100 ?_
    refine gfX2_80 h zk_x3 dX2_bestGain_101 ?_
    refine g_nmI zf ?_
    clear zf; intro vq15 zf
    refine g_ic_le h 110 (by decide) zf dX2_bestGain_104 ?_ ?_ <;> clear zf <;> intro zf
    · refine g_sub h [1, 2, 3, 4, 5, 6, 7, 8, 9, 0] rfl ?_
      exact kX2_bestGain_b110 zr h zh58 zf
    · refine g_goto h 171 (by decide) dX2_bestGain_107 ?_
      refine g_sub h [1, 2, 3, 4, 5, 6, 7, 8, 9] rfl ?_
      exact kX2_bestGain_b171 zr h zh58 zf

theorem kX2_bestGain_l58 {G : GX} {r : Mem → Int32 → Int32 → Option (Int32 × Mem)} {fr lo : Nat} (zr : ∀ (M : Mem) (u0 u1 : Int32) (res : (Int32 × Mem)), r M u0 u1 = some res → CM G.2.2.1 G.1 yX2_bestGain cX2_bestGain 11 (some .int) { frames := fr, cells := 0, slots := 0, locals := lo } 0 0 [rv G.1 49, .int u0, .int u1] M (Pwi res)) (h : OKm G cX2_bestGain RX2 11 (some .int) { frames := fr + 8, cells := 0, slots := 0, locals := lo + 248 }) : ∀ (n : Nat) (M : Mem) (x1 : Int32) (x2 : Int32) (x3 : Nat) (x4 : Nat) (x5 : Int32) (x6 : Int32) (x7 : Int32) (x8 : Int32) (res : (Int32 × Mem)), fX2_bestGain_l58 r n M x1 x2 x3 x4 x5 x6 x7 x8 = some res → GG G (Qm G (Pwi res) 0 0) 0 0 58 [(0, rv G.1 49), (1, .int x1), (2, .int x2), (3, rv G.1 x3), (4, rv G.1 x4), (5, .int x5), (6, .int x6), (7, .int x7), (8, .int x8)] [] M := by
  intro n
  induction n with
  | zero => intro M x1 x2 x3 x4 x5 x6 x7 x8 res zf; rw [fX2_bestGain_l58] at zf; cases zf
  | succ n ih =>
    intro M x1 x2 x3 x4 x5 x6 x7 x8 res zf
    rw [fX2_bestGain_l58] at zf
    have zf1 := pre_ck zf
    clear zf; obtain ⟨zk_x3, zf⟩ := zf1
    have zf1 := pre_ck zf
    clear zf; obtain ⟨zk_x4, zf⟩ := zf1
    refine g_iload h 8 rfl dX2_bestGain_58 ?_
    refine g_aload h 4 rfl dX2_bestGain_60 ?_
    refine gfX2_72 h zk_x4 dX2_bestGain_62 ?_
    refine g_nmI zf ?_
    clear zf; intro vq6 zf
    refine g_ic_gt h 177 (by decide) zf dX2_bestGain_65 ?_ ?_ <;> clear zf <;> intro zf
    · refine g_iload_n h 1 rfl dX2_bestGain_177 ?_
      refine g_if_ne h 187 (by decide) zf dX2_bestGain_178 ?_ ?_ <;> clear zf <;> intro zf
      · refine g_iload h 5 rfl dX2_bestGain_187 ?_
        obtain rfl := Option.some.inj zf
        exact g_iret h rfl ⟨rfl, rfl⟩ (Nat.le_refl _) (Nat.le_refl _) dX2_bestGain_189
      · refine g_aload_n h 0 rfl dX2_bestGain_181 ?_
        refine g_iload h 6 rfl dX2_bestGain_182 ?_
        refine pfX2_22 h (by decide : kd 49 = 1) dX2_bestGain_184 ?_
        refine g_nmM zf ?_
        clear zf; intro Mq7 zf
        refine g_iload h 5 rfl dX2_bestGain_187 ?_
        obtain rfl := Option.some.inj zf
        exact g_iret h rfl ⟨rfl, rfl⟩ (Nat.le_refl _) (Nat.le_refl _) dX2_bestGain_189
    · refine g_iload h 8 rfl dX2_bestGain_68 ?_
      refine g_aload h 4 rfl dX2_bestGain_70 ?_
      refine gfX2_72 h zk_x4 dX2_bestGain_72 ?_
      refine g_nmI zf ?_
      clear zf; intro vq8 zf
      refine g_ic_ge h 83 (by decide) zf dX2_bestGain_75 ?_ ?_ <;> clear zf <;> intro zf
      · refine g_iconst h (-1) (v := (-1)) (by decide) dX2_bestGain_83 ?_
        refine g_sub h [0, 1, 2, 3, 4, 5, 6, 7, 8] rfl ?_
        exact kX2_bestGain_b84 zr h ih zf
      · refine g_iload h 8 rfl dX2_bestGain_78 ?_
        refine g_goto h 84 (by decide) dX2_bestGain_80 ?_
        refine g_sub h [0, 1, 2, 3, 4, 5, 6, 7, 8] rfl ?_
        exact kX2_bestGain_b84 zr h ih zf

theorem kX2_bestGain_e0 {G : GX} {r : Mem → Int32 → Int32 → Option (Int32 × Mem)} {fr lo : Nat} (zr : ∀ (M : Mem) (u0 u1 : Int32) (res : (Int32 × Mem)), r M u0 u1 = some res → CM G.2.2.1 G.1 yX2_bestGain cX2_bestGain 11 (some .int) { frames := fr, cells := 0, slots := 0, locals := lo } 0 0 [rv G.1 49, .int u0, .int u1] M (Pwi res)) (h : OKm G cX2_bestGain RX2 11 (some .int) { frames := fr + 8, cells := 0, slots := 0, locals := lo + 248 }) {M : Mem} {x1 : Int32} {x2 : Int32} {res : (Int32 × Mem)} (zf : fX2_bestGain_s r M x1 x2 = some res) : GG G (Qm G (Pwi res) 0 0) 0 0 0 [(0, rv G.1 49), (1, .int x1), (2, .int x2)] [] M := by
  unfold fX2_bestGain_s at zf
  refine g_iload_n h 1 rfl dX2_bestGain_0 ?_
  refine g_aload_n h 0 rfl dX2_bestGain_1 ?_
  refine gfX2_18 h (by decide : kd 49 = 1) dX2_bestGain_2 ?_
  refine g_alen h 4 (z := 4) (by decide : kd 55 = 24) (by decide) (by decide) dX2_bestGain_5 ?_
  refine g_ic_lt h 11 (by decide) zf dX2_bestGain_6 ?_ ?_ <;> clear zf <;> intro zf
  · refine g_aload_n h 0 rfl dX2_bestGain_11 ?_
    refine gfX2_18 h (by decide : kd 49 = 1) dX2_bestGain_12 ?_
    refine g_iload_n h 1 rfl dX2_bestGain_15 ?_
    refine g_aald h (by decide : kd 55 = 24) (by decide) zf dX2_bestGain_16 ?_
    clear zf; intro oq1 zf
    have zf1 := pre_ck zf
    clear zf; obtain ⟨zk_oq1, zf⟩ := zf1
    refine g_astore_n h rfl [(3, rv G.1 oq1), (0, rv G.1 49), (1, .int x1), (2, .int x2)] (by decide) rfl dX2_bestGain_17 ?_
    refine g_aload_n h 1 rfl dX2_bestGain_18 ?_
    refine gfX2_43 h (by decide : kd 49 = 1) dX2_bestGain_19 ?_
    refine gfX2_55 h (by decide : kd 28 = 6) dX2_bestGain_22 ?_
    refine g_nmR zf ?_
    clear zf; intro oq2 zf
    have zf1 := pre_ck zf
    clear zf; obtain ⟨zk_oq2, zf⟩ := zf1
    refine g_astore h [(4, rv G.1 oq2), (3, rv G.1 oq1), (0, rv G.1 49), (1, .int x1), (2, .int x2)] (by decide) rfl dX2_bestGain_25 ?_
    refine g_aload_n h 2 rfl dX2_bestGain_27 ?_
    refine gfX2_43 h (by decide : kd 49 = 1) dX2_bestGain_28 ?_
    refine g_aload_n h 1 rfl dX2_bestGain_31 ?_
    refine g_aload_n h 2 rfl dX2_bestGain_32 ?_
    refine gfX2_43 h (by decide : kd 49 = 1) dX2_bestGain_33 ?_
    refine g_aload_n h 1 rfl dX2_bestGain_36 ?_
    refine gfX2_61 h zk_oq1 dX2_bestGain_37 ?_
    refine g_nmI zf ?_
    clear zf; intro vq3 zf
    have zf1 := bd_some zf
    clear zf; obtain ⟨vq4, zq, zf⟩ := zf1
    refine g_callVri (As := [.int vq3]) (rest := [rv G.1 oq1, rv G.1 28]) h ceX7_harvestOf mlX2_64 imX7_harvestOf seX7_harvestOf (by rfl) (kd_lt (by rw [(by decide : kd 28 = 6)]; decide)) (ent_6 (by decide : kd 28 = 6)) rfl rfl ⟨by dsimp only; omega, by dsimp only; omega⟩ ⟨Nat.le_of_ble_eq_true rfl, Nat.le_of_ble_eq_true rfl⟩ rfl dX2_bestGain_40 rfl (Nat.le_of_ble_eq_true rfl) (cmX7_harvestOf zq) ?_
    have zf1 := bd_some zf
    clear zf; obtain ⟨Mq5, zq, zf⟩ := zf1
    refine g_callVwv (As := [rv G.1 oq1, .int vq4]) (rest := []) h ceX7_reap mlX2_68 imX7_reap seX7_reap (by rfl) (kd_lt (by rw [(by decide : kd 28 = 6)]; decide)) (ent_6 (by decide : kd 28 = 6)) rfl rfl ⟨by dsimp only; omega, by dsimp only; omega⟩ ⟨Nat.le_of_ble_eq_true rfl, Nat.le_of_ble_eq_true rfl⟩ rfl dX2_bestGain_43 rfl (Nat.le_of_ble_eq_true rfl) (cmX7_reap zq) ?_
    refine g_iconst h 0 (v := 0) (by decide) dX2_bestGain_46 ?_
    refine g_istore h [(5, .int 0), (4, rv G.1 oq2), (3, rv G.1 oq1), (0, rv G.1 49), (1, .int x1), (2, .int x2)] (by decide) rfl dX2_bestGain_47 ?_
    refine g_iconst h (-1) (v := (-1)) (by decide) dX2_bestGain_49 ?_
    refine g_istore h [(6, .int (-1)), (5, .int 0), (4, rv G.1 oq2), (3, rv G.1 oq1), (0, rv G.1 49), (1, .int x1), (2, .int x2)] (by decide) rfl dX2_bestGain_50 ?_
    refine g_iconst h 0 (v := 0) (by decide) dX2_bestGain_52 ?_
    refine g_istore h [(7, .int 0), (6, .int (-1)), (5, .int 0), (4, rv G.1 oq2), (3, rv G.1 oq1), (0, rv G.1 49), (1, .int x1), (2, .int x2)] (by decide) rfl dX2_bestGain_53 ?_
    refine g_iconst h 0 (v := 0) (by decide) dX2_bestGain_55 ?_
    refine g_istore h [(8, .int 0), (7, .int 0), (6, .int (-1)), (5, .int 0), (4, rv G.1 oq2), (3, rv G.1 oq1), (0, rv G.1 49), (1, .int x1), (2, .int x2)] (by decide) rfl dX2_bestGain_56 ?_
    refine g_sub h [6, 7, 8, 5, 4, 3, 2, 1, 0] rfl ?_
    exact kX2_bestGain_l58 zr h _ _ _ _ _ _ _ _ _ _ _ zf
  · refine g_iconst h 0 (v := 0) (by decide) dX2_bestGain_9 ?_
    obtain rfl := Option.some.inj zf
    exact g_iret h rfl ⟨rfl, rfl⟩ (Nat.le_refl _) (Nat.le_refl _) dX2_bestGain_10

theorem cmX2_bestGain_s {l : Launch} {w : WX} {r : Mem → Int32 → Int32 → Option (Int32 × Mem)} {fr lo : Nat} (zr : ∀ (M : Mem) (u0 u1 : Int32) (res : (Int32 × Mem)), r M u0 u1 = some res → CM l w yX2_bestGain cX2_bestGain 11 (some .int) { frames := fr, cells := 0, slots := 0, locals := lo } 0 0 [rv w 49, .int u0, .int u1] M (Pwi res)) {M : Mem} {x1 : Int32} {x2 : Int32} {res : (Int32 × Mem)} (zf : fX2_bestGain_s r M x1 x2 = some res) : CM l w yX2_bestGain cX2_bestGain 11 (some .int) { frames := fr + 8, cells := 0, slots := 0, locals := lo + 248 } 0 0 [rv w 49, .int x1, .int x2] M (Pwi res) := by
  refine CM_of (by decide) (Nat.le_of_ble_eq_true rfl) (fun G hw hl h => ?_)
  subst hw
  subst hl
  exact kX2_bestGain_e0 zr h zf
theorem cmX2_bestGain {l : Launch} {w : WX} : ∀ (d : Nat) {M : Mem} {x1 : Int32} {x2 : Int32} {res : (Int32 × Mem)}, fX2_bestGain d M x1 x2 = some res → CM l w yX2_bestGain cX2_bestGain 11 (some .int) { frames := 8 * d, cells := 0, slots := 0, locals := 248 * d } 0 0 [rv w 49, .int x1, .int x2] M (Pwi res) := by
  intro d
  induction d with
  | zero => intro  M x1 x2 res zf; cases zf
  | succ d ih =>
    intro  M x1 x2 res zf
    exact cmX2_bestGain_s (fun _ _ _ _ zq => ih zq) zf

-- X7_wayDeed
theorem kX7_wayDeed_e0 {G : GX} (h : OKm G cX7_wayDeed RX7 4 (some .int) { frames := 0, cells := 0, slots := 0, locals := 0 }) {M : Mem} {x1 : Nat} {x2 : Int32} {res : Int32} (zf : fX7_wayDeed M x1 x2 = some res) : GG G (Qm G (Pri res M) 0 0) 0 0 0 [(0, rv G.1 28), (1, rv G.1 x1), (2, .int x2)] [] M := by
  unfold fX7_wayDeed at zf
  have zf1 := pre_ck zf
  clear zf; obtain ⟨zk_x1, zf⟩ := zf1
  refine g_aload_n h 0 rfl dX7_wayDeed_0 ?_
  refine gfX7_12 h (by decide : kd 28 = 6) dX7_wayDeed_1 ?_
  refine g_nmR zf ?_
  clear zf; intro oq1 zf
  have zf1 := pre_ck zf
  clear zf; obtain ⟨zk_oq1, zf⟩ := zf1
  refine gfX7_37 h zk_oq1 dX7_wayDeed_4 ?_
  refine g_iload_n h 2 rfl dX7_wayDeed_7 ?_
  refine g_iald h 2 (kf4_5 zk_oq1) (lf4_5 zk_oq1) zf dX7_wayDeed_8 ?_
  clear zf; intro vq2 zf
  refine g_istore_n h rfl [(3, .int vq2), (0, rv G.1 28), (1, rv G.1 x1), (2, .int x2)] (by decide) rfl dX7_wayDeed_9 ?_
  refine g_iload_n h 0 rfl dX7_wayDeed_10 ?_
  refine g_if_ne h 16 (by decide) zf dX7_wayDeed_11 ?_ ?_ <;> clear zf <;> intro zf
  · refine g_aload_n h 2 rfl dX7_wayDeed_16 ?_
    refine gfX7_40 h zk_x1 dX7_wayDeed_17 ?_
    refine g_iload_n h 3 rfl dX7_wayDeed_20 ?_
    refine g_bipush h 6 (v := 6) (by decide) dX7_wayDeed_21 ?_
    refine g_imul h dX7_wayDeed_23 ?_
    refine g_aload_n h 2 rfl dX7_wayDeed_24 ?_
    refine gfX7_45 h zk_x1 dX7_wayDeed_25 ?_
    refine g_iload_n h 3 rfl dX7_wayDeed_28 ?_
    refine g_iald h 2 (kf2_1 zk_x1) (lf2_1 zk_x1) zf dX7_wayDeed_29 ?_
    clear zf; intro vq3 zf
    refine g_iload_n h 0 rfl dX7_wayDeed_30 ?_
    have zf1 := pre_if zf
    clear zf; obtain ⟨zne, zf⟩ := zf1
    refine g_irem h zne dX7_wayDeed_31 ?_
    refine g_iadd h dX7_wayDeed_32 ?_
    refine g_iald h 12 (kf2_3 zk_x1) (lf2_3 zk_x1) zf dX7_wayDeed_33 ?_
    clear zf; intro vq4 zf
    obtain rfl := Option.some.inj zf
    exact g_iret h rfl ⟨rfl, rfl⟩ (Nat.le_refl _) (Nat.le_refl _) dX7_wayDeed_34
  · refine g_iconst h (-1) (v := (-1)) (by decide) dX7_wayDeed_14 ?_
    obtain rfl := Option.some.inj zf
    exact g_iret h rfl ⟨rfl, rfl⟩ (Nat.le_refl _) (Nat.le_refl _) dX7_wayDeed_15

theorem cmX7_wayDeed {l : Launch} {w : WX} {M : Mem} {x1 : Nat} {x2 : Int32} {res : Int32} (zf : fX7_wayDeed M x1 x2 = some res) : CM l w yX7_wayDeed cX7_wayDeed 4 (some .int) { frames := 0, cells := 0, slots := 0, locals := 0 } 0 0 [rv w 28, rv w x1, .int x2] M (Pri res M) := by
  refine CM_of (by decide) (Nat.le_of_ble_eq_true rfl) (fun G hw hl h => ?_)
  subst hw
  exact kX7_wayDeed_e0 h zf

-- X7_live
theorem kX7_live_e0 {G : GX} (h : OKm G cX7_live RX7 5 (some .boolean) { frames := 7, cells := 0, slots := 0, locals := 162 }) {M : Mem} {x1 : Nat} {x2 : Int32} {x3 : Int32} {res : (Int32 × Mem)} (zf : fX7_live M x1 x2 x3 = some res) : GG G (Qm G (Pwi res) 0 0) 0 0 0 [(0, rv G.1 28), (1, rv G.1 x1), (2, .int x2), (3, .int x3)] [] M := by
  unfold fX7_live at zf
  have zf1 := pre_ck zf
  clear zf; obtain ⟨zk_x1, zf⟩ := zf1
  refine g_aload_n h 0 rfl dX7_live_0 ?_
  refine g_aload_n h 1 rfl dX7_live_1 ?_
  refine g_iload_n h 2 rfl dX7_live_2 ?_
  have zf1 := bd_some zf
  clear zf; obtain ⟨Mq1, zq, zf⟩ := zf1
  refine g_callVwv (As := [rv G.1 x1, .int x2]) (rest := []) h ceX7_reap mlX7_66 imX7_reap seX7_reap (by rfl) (kd_lt (by rw [(by decide : kd 28 = 6)]; decide)) (ent_6 (by decide : kd 28 = 6)) rfl rfl ⟨by decide, by decide⟩ ⟨by decide, by decide⟩ rfl dX7_live_3 rfl (Nat.le_of_ble_eq_true rfl) (cmX7_reap zq) ?_
  refine g_aload_n h 0 rfl dX7_live_6 ?_
  refine g_aload_n h 1 rfl dX7_live_7 ?_
  refine g_iload_n h 3 rfl dX7_live_8 ?_
  have zf1 := b2_some zf
  clear zf; obtain ⟨vq2, Mq3, zq, zf⟩ := zf1
  refine g_callVwi (As := [rv G.1 x1, .int x3]) (rest := []) h ceX7_perform mlX7_70 imX7_perform seX7_perform (by rfl) (kd_lt (by rw [(by decide : kd 28 = 6)]; decide)) (ent_6 (by decide : kd 28 = 6)) rfl rfl ⟨by decide, by decide⟩ ⟨by decide, by decide⟩ rfl dX7_live_9 rfl (Nat.le_of_ble_eq_true rfl) (cmX7_perform zq) ?_
  refine g_istore h [(4, .int vq2), (0, rv G.1 28), (1, rv G.1 x1), (2, .int x2), (3, .int x3)] (by decide) rfl dX7_live_12 ?_
  refine g_aload_n h 1 rfl dX7_live_14 ?_
  refine g_aload_n h 2 rfl dX7_live_15 ?_
  have zf1 := bd_some zf
  clear zf; obtain ⟨Mq4, zq, zf⟩ := zf1
  refine g_callVwv (As := [rv G.1 x1]) (rest := []) h ceX7_age mlX7_74 imX7_age seX7_age (by rfl) (kd_lt (by rw [(by decide : kd 28 = 6)]; decide)) (ent_6 (by decide : kd 28 = 6)) rfl rfl ⟨by decide, by decide⟩ ⟨by decide, by decide⟩ rfl dX7_live_16 rfl (Nat.le_of_ble_eq_true rfl) (cmX7_age zq) ?_
  refine g_aload_n h 1 rfl dX7_live_19 ?_
  refine g_aload_n h 2 rfl dX7_live_20 ?_
  have zf1 := bd_some zf
  clear zf; obtain ⟨Mq5, zq, zf⟩ := zf1
  refine g_callVwv (As := [rv G.1 x1]) (rest := []) h ceX7_turn mlX7_78 imX7_turn seX7_turn (by rfl) (kd_lt (by rw [(by decide : kd 28 = 6)]; decide)) (ent_6 (by decide : kd 28 = 6)) rfl rfl ⟨by decide, by decide⟩ ⟨by decide, by decide⟩ rfl dX7_live_21 rfl (Nat.le_of_ble_eq_true rfl) (cmX7_turn zq) ?_
  refine g_iload h 0 rfl dX7_live_24 ?_
  have zf1 := pre_ck zf
  clear zf; obtain ⟨zz9, zf⟩ := zf1
  obtain rfl := Option.some.inj zf
  exact g_zret h zz9 rfl ⟨rfl, rfl⟩ (Nat.le_refl _) (Nat.le_refl _) dX7_live_26

theorem cmX7_live {l : Launch} {w : WX} {M : Mem} {x1 : Nat} {x2 : Int32} {x3 : Int32} {res : (Int32 × Mem)} (zf : fX7_live M x1 x2 x3 = some res) : CM l w yX7_live cX7_live 5 (some .boolean) { frames := 7, cells := 0, slots := 0, locals := 162 } 0 0 [rv w 28, rv w x1, .int x2, .int x3] M (Pwi res) := by
  refine CM_of (by decide) (Nat.le_of_ble_eq_true rfl) (fun G hw hl h => ?_)
  subst hw
  exact kX7_live_e0 h zf

-- X9_allows
theorem kX9_allows_b32 {G : GX} (h : OKm G cX9_allows RX9 4 (some .boolean) { frames := 0, cells := 0, slots := 0, locals := 0 }) {a2 : Mem → Nat → Int32 → Int32 → Int32 → Option Int32} (zh2 : ∀ (M : Mem) (x0 : Nat) (x1 : Int32) (x2 : Int32) (x3 : Int32) (res : Int32), a2 M x0 x1 x2 x3 = some res → GG G (Qm G (Pri res M) 0 0) 0 0 2 [(0, rv G.1 x0), (1, .int x1), (2, .int x2), (3, .int x3)] [] M) {M : Mem} {x0 : Nat} {x1 : Int32} {x2 : Int32} {x3 : Int32} {res : Int32} (zf : fX9_allows_b32 a2 M x0 x1 x2 x3 = some res) : GG G (Qm G (Pri res M) 0 0) 0 0 32 [(0, rv G.1 x0), (1, .int x1), (2, .int x2), (3, .int x3)] [] M := by
  unfold fX9_allows_b32 at zf
  have zf1 := pre_ck zf
  clear zf; obtain ⟨zk_x0, zf⟩ := zf1
  refine g_iinc h 3 3 rfl (v := x3 + 1) (congrArg (fun z => x3 + z) (by decide : Int32.ofInt (1) = (1 : Int32))) [(3, .int (x3 + 1)), (0, rv G.1 x0), (1, .int x1), (2, .int x2)] (by decide) rfl dX9_allows_32 ?_
  refine g_nmV zf ?_
  clear zf; intro vq3 zf
  refine g_goto h 2 (by decide) dX9_allows_35 ?_
  refine g_sub h [1, 2, 3, 0] rfl ?_
  exact zh2 _ _ _ _ _ _ zf

theorem kX9_allows_l2 {G : GX} (h : OKm G cX9_allows RX9 4 (some .boolean) { frames := 0, cells := 0, slots := 0, locals := 0 }) : ∀ (n : Nat) (M : Mem) (x0 : Nat) (x1 : Int32) (x2 : Int32) (x3 : Int32) (res : Int32), fX9_allows_l2 n M x0 x1 x2 x3 = some res → GG G (Qm G (Pri res M) 0 0) 0 0 2 [(0, rv G.1 x0), (1, .int x1), (2, .int x2), (3, .int x3)] [] M := by
  intro n
  induction n with
  | zero => intro M x0 x1 x2 x3 res zf; rw [fX9_allows_l2] at zf; cases zf
  | succ n ih =>
    intro M x0 x1 x2 x3 res zf
    rw [fX9_allows_l2] at zf
    have zf1 := pre_ck zf
    clear zf; obtain ⟨zk_x0, zf⟩ := zf1
    refine g_iload_n h 3 rfl dX9_allows_2 ?_
    refine g_aload_n h 0 rfl dX9_allows_3 ?_
    refine gfX9_9 h zk_x0 dX9_allows_4 ?_
    refine g_nmI zf ?_
    clear zf; intro vq1 zf
    refine g_ic_ge h 38 (by decide) zf dX9_allows_7 ?_ ?_ <;> clear zf <;> intro zf
    · refine g_iconst h 1 (v := 1) (by decide) dX9_allows_38 ?_
      obtain rfl := Option.some.inj zf
      exact g_zret h (by decide) rfl ⟨rfl, rfl⟩ (Nat.le_refl _) (Nat.le_refl _) dX9_allows_39
    · refine g_aload_n h 0 rfl dX9_allows_10 ?_
      refine gfX9_15 h zk_x0 dX9_allows_11 ?_
      refine g_iload_n h 3 rfl dX9_allows_14 ?_
      refine g_iald h 8 (kf8_1 zk_x0) (lf8_1 zk_x0) zf dX9_allows_15 ?_
      clear zf; intro vq2 zf
      refine g_iload_n h 1 rfl dX9_allows_16 ?_
      refine g_ic_ne h 32 (by decide) zf dX9_allows_17 ?_ ?_ <;> clear zf <;> intro zf
      · refine g_sub h [0, 1, 2, 3] rfl ?_
        exact kX9_allows_b32 h ih zf
      · refine g_aload_n h 0 rfl dX9_allows_20 ?_
        refine gfX9_19 h zk_x0 dX9_allows_21 ?_
        refine g_iload_n h 3 rfl dX9_allows_24 ?_
        refine g_iald h 8 (kf8_2 zk_x0) (lf8_2 zk_x0) zf dX9_allows_25 ?_
        clear zf; intro vq4 zf
        refine g_iload_n h 2 rfl dX9_allows_26 ?_
        refine g_ic_eq h 32 (by decide) zf dX9_allows_27 ?_ ?_ <;> clear zf <;> intro zf
        · refine g_sub h [0, 1, 2, 3] rfl ?_
          exact kX9_allows_b32 h ih zf
        · refine g_iconst h 0 (v := 0) (by decide) dX9_allows_30 ?_
          obtain rfl := Option.some.inj zf
          exact g_zret h (by decide) rfl ⟨rfl, rfl⟩ (Nat.le_refl _) (Nat.le_refl _) dX9_allows_31

theorem kX9_allows_e0 {G : GX} (h : OKm G cX9_allows RX9 4 (some .boolean) { frames := 0, cells := 0, slots := 0, locals := 0 }) {M : Mem} {x0 : Nat} {x1 : Int32} {x2 : Int32} {res : Int32} (zf : fX9_allows M x0 x1 x2 = some res) : GG G (Qm G (Pri res M) 0 0) 0 0 0 [(0, rv G.1 x0), (1, .int x1), (2, .int x2)] [] M := by
  unfold fX9_allows at zf
  have zf1 := pre_ck zf
  clear zf; obtain ⟨zk_x0, zf⟩ := zf1
  refine g_iconst h 0 (v := 0) (by decide) dX9_allows_0 ?_
  refine g_istore_n h rfl [(3, .int 0), (0, rv G.1 x0), (1, .int x1), (2, .int x2)] (by decide) rfl dX9_allows_1 ?_
  refine g_sub h [1, 2, 3, 0] rfl ?_
  exact kX9_allows_l2 h _ _ _ _ _ _ _ zf

theorem cmX9_allows {l : Launch} {w : WX} {M : Mem} {x0 : Nat} {x1 : Int32} {x2 : Int32} {res : Int32} (zf : fX9_allows M x0 x1 x2 = some res) : CM l w yX9_allows cX9_allows 4 (some .boolean) { frames := 0, cells := 0, slots := 0, locals := 0 } 0 0 [rv w x0, .int x1, .int x2] M (Pri res M) := by
  refine CM_of (by decide) (Nat.le_of_ble_eq_true rfl) (fun G hw hl h => ?_)
  subst hw
  exact kX9_allows_e0 h zf

-- X2_fits
theorem kX2_fits_b54 {G : GX} (h : OKm G cX2_fits RX2 8 (some .boolean) { frames := 8, cells := 0, slots := 0, locals := 221 }) {a11 : Mem → Nat → Int32 → Int32 → Int32 → Int32 → Option (Int32 × Mem)} (zh11 : ∀ (M : Mem) (x2 : Nat) (x3 : Int32) (x4 : Int32) (x5 : Int32) (x6 : Int32) (res : (Int32 × Mem)), a11 M x2 x3 x4 x5 x6 = some res → GG G (Qm G (Pwi res) 0 0) 0 0 11 [(0, rv G.1 49), (2, rv G.1 x2), (3, .int x3), (4, .int x4), (5, .int x5), (6, .int x6)] [] M) {M : Mem} {x2 : Nat} {x3 : Int32} {x4 : Int32} {x5 : Int32} {x6 : Int32} {s0 : Int32} {res : (Int32 × Mem)} (zf : fX2_fits_b54 a11 M x2 x3 x4 x5 x6 s0 = some res) : GG G (Qm G (Pwi res) 0 0) 0 0 54 [(0, rv G.1 49), (2, rv G.1 x2), (3, .int x3), (4, .int x4), (5, .int x5), (6, .int x6)] [.int s0] M := by
  unfold fX2_fits_b54 at zf
  have zf1 := pre_ck zf
  clear zf; obtain ⟨zk_x2, zf⟩ := zf1
  refine g_istore h [(7, .int s0), (0, rv G.1 49), (2, rv G.1 x2), (3, .int x3), (4, .int x4), (5, .int x5), (6, .int x6)] (by decide) rfl dX2_fits_54 ?_
  refine g_aload_n h 1 rfl dX2_fits_56 ?_
  refine gfX2_43 h (by decide : kd 49 = 1) dX2_fits_57 ?_
  refine g_aload_n h 1 rfl dX2_fits_60 ?_
  refine gfX2_12 h (by decide : kd 49 = 1) dX2_fits_61 ?_
  refine g_aload_n h 1 rfl dX2_fits_64 ?_
  refine gfX2_43 h (by decide : kd 49 = 1) dX2_fits_65 ?_
  refine g_aload_n h 1 rfl dX2_fits_68 ?_
  refine gfX2_12 h (by decide : kd 49 = 1) dX2_fits_69 ?_
  refine gfX2_61 h (by decide : kd 50 = 2) dX2_fits_72 ?_
  refine g_nmI zf ?_
  clear zf; intro vq4 zf
  have zf1 := bd_some zf
  clear zf; obtain ⟨vq5, zq, zf⟩ := zf1
  refine g_callVri (As := [.int vq4]) (rest := [rv G.1 50, rv G.1 28]) h ceX7_harvestOf mlX2_64 imX7_harvestOf seX7_harvestOf (by rfl) (kd_lt (by rw [(by decide : kd 28 = 6)]; decide)) (ent_6 (by decide : kd 28 = 6)) rfl rfl ⟨by decide, by decide⟩ ⟨by decide, by decide⟩ rfl dX2_fits_75 rfl (Nat.le_of_ble_eq_true rfl) (cmX7_harvestOf zq) ?_
  refine g_iload h 0 rfl dX2_fits_78 ?_
  have zf1 := b2_some zf
  clear zf; obtain ⟨vq6, Mq7, zq, zf⟩ := zf1
  refine g_callVwi (As := [rv G.1 50, .int vq5, .int s0]) (rest := []) h ceX7_live mlX2_107 imX7_live seX7_live (by rfl) (kd_lt (by rw [(by decide : kd 28 = 6)]; decide)) (ent_6 (by decide : kd 28 = 6)) rfl rfl ⟨by decide, by decide⟩ ⟨by decide, by decide⟩ rfl dX2_fits_80 rfl (Nat.le_of_ble_eq_true rfl) (cmX7_live zq) ?_
  refine g_pop h rfl dX2_fits_83 ?_
  refine g_aload_n h 2 rfl dX2_fits_84 ?_
  refine g_iload h 6 rfl dX2_fits_85 ?_
  refine g_aload_n h 1 rfl dX2_fits_87 ?_
  refine gfX2_12 h (by decide : kd 49 = 1) dX2_fits_88 ?_
  refine gfX2_80 h (by decide : kd 50 = 2) dX2_fits_91 ?_
  refine g_nmI zf ?_
  clear zf; intro vq8 zf
  have zf1 := bd_some zf
  clear zf; obtain ⟨vq9, zq, zf⟩ := zf1
  refine g_callVri (As := [.int x6, .int vq8]) (rest := []) h ceX9_allows mlX2_111 imX9_allows seX9_allows (by rfl) (kd_lt (by rw [zk_x2]; decide)) (ent_8 zk_x2) rfl rfl ⟨by decide, by decide⟩ ⟨by decide, by decide⟩ rfl dX2_fits_94 rfl (Nat.le_of_ble_eq_true rfl) (cmX9_allows zq) ?_
  refine g_if_ne h 102 (by decide) zf dX2_fits_97 ?_ ?_ <;> clear zf <;> intro zf
  · refine g_aload_n h 1 rfl dX2_fits_102 ?_
    refine gfX2_26 h (by decide : kd 49 = 1) dX2_fits_103 ?_
    refine g_iload h 6 rfl dX2_fits_106 ?_
    refine g_iconst h 1 (v := 1) (by decide) dX2_fits_108 ?_
    refine g_isub h dX2_fits_109 ?_
    refine g_aload_n h 1 rfl dX2_fits_110 ?_
    refine gfX2_12 h (by decide : kd 49 = 1) dX2_fits_111 ?_
    refine gfX2_80 h (by decide : kd 50 = 2) dX2_fits_114 ?_
    refine g_nmI zf ?_
    clear zf; intro vq10 zf
    refine g_iast h 30 (by decide : kd 56 = 20) (by decide) zf dX2_fits_117 ?_
    clear zf; intro Mq11 zf
    refine g_iinc h 6 6 rfl (v := x6 + 1) (congrArg (fun z => x6 + z) (by decide : Int32.ofInt (1) = (1 : Int32))) [(6, .int (x6 + 1)), (7, .int s0), (0, rv G.1 49), (2, rv G.1 x2), (3, .int x3), (4, .int x4), (5, .int x5)] (by decide) rfl dX2_fits_118 ?_
    refine g_nmV zf ?_
    clear zf; intro vq12 zf
    refine g_goto h 11 (by decide) dX2_fits_121 ?_
    refine g_sub h [2, 3, 4, 5, 6, 0] rfl ?_
    exact zh11 _ _ _ _ _ _ _ zf
  · refine g_iconst h 0 (v := 0) (by decide) dX2_fits_100 ?_
    obtain rfl := Option.some.inj zf
    exact g_zret h (by decide) rfl ⟨rfl, rfl⟩ (Nat.le_refl _) (Nat.le_refl _) dX2_fits_101

theorem kX2_fits_l11 {G : GX} (h : OKm G cX2_fits RX2 8 (some .boolean) { frames := 8, cells := 0, slots := 0, locals := 221 }) : ∀ (n : Nat) (M : Mem) (x2 : Nat) (x3 : Int32) (x4 : Int32) (x5 : Int32) (x6 : Int32) (res : (Int32 × Mem)), fX2_fits_l11 n M x2 x3 x4 x5 x6 = some res → GG G (Qm G (Pwi res) 0 0) 0 0 11 [(0, rv G.1 49), (2, rv G.1 x2), (3, .int x3), (4, .int x4), (5, .int x5), (6, .int x6)] [] M := by
  intro n
  induction n with
  | zero => intro M x2 x3 x4 x5 x6 res zf; rw [fX2_fits_l11] at zf; cases zf
  | succ n ih =>
    intro M x2 x3 x4 x5 x6 res zf
    rw [fX2_fits_l11] at zf
    have zf1 := pre_ck zf
    clear zf; obtain ⟨zk_x2, zf⟩ := zf1
    refine g_iload h 5 rfl dX2_fits_11 ?_
    refine g_iload h 4 rfl dX2_fits_13 ?_
    refine g_ic_gt h 124 (by decide) zf dX2_fits_15 ?_ ?_ <;> clear zf <;> intro zf
    · refine g_iconst h 1 (v := 1) (by decide) dX2_fits_124 ?_
      obtain rfl := Option.some.inj zf
      exact g_zret h (by decide) rfl ⟨rfl, rfl⟩ (Nat.le_refl _) (Nat.le_refl _) dX2_fits_125
    · refine g_iload h 5 rfl dX2_fits_18 ?_
      refine g_bipush h 30 (v := 30) (by decide) dX2_fits_20 ?_
      refine g_ic_gt h 124 (by decide) zf dX2_fits_22 ?_ ?_ <;> clear zf <;> intro zf
      · refine g_iconst h 1 (v := 1) (by decide) dX2_fits_124 ?_
        obtain rfl := Option.some.inj zf
        exact g_zret h (by decide) rfl ⟨rfl, rfl⟩ (Nat.le_refl _) (Nat.le_refl _) dX2_fits_125
      · refine g_iload h 5 rfl dX2_fits_25 ?_
        refine g_iload_n h 2 rfl dX2_fits_27 ?_
        refine g_ic_ne h 36 (by decide) zf dX2_fits_28 ?_ ?_ <;> clear zf <;> intro zf
        · refine g_aload_n h 0 rfl dX2_fits_36 ?_
          refine gfX2_43 h (by decide : kd 49 = 1) dX2_fits_37 ?_
          refine g_aload_n h 0 rfl dX2_fits_40 ?_
          refine gfX2_12 h (by decide : kd 49 = 1) dX2_fits_41 ?_
          refine g_aload_n h 0 rfl dX2_fits_44 ?_
          refine gfX2_12 h (by decide : kd 49 = 1) dX2_fits_45 ?_
          refine gfX2_90 h (by decide : kd 50 = 2) dX2_fits_48 ?_
          refine g_nmI zf ?_
          clear zf; intro vq2 zf
          have zf1 := bd_some zf
          clear zf; obtain ⟨vq3, zq, zf⟩ := zf1
          refine g_callVri (As := [rv G.1 50, .int vq2]) (rest := []) h ceX7_wayDeed mlX2_103 imX7_wayDeed seX7_wayDeed (by rfl) (kd_lt (by rw [(by decide : kd 28 = 6)]; decide)) (ent_6 (by decide : kd 28 = 6)) rfl rfl ⟨by decide, by decide⟩ ⟨by decide, by decide⟩ rfl dX2_fits_51 rfl (Nat.le_of_ble_eq_true rfl) (cmX7_wayDeed zq) ?_
          refine g_sub h [0, 1, 2, 3, 4, 5] rfl ?_
          exact kX2_fits_b54 h ih zf
        · refine g_iload h 3 rfl dX2_fits_31 ?_
          refine g_goto h 54 (by decide) dX2_fits_33 ?_
          refine g_sub h [0, 1, 2, 3, 4, 5] rfl ?_
          exact kX2_fits_b54 h ih zf

theorem kX2_fits_e0 {G : GX} (h : OKm G cX2_fits RX2 8 (some .boolean) { frames := 8, cells := 0, slots := 0, locals := 221 }) {M : Mem} {x1 : Nat} {x2 : Nat} {x3 : Int32} {x4 : Int32} {x5 : Int32} {res : (Int32 × Mem)} (zf : fX2_fits M x1 x2 x3 x4 x5 = some res) : GG G (Qm G (Pwi res) 0 0) 0 0 0 [(0, rv G.1 49), (1, rv G.1 x1), (2, rv G.1 x2), (3, .int x3), (4, .int x4), (5, .int x5)] [] M := by
  unfold fX2_fits at zf
  have zf1 := pre_ck zf
  clear zf; obtain ⟨zk_x1, zf⟩ := zf1
  have zf1 := pre_ck zf
  clear zf; obtain ⟨zk_x2, zf⟩ := zf1
  refine g_aload_n h 0 rfl dX2_fits_0 ?_
  refine gfX2_12 h (by decide : kd 49 = 1) dX2_fits_1 ?_
  refine g_aload_n h 1 rfl dX2_fits_4 ?_
  have zf1 := bd_some zf
  clear zf; obtain ⟨Mq1, zq, zf⟩ := zf1
  refine g_callVwv (As := [rv G.1 x1]) (rest := []) h ceX3_become mlX2_47 imX3_become seX3_become (by rfl) (kd_lt (by rw [(by decide : kd 50 = 2)]; decide)) (ent_2 (by decide : kd 50 = 2)) rfl rfl ⟨by decide, by decide⟩ ⟨by decide, by decide⟩ rfl dX2_fits_5 rfl (Nat.le_of_ble_eq_true rfl) (cmX3_become zq) ?_
  refine g_iconst h 1 (v := 1) (by decide) dX2_fits_8 ?_
  refine g_istore h [(6, .int 1), (0, rv G.1 49), (1, rv G.1 x1), (2, rv G.1 x2), (3, .int x3), (4, .int x4), (5, .int x5)] (by decide) rfl dX2_fits_9 ?_
  refine g_sub h [1, 3, 4, 5, 6, 0] rfl ?_
  exact kX2_fits_l11 h _ _ _ _ _ _ _ _ zf

theorem cmX2_fits {l : Launch} {w : WX} {M : Mem} {x1 : Nat} {x2 : Nat} {x3 : Int32} {x4 : Int32} {x5 : Int32} {res : (Int32 × Mem)} (zf : fX2_fits M x1 x2 x3 x4 x5 = some res) : CM l w yX2_fits cX2_fits 8 (some .boolean) { frames := 8, cells := 0, slots := 0, locals := 221 } 0 0 [rv w 49, rv w x1, rv w x2, .int x3, .int x4, .int x5] M (Pwi res) := by
  refine CM_of (by decide) (Nat.le_of_ble_eq_true rfl) (fun G hw hl h => ?_)
  subst hw
  exact kX2_fits_e0 h zf

-- X3_clearRow
theorem kX3_clearRow_l2 {G : GX} (h : OKm G cX3_clearRow RX3 2 none { frames := 0, cells := 0, slots := 0, locals := 0 }) : ∀ (n : Nat) (M : Mem) (x0 : Nat) (x1 : Int32) (res : Mem), fX3_clearRow_l2 n M x0 x1 = some res → GG G (Qm G (Pwv res) 0 0) 0 0 2 [(0, rv G.1 x0), (1, .int x1)] [] M := by
  intro n
  induction n with
  | zero => intro M x0 x1 res zf; rw [fX3_clearRow_l2] at zf; cases zf
  | succ n ih =>
    intro M x0 x1 res zf
    rw [fX3_clearRow_l2] at zf
    have zf1 := pre_ck zf
    clear zf; obtain ⟨zk_x0, zf⟩ := zf1
    refine g_iload_n h 1 rfl dX3_clearRow_2 ?_
    refine g_aload_n h 0 rfl dX3_clearRow_3 ?_
    refine g_ilen h (ln x0) (z := Int32.ofNat (ln x0)) zk_x0 rfl rfl dX3_clearRow_4 ?_
    refine g_ic_ge h 18 (by decide) zf dX3_clearRow_5 ?_ ?_ <;> clear zf <;> intro zf
    · obtain rfl := Option.some.inj zf
      exact g_vret h rfl ⟨rfl, rfl⟩ (Nat.le_refl _) (Nat.le_refl _) dX3_clearRow_18
    · refine g_aload_n h 0 rfl dX3_clearRow_8 ?_
      refine g_iload_n h 1 rfl dX3_clearRow_9 ?_
      refine g_iconst h 0 (v := 0) (by decide) dX3_clearRow_10 ?_
      refine g_iast h (ln x0) zk_x0 rfl zf dX3_clearRow_11 ?_
      clear zf; intro Mq1 zf
      refine g_iinc h 1 1 rfl (v := x1 + 1) (congrArg (fun z => x1 + z) (by decide : Int32.ofInt (1) = (1 : Int32))) [(1, .int (x1 + 1)), (0, rv G.1 x0)] (by decide) rfl dX3_clearRow_12 ?_
      refine g_nmV zf ?_
      clear zf; intro vq2 zf
      refine g_goto h 2 (by decide) dX3_clearRow_15 ?_
      refine g_sub h [1, 0] rfl ?_
      exact ih _ _ _ _ zf

theorem kX3_clearRow_e0 {G : GX} (h : OKm G cX3_clearRow RX3 2 none { frames := 0, cells := 0, slots := 0, locals := 0 }) {M : Mem} {x0 : Nat} {res : Mem} (zf : fX3_clearRow M x0 = some res) : GG G (Qm G (Pwv res) 0 0) 0 0 0 [(0, rv G.1 x0)] [] M := by
  unfold fX3_clearRow at zf
  have zf1 := pre_ck zf
  clear zf; obtain ⟨zk_x0, zf⟩ := zf1
  refine g_iconst h 0 (v := 0) (by decide) dX3_clearRow_0 ?_
  refine g_istore_n h rfl [(1, .int 0), (0, rv G.1 x0)] (by decide) rfl dX3_clearRow_1 ?_
  refine g_sub h [1, 0] rfl ?_
  exact kX3_clearRow_l2 h _ _ _ _ _ zf

theorem cmX3_clearRow {l : Launch} {w : WX} {M : Mem} {x0 : Nat} {res : Mem} (zf : fX3_clearRow M x0 = some res) : CM l w yX3_clearRow cX3_clearRow 2 none { frames := 0, cells := 0, slots := 0, locals := 0 } 0 0 [rv w x0] M (Pwv res) := by
  refine CM_of (by decide) (Nat.le_of_ble_eq_true rfl) (fun G hw hl h => ?_)
  subst hw
  exact kX3_clearRow_e0 h zf

-- X3_found
theorem kX3_found_e0 {G : GX} (h : OKm G cX3_found RX3 1 none { frames := 1, cells := 0, slots := 0, locals := 21 }) {M : Mem} {x0 : Nat} {res : Mem} (zf : fX3_found M x0 = some res) : GG G (Qm G (Pwv res) 0 0) 0 0 0 [(0, rv G.1 x0)] [] M := by
  unfold fX3_found at zf
  have zf1 := pre_ck zf
  clear zf; obtain ⟨zk_x0, zf⟩ := zf1
  refine g_aload_n h 0 rfl dX3_found_0 ?_
  refine g_bipush h 50 (v := 50) (by decide) dX3_found_1 ?_
  refine pfX3_27 h zk_x0 dX3_found_3 ?_
  refine g_nmM zf ?_
  clear zf; intro Mq1 zf
  refine g_aload_n h 0 rfl dX3_found_6 ?_
  refine g_bipush h 20 (v := 20) (by decide) dX3_found_7 ?_
  refine pfX3_31 h zk_x0 dX3_found_9 ?_
  refine g_nmM zf ?_
  clear zf; intro Mq2 zf
  refine g_aload_n h 0 rfl dX3_found_12 ?_
  refine g_iconst h 0 (v := 0) (by decide) dX3_found_13 ?_
  refine pfX3_34 h zk_x0 dX3_found_14 ?_
  refine g_nmM zf ?_
  clear zf; intro Mq3 zf
  refine g_aload_n h 0 rfl dX3_found_17 ?_
  refine g_iconst h 0 (v := 0) (by decide) dX3_found_18 ?_
  refine pfX3_37 h zk_x0 dX3_found_19 ?_
  refine g_nmM zf ?_
  clear zf; intro Mq4 zf
  refine g_aload_n h 0 rfl dX3_found_22 ?_
  refine g_iconst h 0 (v := 0) (by decide) dX3_found_23 ?_
  refine pfX3_40 h zk_x0 dX3_found_24 ?_
  refine g_nmM zf ?_
  clear zf; intro Mq5 zf
  refine g_aload_n h 0 rfl dX3_found_27 ?_
  refine g_iconst h 0 (v := 0) (by decide) dX3_found_28 ?_
  refine pfX3_43 h zk_x0 dX3_found_29 ?_
  refine g_nmM zf ?_
  clear zf; intro Mq6 zf
  refine g_aload_n h 0 rfl dX3_found_32 ?_
  refine g_iconst h 0 (v := 0) (by decide) dX3_found_33 ?_
  refine pfX3_46 h zk_x0 dX3_found_34 ?_
  refine g_nmM zf ?_
  clear zf; intro Mq7 zf
  refine g_aload_n h 0 rfl dX3_found_37 ?_
  refine g_iconst h 0 (v := 0) (by decide) dX3_found_38 ?_
  refine pfX3_49 h zk_x0 dX3_found_39 ?_
  refine g_nmM zf ?_
  clear zf; intro Mq8 zf
  refine g_aload_n h 0 rfl dX3_found_42 ?_
  refine g_iconst h 1 (v := 1) (by decide) dX3_found_43 ?_
  refine pfX3_52 h zk_x0 dX3_found_44 ?_
  refine g_nmM zf ?_
  clear zf; intro Mq9 zf
  refine g_aload_n h 0 rfl dX3_found_47 ?_
  refine gfX3_9 h zk_x0 dX3_found_48 ?_
  have zf1 := bd_some zf
  clear zf; obtain ⟨Mq10, zq, zf⟩ := zf1
  refine g_callSwv (As := [rv G.1 (x0 + 1)]) (rest := []) h ceX3_clearRow mlX3_55 smX3_clearRow rfl rfl ⟨by decide, by decide⟩ ⟨by decide, by decide⟩ rfl dX3_found_51 rfl (Nat.le_of_ble_eq_true rfl) (cmX3_clearRow zq) ?_
  refine g_aload_n h 0 rfl dX3_found_54 ?_
  refine gfX3_15 h zk_x0 dX3_found_55 ?_
  have zf1 := bd_some zf
  clear zf; obtain ⟨Mq11, zq, zf⟩ := zf1
  refine g_callSwv (As := [rv G.1 (x0 + 2)]) (rest := []) h ceX3_clearRow mlX3_55 smX3_clearRow rfl rfl ⟨by decide, by decide⟩ ⟨by decide, by decide⟩ rfl dX3_found_58 rfl (Nat.le_of_ble_eq_true rfl) (cmX3_clearRow zq) ?_
  refine g_aload_n h 0 rfl dX3_found_61 ?_
  refine gfX3_18 h zk_x0 dX3_found_62 ?_
  have zf1 := bd_some zf
  clear zf; obtain ⟨Mq12, zq, zf⟩ := zf1
  refine g_callSwv (As := [rv G.1 (x0 + 3)]) (rest := []) h ceX3_clearRow mlX3_55 smX3_clearRow rfl rfl ⟨by decide, by decide⟩ ⟨by decide, by decide⟩ rfl dX3_found_65 rfl (Nat.le_of_ble_eq_true rfl) (cmX3_clearRow zq) ?_
  refine g_aload_n h 0 rfl dX3_found_68 ?_
  refine gfX3_21 h zk_x0 dX3_found_69 ?_
  have zf1 := bd_some zf
  clear zf; obtain ⟨Mq13, zq, zf⟩ := zf1
  refine g_callSwv (As := [rv G.1 (x0 + 4)]) (rest := []) h ceX3_clearRow mlX3_55 smX3_clearRow rfl rfl ⟨by decide, by decide⟩ ⟨by decide, by decide⟩ rfl dX3_found_72 rfl (Nat.le_of_ble_eq_true rfl) (cmX3_clearRow zq) ?_
  obtain rfl := Option.some.inj zf
  exact g_vret h rfl ⟨rfl, rfl⟩ (Nat.le_refl _) (Nat.le_refl _) dX3_found_75

theorem cmX3_found {l : Launch} {w : WX} {M : Mem} {x0 : Nat} {res : Mem} (zf : fX3_found M x0 = some res) : CM l w yX3_found cX3_found 1 none { frames := 1, cells := 0, slots := 0, locals := 21 } 0 0 [rv w x0] M (Pwv res) := by
  refine CM_of (by decide) (Nat.le_of_ble_eq_true rfl) (fun G hw hl h => ?_)
  subst hw
  exact kX3_found_e0 h zf

-- X2_isAtRest
theorem kX2_isAtRest_e0 {G : GX} (h : OKm G cX2_isAtRest RX2 2 (some .boolean) { frames := 0, cells := 0, slots := 0, locals := 0 }) {M : Mem} {x1 : Int32} {res : Int32} (zf : fX2_isAtRest M x1 = some res) : GG G (Qm G (Pri res M) 0 0) 0 0 0 [(0, rv G.1 49), (1, .int x1)] [] M := by
  unfold fX2_isAtRest at zf
  refine g_aload_n h 0 rfl dX2_isAtRest_0 ?_
  refine gfX2_37 h (by decide : kd 49 = 1) dX2_isAtRest_1 ?_
  refine g_iload_n h 1 rfl dX2_isAtRest_4 ?_
  refine g_iald h 4 (by decide : kd 59 = 20) (by decide) zf dX2_isAtRest_5 ?_
  clear zf; intro vq1 zf
  refine g_aload_n h 0 rfl dX2_isAtRest_6 ?_
  refine gfX2_37 h (by decide : kd 49 = 1) dX2_isAtRest_7 ?_
  refine g_iload_n h 1 rfl dX2_isAtRest_10 ?_
  refine g_iconst h 2 (v := 2) (by decide) dX2_isAtRest_11 ?_
  refine g_ixor h dX2_isAtRest_12 ?_
  refine g_iald h 4 (by decide : kd 59 = 20) (by decide) zf dX2_isAtRest_13 ?_
  clear zf; intro vq2 zf
  refine g_ic_lt h 38 (by decide) zf dX2_isAtRest_14 ?_ ?_ <;> clear zf <;> intro zf
  · refine g_iconst h 0 (v := 0) (by decide) dX2_isAtRest_38 ?_
    obtain rfl := Option.some.inj zf
    exact g_zret h (by decide) rfl ⟨rfl, rfl⟩ (Nat.le_refl _) (Nat.le_refl _) dX2_isAtRest_39
  · refine g_aload_n h 0 rfl dX2_isAtRest_17 ?_
    refine gfX2_40 h (by decide : kd 49 = 1) dX2_isAtRest_18 ?_
    refine g_iload_n h 1 rfl dX2_isAtRest_21 ?_
    refine g_iald h 4 (by decide : kd 60 = 20) (by decide) zf dX2_isAtRest_22 ?_
    clear zf; intro vq3 zf
    refine g_aload_n h 0 rfl dX2_isAtRest_23 ?_
    refine gfX2_40 h (by decide : kd 49 = 1) dX2_isAtRest_24 ?_
    refine g_iload_n h 1 rfl dX2_isAtRest_27 ?_
    refine g_iconst h 1 (v := 1) (by decide) dX2_isAtRest_28 ?_
    refine g_ixor h dX2_isAtRest_29 ?_
    refine g_iald h 4 (by decide : kd 60 = 20) (by decide) zf dX2_isAtRest_30 ?_
    clear zf; intro vq4 zf
    refine g_ic_lt h 38 (by decide) zf dX2_isAtRest_31 ?_ ?_ <;> clear zf <;> intro zf
    · refine g_iconst h 0 (v := 0) (by decide) dX2_isAtRest_38 ?_
      obtain rfl := Option.some.inj zf
      exact g_zret h (by decide) rfl ⟨rfl, rfl⟩ (Nat.le_refl _) (Nat.le_refl _) dX2_isAtRest_39
    · refine g_iconst h 1 (v := 1) (by decide) dX2_isAtRest_34 ?_
      refine g_goto h 39 (by decide) dX2_isAtRest_35 ?_
      obtain rfl := Option.some.inj zf
      exact g_zret h (by decide) rfl ⟨rfl, rfl⟩ (Nat.le_refl _) (Nat.le_refl _) dX2_isAtRest_39

theorem cmX2_isAtRest {l : Launch} {w : WX} {M : Mem} {x1 : Int32} {res : Int32} (zf : fX2_isAtRest M x1 = some res) : CM l w yX2_isAtRest cX2_isAtRest 2 (some .boolean) { frames := 0, cells := 0, slots := 0, locals := 0 } 0 0 [rv w 49, .int x1] M (Pri res M) := by
  refine CM_of (by decide) (Nat.le_of_ble_eq_true rfl) (fun G hw hl h => ?_)
  subst hw
  exact kX2_isAtRest_e0 h zf

-- X2_markStores
theorem kX2_markStores_b81 {G : GX} (h : OKm G cX2_markStores RX2 6 none { frames := 0, cells := 0, slots := 0, locals := 0 }) {a2 : Mem → Int32 → Option Mem} (zh2 : ∀ (M : Mem) (x1 : Int32) (res : Mem), a2 M x1 = some res → GG G (Qm G (Pwv res) 0 0) 0 0 2 [(0, rv G.1 49), (1, .int x1)] [] M) {M : Mem} {x1 : Int32} {res : Mem} (zf : fX2_markStores_b81 a2 M x1 = some res) : GG G (Qm G (Pwv res) 0 0) 0 0 81 [(0, rv G.1 49), (1, .int x1)] [] M := by
  unfold fX2_markStores_b81 at zf
  refine g_iinc h 1 1 rfl (v := x1 + 1) (congrArg (fun z => x1 + z) (by decide : Int32.ofInt (1) = (1 : Int32))) [(1, .int (x1 + 1)), (0, rv G.1 49)] (by decide) rfl dX2_markStores_81 ?_
  refine g_nmV zf ?_
  clear zf; intro vq4 zf
  refine g_goto h 2 (by decide) dX2_markStores_84 ?_
  refine g_sub h [1, 0] rfl ?_
  exact zh2 _ _ _ zf

theorem kX2_markStores_l2 {G : GX} (h : OKm G cX2_markStores RX2 6 none { frames := 0, cells := 0, slots := 0, locals := 0 }) : ∀ (n : Nat) (M : Mem) (x1 : Int32) (res : Mem), fX2_markStores_l2 n M x1 = some res → GG G (Qm G (Pwv res) 0 0) 0 0 2 [(0, rv G.1 49), (1, .int x1)] [] M := by
  intro n
  induction n with
  | zero => intro M x1 res zf; rw [fX2_markStores_l2] at zf; cases zf
  | succ n ih =>
    intro M x1 res zf
    rw [fX2_markStores_l2] at zf
    refine g_iload_n h 1 rfl dX2_markStores_2 ?_
    refine g_bipush h 30 (v := 30) (by decide) dX2_markStores_3 ?_
    refine g_ic_ge h 87 (by decide) zf dX2_markStores_5 ?_ ?_ <;> clear zf <;> intro zf
    · obtain rfl := Option.some.inj zf
      exact g_vret h rfl ⟨rfl, rfl⟩ (Nat.le_refl _) (Nat.le_refl _) dX2_markStores_87
    · refine g_aload_n h 0 rfl dX2_markStores_8 ?_
      refine gfX2_26 h (by decide : kd 49 = 1) dX2_markStores_9 ?_
      refine g_iload_n h 1 rfl dX2_markStores_12 ?_
      refine g_iald h 30 (by decide : kd 56 = 20) (by decide) zf dX2_markStores_13 ?_
      clear zf; intro vq1 zf
      refine g_istore_n h rfl [(2, .int vq1), (0, rv G.1 49), (1, .int x1)] (by decide) rfl dX2_markStores_14 ?_
      refine g_iload_n h 2 rfl dX2_markStores_15 ?_
      refine g_bipush h 16 (v := 16) (by decide) dX2_markStores_16 ?_
      refine g_imul h dX2_markStores_18 ?_
      refine g_iload_n h 0 rfl dX2_markStores_19 ?_
      refine g_bipush h 64 (v := 64) (by decide) dX2_markStores_20 ?_
      refine g_idiv h (by decide) dX2_markStores_22 ?_
      refine g_iadd h dX2_markStores_23 ?_
      refine g_nmI zf ?_
      clear zf; intro vq2 zf
      refine g_istore_n h rfl [(3, .int vq2), (2, .int vq1), (0, rv G.1 49), (1, .int x1)] (by decide) rfl dX2_markStores_24 ?_
      refine g_lconst h 1 (v := 1) (by decide) dX2_markStores_25 ?_
      refine g_iload_n h 1 rfl dX2_markStores_26 ?_
      refine g_bipush h 64 (v := 64) (by decide) dX2_markStores_27 ?_
      refine g_irem h (by decide) dX2_markStores_29 ?_
      refine g_lshl h dX2_markStores_30 ?_
      refine g_nmL zf ?_
      clear zf; intro vq3 zf
      refine g_lstore h [(4, .long vq3), (3, .int vq2), (2, .int vq1), (0, rv G.1 49), (1, .int x1)] (by decide) rfl dX2_markStores_31 ?_
      refine g_iload_n h 2 rfl dX2_markStores_33 ?_
      refine g_if_lt h 81 (by decide) zf dX2_markStores_34 ?_ ?_ <;> clear zf <;> intro zf
      · refine g_sub h [3, 4] rfl ?_
        exact kX2_markStores_b81 h ih zf
      · refine g_iload_n h 1 rfl dX2_markStores_37 ?_
        refine g_aload_n h 3 rfl dX2_markStores_38 ?_
        refine gfX2_30 h (by decide : kd 49 = 1) dX2_markStores_39 ?_
        refine g_llen h 480 (z := 480) (by decide : kd 57 = 22) (by decide) (by decide) dX2_markStores_42 ?_
        refine g_ic_ge h 81 (by decide) zf dX2_markStores_43 ?_ ?_ <;> clear zf <;> intro zf
        · refine g_sub h [3, 4] rfl ?_
          exact kX2_markStores_b81 h ih zf
        · refine g_aload_n h 3 rfl dX2_markStores_46 ?_
          refine gfX2_30 h (by decide : kd 49 = 1) dX2_markStores_47 ?_
          refine g_iload_n h 1 rfl dX2_markStores_50 ?_
          refine g_lald h 480 (by decide : kd 57 = 22) (by decide) zf dX2_markStores_51 ?_
          clear zf; intro vq5 zf
          refine g_lload h 0 rfl dX2_markStores_52 ?_
          refine g_land h dX2_markStores_54 ?_
          refine g_lconst h 0 (v := 0) (by decide) dX2_markStores_55 ?_
          refine g_lcmp h dX2_markStores_56 ?_
          refine g_if_ne h 81 (by decide) zf dX2_markStores_57 ?_ ?_ <;> clear zf <;> intro zf
          · refine g_sub h [3, 4] rfl ?_
            exact kX2_markStores_b81 h ih zf
          · refine g_aload_n h 3 rfl dX2_markStores_60 ?_
            refine gfX2_30 h (by decide : kd 49 = 1) dX2_markStores_61 ?_
            refine g_iload_n h 1 rfl dX2_markStores_64 ?_
            refine g_dup2 h rfl rfl dX2_markStores_65 ?_
            refine g_lald h 480 (by decide : kd 57 = 22) (by decide) zf dX2_markStores_66 ?_
            clear zf; intro vq6 zf
            refine g_lload h 0 rfl dX2_markStores_67 ?_
            refine g_lor h dX2_markStores_69 ?_
            refine g_last h 480 (by decide : kd 57 = 22) (by decide) zf dX2_markStores_70 ?_
            clear zf; intro Mq7 zf
            refine g_aload_n h 3 rfl dX2_markStores_71 ?_
            refine gfX2_34 h (by decide : kd 49 = 1) dX2_markStores_72 ?_
            refine g_iload_n h 4 rfl dX2_markStores_75 ?_
            refine g_dup2 h rfl rfl dX2_markStores_76 ?_
            refine g_iald h 30 (by decide : kd 58 = 20) (by decide) zf dX2_markStores_77 ?_
            clear zf; intro vq8 zf
            refine g_iconst h 1 (v := 1) (by decide) dX2_markStores_78 ?_
            refine g_iadd h dX2_markStores_79 ?_
            refine g_iast h 30 (by decide : kd 58 = 20) (by decide) zf dX2_markStores_80 ?_
            clear zf; intro Mq9 zf
            refine g_sub h [3, 4] rfl ?_
            exact kX2_markStores_b81 h ih zf

theorem kX2_markStores_e0 {G : GX} (h : OKm G cX2_markStores RX2 6 none { frames := 0, cells := 0, slots := 0, locals := 0 }) {M : Mem} {res : Mem} (zf : fX2_markStores M = some res) : GG G (Qm G (Pwv res) 0 0) 0 0 0 [(0, rv G.1 49)] [] M := by
  unfold fX2_markStores at zf
  refine g_iconst h 0 (v := 0) (by decide) dX2_markStores_0 ?_
  refine g_istore_n h rfl [(1, .int 0), (0, rv G.1 49)] (by decide) rfl dX2_markStores_1 ?_
  refine g_sub h [1, 0] rfl ?_
  exact kX2_markStores_l2 h _ _ _ _ zf

theorem cmX2_markStores {l : Launch} {w : WX} {M : Mem} {res : Mem} (zf : fX2_markStores M = some res) : CM l w yX2_markStores cX2_markStores 6 none { frames := 0, cells := 0, slots := 0, locals := 0 } 0 0 [rv w 49] M (Pwv res) := by
  refine CM_of (by decide) (Nat.le_of_ble_eq_true rfl) (fun G hw hl h => ?_)
  subst hw
  exact kX2_markStores_e0 h zf

-- X2_planned
theorem kX2_planned_e0 {G : GX} (h : OKm G cX2_planned RX2 3 (some .int) { frames := 41, cells := 0, slots := 0, locals := 1270 }) {M : Mem} {x1 : Nat} {x2 : Int32} {res : (Int32 × Mem)} (zf : fX2_planned M x1 x2 = some res) : GG G (Qm G (Pwi res) 0 0) 0 0 0 [(0, rv G.1 49), (1, rv G.1 x1), (2, .int x2)] [] M := by
  unfold fX2_planned at zf
  have zf1 := pre_ck zf
  clear zf; obtain ⟨zk_x1, zf⟩ := zf1
  refine g_aload_n h 0 rfl dX2_planned_0 ?_
  refine gfX2_18 h (by decide : kd 49 = 1) dX2_planned_1 ?_
  refine g_iconst h 0 (v := 0) (by decide) dX2_planned_4 ?_
  refine g_aald h (by decide : kd 55 = 24) (by decide) zf dX2_planned_5 ?_
  clear zf; intro oq1 zf
  have zf1 := pre_ck zf
  clear zf; obtain ⟨zk_oq1, zf⟩ := zf1
  refine g_aload_n h 1 rfl dX2_planned_6 ?_
  have zf1 := bd_some zf
  clear zf; obtain ⟨Mq2, zq, zf⟩ := zf1
  refine g_callVwv (As := [rv G.1 x1]) (rest := []) h ceX3_become mlX2_47 imX3_become seX3_become (by rfl) (kd_lt (by rw [zk_oq1]; decide)) (ent_2 zk_oq1) rfl rfl ⟨by decide, by decide⟩ ⟨by decide, by decide⟩ rfl dX2_planned_7 rfl (Nat.le_of_ble_eq_true rfl) (cmX3_become zq) ?_
  refine g_aload_n h 0 rfl dX2_planned_10 ?_
  refine g_iconst h 0 (v := 0) (by decide) dX2_planned_11 ?_
  refine g_iload_n h 2 rfl dX2_planned_12 ?_
  have zf1 := b2_some zf
  clear zf; obtain ⟨vq3, Mq4, zq, zf⟩ := zf1
  refine g_callVwi (As := [.int 0, .int x2]) (rest := []) h ceX2_bestGain mlX2_51 imX2_bestGain seX2_bestGain (by rfl) (kd_lt (by rw [(by decide : kd 49 = 1)]; decide)) (ent_1 (by decide : kd 49 = 1)) rfl rfl ⟨by decide, by decide⟩ ⟨by decide, by decide⟩ rfl dX2_planned_13 rfl (Nat.le_of_ble_eq_true rfl) (cmX2_bestGain 5 zq) ?_
  obtain rfl := Option.some.inj zf
  exact g_iret h rfl ⟨rfl, rfl⟩ (Nat.le_refl _) (Nat.le_refl _) dX2_planned_16

theorem cmX2_planned {l : Launch} {w : WX} {M : Mem} {x1 : Nat} {x2 : Int32} {res : (Int32 × Mem)} (zf : fX2_planned M x1 x2 = some res) : CM l w yX2_planned cX2_planned 3 (some .int) { frames := 41, cells := 0, slots := 0, locals := 1270 } 0 0 [rv w 49, rv w x1, .int x2] M (Pwi res) := by
  refine CM_of (by decide) (Nat.le_of_ble_eq_true rfl) (fun G hw hl h => ?_)
  subst hw
  exact kX2_planned_e0 h zf

-- X2_playOut
theorem kX2_playOut_b175 {G : GX} (h : OKm G cX2_playOut RX2 10 none { frames := 8, cells := 0, slots := 0, locals := 221 }) {a12 : Mem → Nat → Int32 → Int32 → Nat → Int32 → Option Mem} (zh12 : ∀ (M : Mem) (x1 : Nat) (x2 : Int32) (x3 : Int32) (x4 : Nat) (x5 : Int32) (res : Mem), a12 M x1 x2 x3 x4 x5 = some res → GG G (Qm G (Pwv res) 0 0) 0 0 12 [(0, rv G.1 49), (1, rv G.1 x1), (2, .int x2), (3, .int x3), (4, rv G.1 x4), (5, .int x5)] [] M) {M : Mem} {x1 : Nat} {x2 : Int32} {x3 : Int32} {x4 : Nat} {x5 : Int32} {x8 : Int32} {s0 : Int32} {s1 : Int32} {res : Mem} (zf : fX2_playOut_b175 a12 M x1 x2 x3 x4 x5 x8 s0 s1 = some res) : GG G (Qm G (Pwv res) 0 0) 0 0 175 [(0, rv G.1 49), (1, rv G.1 x1), (2, .int x2), (3, .int x3), (4, rv G.1 x4), (5, .int x5), (8, .int x8)] [.int s0, .int s1, rv G.1 60] M := by
  unfold fX2_playOut_b175 at zf
  have zf1 := pre_ck zf
  clear zf; obtain ⟨zk_x1, zf⟩ := zf1
  have zf1 := pre_ck zf
  clear zf; obtain ⟨zk_x4, zf⟩ := zf1
  refine g_iload h 6 rfl dX2_playOut_175 ?_
  refine g_isub h dX2_playOut_177 ?_
  refine g_iast h 4 (by decide : kd 60 = 20) (by decide) zf dX2_playOut_178 ?_
  clear zf; intro Mq12 zf
  refine g_iinc h 5 5 rfl (v := x5 + 1) (congrArg (fun z => x5 + z) (by decide : Int32.ofInt (1) = (1 : Int32))) [(5, .int (x5 + 1)), (0, rv G.1 49), (1, rv G.1 x1), (2, .int x2), (3, .int x3), (4, rv G.1 x4), (8, .int x8)] (by decide) rfl dX2_playOut_179 ?_
  refine g_nmV zf ?_
  clear zf; intro vq13 zf
  refine g_goto h 12 (by decide) dX2_playOut_182 ?_
  refine g_sub h [1, 2, 3, 4, 5, 0] rfl ?_
  exact zh12 _ _ _ _ _ _ _ zf

theorem kX2_playOut_b119 {G : GX} (h : OKm G cX2_playOut RX2 10 none { frames := 8, cells := 0, slots := 0, locals := 221 }) {a12 : Mem → Nat → Int32 → Int32 → Nat → Int32 → Option Mem} (zh12 : ∀ (M : Mem) (x1 : Nat) (x2 : Int32) (x3 : Int32) (x4 : Nat) (x5 : Int32) (res : Mem), a12 M x1 x2 x3 x4 x5 = some res → GG G (Qm G (Pwv res) 0 0) 0 0 12 [(0, rv G.1 49), (1, rv G.1 x1), (2, .int x2), (3, .int x3), (4, rv G.1 x4), (5, .int x5)] [] M) {M : Mem} {x1 : Nat} {x2 : Int32} {x3 : Int32} {x4 : Nat} {x5 : Int32} {x7 : Int32} {x8 : Int32} {s0 : Int32} {s1 : Int32} {res : Mem} (zf : fX2_playOut_b119 a12 M x1 x2 x3 x4 x5 x7 x8 s0 s1 = some res) : GG G (Qm G (Pwv res) 0 0) 0 0 119 [(0, rv G.1 49), (1, rv G.1 x1), (2, .int x2), (3, .int x3), (4, rv G.1 x4), (5, .int x5), (7, .int x7), (8, .int x8)] [.int s0, .int s1, rv G.1 59] M := by
  unfold fX2_playOut_b119 at zf
  have zf1 := pre_ck zf
  clear zf; obtain ⟨zk_x1, zf⟩ := zf1
  have zf1 := pre_ck zf
  clear zf; obtain ⟨zk_x4, zf⟩ := zf1
  refine g_iload h 7 rfl dX2_playOut_119 ?_
  refine g_isub h dX2_playOut_121 ?_
  refine g_iast h 4 (by decide : kd 59 = 20) (by decide) zf dX2_playOut_122 ?_
  clear zf; intro Mq7 zf
  refine g_aload_n h 0 rfl dX2_playOut_123 ?_
  refine gfX2_43 h (by decide : kd 49 = 1) dX2_playOut_124 ?_
  refine g_aload_n h 0 rfl dX2_playOut_127 ?_
  refine gfX2_12 h (by decide : kd 49 = 1) dX2_playOut_128 ?_
  refine g_aload_n h 0 rfl dX2_playOut_131 ?_
  refine gfX2_43 h (by decide : kd 49 = 1) dX2_playOut_132 ?_
  refine g_aload_n h 0 rfl dX2_playOut_135 ?_
  refine gfX2_12 h (by decide : kd 49 = 1) dX2_playOut_136 ?_
  refine gfX2_61 h (by decide : kd 50 = 2) dX2_playOut_139 ?_
  refine g_nmI zf ?_
  clear zf; intro vq8 zf
  have zf1 := bd_some zf
  clear zf; obtain ⟨vq9, zq, zf⟩ := zf1
  refine g_callVri (As := [.int vq8]) (rest := [rv G.1 50, rv G.1 28]) h ceX7_harvestOf mlX2_64 imX7_harvestOf seX7_harvestOf (by rfl) (kd_lt (by rw [(by decide : kd 28 = 6)]; decide)) (ent_6 (by decide : kd 28 = 6)) rfl rfl ⟨by decide, by decide⟩ ⟨by decide, by decide⟩ rfl dX2_playOut_142 rfl (Nat.le_of_ble_eq_true rfl) (cmX7_harvestOf zq) ?_
  refine g_iload h 6 rfl dX2_playOut_145 ?_
  have zf1 := b2_some zf
  clear zf; obtain ⟨vq10, Mq11, zq, zf⟩ := zf1
  refine g_callVwi (As := [rv G.1 50, .int vq9, .int x7]) (rest := []) h ceX7_live mlX2_107 imX7_live seX7_live (by rfl) (kd_lt (by rw [(by decide : kd 28 = 6)]; decide)) (ent_6 (by decide : kd 28 = 6)) rfl rfl ⟨by decide, by decide⟩ ⟨by decide, by decide⟩ rfl dX2_playOut_147 rfl (Nat.le_of_ble_eq_true rfl) (cmX7_live zq) ?_
  refine g_istore h [(9, .int vq10), (0, rv G.1 49), (1, rv G.1 x1), (2, .int x2), (3, .int x3), (4, rv G.1 x4), (5, .int x5), (7, .int x7), (8, .int x8)] (by decide) rfl dX2_playOut_150 ?_
  refine g_aload_n h 1 rfl dX2_playOut_152 ?_
  refine gfX2_40 h (by decide : kd 49 = 1) dX2_playOut_153 ?_
  refine g_iload h 6 rfl dX2_playOut_156 ?_
  refine g_iload h 0 rfl dX2_playOut_158 ?_
  refine g_if_eq h 174 (by decide) zf dX2_playOut_160 ?_ ?_ <;> clear zf <;> intro zf
  · refine g_iconst h 0 (v := 0) (by decide) dX2_playOut_174 ?_
    refine g_sub h [1, 2, 3, 4, 5, 6, 8] rfl ?_
    exact kX2_playOut_b175 h zh12 zf
  · refine g_aload h 5 rfl dX2_playOut_163 ?_
    refine gfX2_83 h zk_x4 dX2_playOut_165 ?_
    refine g_iload h 7 rfl dX2_playOut_168 ?_
    refine g_iald h 7 (kf4_4 zk_x4) (lf4_4 zk_x4) zf dX2_playOut_170 ?_
    clear zf; intro vq14 zf
    refine g_goto h 175 (by decide) dX2_playOut_171 ?_
    refine g_sub h [1, 2, 3, 4, 5, 6, 8] rfl ?_
    exact kX2_playOut_b175 h zh12 zf

theorem kX2_playOut_b57 {G : GX} (h : OKm G cX2_playOut RX2 10 none { frames := 8, cells := 0, slots := 0, locals := 221 }) {a12 : Mem → Nat → Int32 → Int32 → Nat → Int32 → Option Mem} (zh12 : ∀ (M : Mem) (x1 : Nat) (x2 : Int32) (x3 : Int32) (x4 : Nat) (x5 : Int32) (res : Mem), a12 M x1 x2 x3 x4 x5 = some res → GG G (Qm G (Pwv res) 0 0) 0 0 12 [(0, rv G.1 49), (1, rv G.1 x1), (2, .int x2), (3, .int x3), (4, rv G.1 x4), (5, .int x5)] [] M) {M : Mem} {x1 : Nat} {x2 : Int32} {x3 : Int32} {x4 : Nat} {x5 : Int32} {x6 : Int32} {x7 : Int32} {s0 : Int32} {res : Mem} (zf : fX2_playOut_b57 a12 M x1 x2 x3 x4 x5 x6 x7 s0 = some res) : GG G (Qm G (Pwv res) 0 0) 0 0 57 [(0, rv G.1 49), (1, rv G.1 x1), (2, .int x2), (3, .int x3), (4, rv G.1 x4), (5, .int x5), (6, .int x6), (7, .int x7)] [.int s0] M := by
  unfold fX2_playOut_b57 at zf
  have zf1 := pre_ck zf
  clear zf; obtain ⟨zk_x1, zf⟩ := zf1
  have zf1 := pre_ck zf
  clear zf; obtain ⟨zk_x4, zf⟩ := zf1
  refine g_istore h [(8, .int s0), (0, rv G.1 49), (1, rv G.1 x1), (2, .int x2), (3, .int x3), (4, rv G.1 x4), (5, .int x5), (6, .int x6), (7, .int x7)] (by decide) rfl dX2_playOut_57 ?_
  refine g_aload_n h 1 rfl dX2_playOut_59 ?_
  refine gfX2_12 h (by decide : kd 49 = 1) dX2_playOut_60 ?_
  refine g_aload_n h 2 rfl dX2_playOut_63 ?_
  have zf1 := bd_some zf
  clear zf; obtain ⟨Mq2, zq, zf⟩ := zf1
  refine g_callVwv (As := [rv G.1 x1]) (rest := []) h ceX3_become mlX2_47 imX3_become seX3_become (by rfl) (kd_lt (by rw [(by decide : kd 50 = 2)]; decide)) (ent_2 (by decide : kd 50 = 2)) rfl rfl ⟨by decide, by decide⟩ ⟨by decide, by decide⟩ rfl dX2_playOut_64 rfl (Nat.le_of_ble_eq_true rfl) (cmX3_become zq) ?_
  refine g_aload_n h 1 rfl dX2_playOut_67 ?_
  refine gfX2_43 h (by decide : kd 49 = 1) dX2_playOut_68 ?_
  refine g_aload_n h 1 rfl dX2_playOut_71 ?_
  refine gfX2_12 h (by decide : kd 49 = 1) dX2_playOut_72 ?_
  refine g_aload_n h 1 rfl dX2_playOut_75 ?_
  refine gfX2_43 h (by decide : kd 49 = 1) dX2_playOut_76 ?_
  refine g_aload_n h 1 rfl dX2_playOut_79 ?_
  refine gfX2_12 h (by decide : kd 49 = 1) dX2_playOut_80 ?_
  refine gfX2_61 h (by decide : kd 50 = 2) dX2_playOut_83 ?_
  refine g_nmI zf ?_
  clear zf; intro vq3 zf
  have zf1 := bd_some zf
  clear zf; obtain ⟨vq4, zq, zf⟩ := zf1
  refine g_callVri (As := [.int vq3]) (rest := [rv G.1 50, rv G.1 28]) h ceX7_harvestOf mlX2_64 imX7_harvestOf seX7_harvestOf (by rfl) (kd_lt (by rw [(by decide : kd 28 = 6)]; decide)) (ent_6 (by decide : kd 28 = 6)) rfl rfl ⟨by decide, by decide⟩ ⟨by decide, by decide⟩ rfl dX2_playOut_86 rfl (Nat.le_of_ble_eq_true rfl) (cmX7_harvestOf zq) ?_
  refine g_iload h 7 rfl dX2_playOut_89 ?_
  have zf1 := b2_some zf
  clear zf; obtain ⟨vq5, Mq6, zq, zf⟩ := zf1
  refine g_callVwi (As := [rv G.1 50, .int vq4, .int x6]) (rest := []) h ceX7_live mlX2_107 imX7_live seX7_live (by rfl) (kd_lt (by rw [(by decide : kd 28 = 6)]; decide)) (ent_6 (by decide : kd 28 = 6)) rfl rfl ⟨by decide, by decide⟩ ⟨by decide, by decide⟩ rfl dX2_playOut_91 rfl (Nat.le_of_ble_eq_true rfl) (cmX7_live zq) ?_
  refine g_istore h [(9, .int vq5), (8, .int s0), (0, rv G.1 49), (1, rv G.1 x1), (2, .int x2), (3, .int x3), (4, rv G.1 x4), (5, .int x5), (6, .int x6), (7, .int x7)] (by decide) rfl dX2_playOut_94 ?_
  refine g_aload_n h 2 rfl dX2_playOut_96 ?_
  refine gfX2_37 h (by decide : kd 49 = 1) dX2_playOut_97 ?_
  refine g_iload h 7 rfl dX2_playOut_100 ?_
  refine g_iload h 0 rfl dX2_playOut_102 ?_
  refine g_if_eq h 118 (by decide) zf dX2_playOut_104 ?_ ?_ <;> clear zf <;> intro zf
  · refine g_iconst h 0 (v := 0) (by decide) dX2_playOut_118 ?_
    refine g_sub h [2, 3, 4, 5, 6, 7, 9, 1] rfl ?_
    exact kX2_playOut_b119 h zh12 zf
  · refine g_aload h 6 rfl dX2_playOut_107 ?_
    refine gfX2_83 h zk_x4 dX2_playOut_109 ?_
    refine g_iload h 8 rfl dX2_playOut_112 ?_
    refine g_iald h 7 (kf4_4 zk_x4) (lf4_4 zk_x4) zf dX2_playOut_114 ?_
    clear zf; intro vq15 zf
    refine g_goto h 119 (by decide) dX2_playOut_115 ?_
    refine g_sub h [2, 3, 4, 5, 6, 7, 9, 1] rfl ?_
    exact kX2_playOut_b119 h zh12 zf

theorem kX2_playOut_b43 {G : GX} (h : OKm G cX2_playOut RX2 10 none { frames := 8, cells := 0, slots := 0, locals := 221 }) {a12 : Mem → Nat → Int32 → Int32 → Nat → Int32 → Option Mem} (zh12 : ∀ (M : Mem) (x1 : Nat) (x2 : Int32) (x3 : Int32) (x4 : Nat) (x5 : Int32) (res : Mem), a12 M x1 x2 x3 x4 x5 = some res → GG G (Qm G (Pwv res) 0 0) 0 0 12 [(0, rv G.1 49), (1, rv G.1 x1), (2, .int x2), (3, .int x3), (4, rv G.1 x4), (5, .int x5)] [] M) {M : Mem} {x1 : Nat} {x2 : Int32} {x3 : Int32} {x4 : Nat} {x5 : Int32} {x6 : Int32} {s0 : Int32} {res : Mem} (zf : fX2_playOut_b43 a12 M x1 x2 x3 x4 x5 x6 s0 = some res) : GG G (Qm G (Pwv res) 0 0) 0 0 43 [(0, rv G.1 49), (1, rv G.1 x1), (2, .int x2), (3, .int x3), (4, rv G.1 x4), (5, .int x5), (6, .int x6)] [.int s0] M := by
  unfold fX2_playOut_b43 at zf
  have zf1 := pre_ck zf
  clear zf; obtain ⟨zk_x1, zf⟩ := zf1
  have zf1 := pre_ck zf
  clear zf; obtain ⟨zk_x4, zf⟩ := zf1
  refine g_istore h [(7, .int s0), (0, rv G.1 49), (1, rv G.1 x1), (2, .int x2), (3, .int x3), (4, rv G.1 x4), (5, .int x5), (6, .int x6)] (by decide) rfl dX2_playOut_43 ?_
  refine g_iload h 7 rfl dX2_playOut_45 ?_
  refine g_iload h 0 rfl dX2_playOut_47 ?_
  refine g_ic_ne h 56 (by decide) zf dX2_playOut_49 ?_ ?_ <;> clear zf <;> intro zf
  · refine g_iconst h 0 (v := 0) (by decide) dX2_playOut_56 ?_
    refine g_sub h [1, 2, 3, 4, 5, 6, 7, 0] rfl ?_
    exact kX2_playOut_b57 h zh12 zf
  · refine g_iconst h 3 (v := 3) (by decide) dX2_playOut_52 ?_
    refine g_goto h 57 (by decide) dX2_playOut_53 ?_
    refine g_sub h [1, 2, 3, 4, 5, 6, 7, 0] rfl ?_
    exact kX2_playOut_b57 h zh12 zf

theorem kX2_playOut_b29 {G : GX} (h : OKm G cX2_playOut RX2 10 none { frames := 8, cells := 0, slots := 0, locals := 221 }) {a12 : Mem → Nat → Int32 → Int32 → Nat → Int32 → Option Mem} (zh12 : ∀ (M : Mem) (x1 : Nat) (x2 : Int32) (x3 : Int32) (x4 : Nat) (x5 : Int32) (res : Mem), a12 M x1 x2 x3 x4 x5 = some res → GG G (Qm G (Pwv res) 0 0) 0 0 12 [(0, rv G.1 49), (1, rv G.1 x1), (2, .int x2), (3, .int x3), (4, rv G.1 x4), (5, .int x5)] [] M) {M : Mem} {x1 : Nat} {x2 : Int32} {x3 : Int32} {x4 : Nat} {x5 : Int32} {s0 : Int32} {res : Mem} (zf : fX2_playOut_b29 a12 M x1 x2 x3 x4 x5 s0 = some res) : GG G (Qm G (Pwv res) 0 0) 0 0 29 [(0, rv G.1 49), (1, rv G.1 x1), (2, .int x2), (3, .int x3), (4, rv G.1 x4), (5, .int x5)] [.int s0] M := by
  unfold fX2_playOut_b29 at zf
  have zf1 := pre_ck zf
  clear zf; obtain ⟨zk_x1, zf⟩ := zf1
  have zf1 := pre_ck zf
  clear zf; obtain ⟨zk_x4, zf⟩ := zf1
  refine g_istore h [(6, .int s0), (0, rv G.1 49), (1, rv G.1 x1), (2, .int x2), (3, .int x3), (4, rv G.1 x4), (5, .int x5)] (by decide) rfl dX2_playOut_29 ?_
  refine g_iload h 6 rfl dX2_playOut_31 ?_
  refine g_iconst h 2 (v := 2) (by decide) dX2_playOut_33 ?_
  refine g_irem h (by decide) dX2_playOut_34 ?_
  refine g_if_ne h 42 (by decide) zf dX2_playOut_35 ?_ ?_ <;> clear zf <;> intro zf
  · refine g_iload_n h 4 rfl dX2_playOut_42 ?_
    refine g_sub h [1, 2, 3, 4, 5, 6, 0] rfl ?_
    exact kX2_playOut_b43 h zh12 zf
  · refine g_iload_n h 3 rfl dX2_playOut_38 ?_
    refine g_goto h 43 (by decide) dX2_playOut_39 ?_
    refine g_sub h [1, 2, 3, 4, 5, 6, 0] rfl ?_
    exact kX2_playOut_b43 h zh12 zf

theorem kX2_playOut_l12 {G : GX} (h : OKm G cX2_playOut RX2 10 none { frames := 8, cells := 0, slots := 0, locals := 221 }) : ∀ (n : Nat) (M : Mem) (x1 : Nat) (x2 : Int32) (x3 : Int32) (x4 : Nat) (x5 : Int32) (res : Mem), fX2_playOut_l12 n M x1 x2 x3 x4 x5 = some res → GG G (Qm G (Pwv res) 0 0) 0 0 12 [(0, rv G.1 49), (1, rv G.1 x1), (2, .int x2), (3, .int x3), (4, rv G.1 x4), (5, .int x5)] [] M := by
  intro n
  induction n with
  | zero => intro M x1 x2 x3 x4 x5 res zf; rw [fX2_playOut_l12] at zf; cases zf
  | succ n ih =>
    intro M x1 x2 x3 x4 x5 res zf
    rw [fX2_playOut_l12] at zf
    have zf1 := pre_ck zf
    clear zf; obtain ⟨zk_x1, zf⟩ := zf1
    have zf1 := pre_ck zf
    clear zf; obtain ⟨zk_x4, zf⟩ := zf1
    refine g_iload h 5 rfl dX2_playOut_12 ?_
    refine g_iconst h 4 (v := 4) (by decide) dX2_playOut_14 ?_
    refine g_ic_ge h 185 (by decide) zf dX2_playOut_15 ?_ ?_ <;> clear zf <;> intro zf
    · obtain rfl := Option.some.inj zf
      exact g_vret h rfl ⟨rfl, rfl⟩ (Nat.le_refl _) (Nat.le_refl _) dX2_playOut_185
    · refine g_iload h 5 rfl dX2_playOut_18 ?_
      refine g_iconst h 2 (v := 2) (by decide) dX2_playOut_20 ?_
      refine g_ic_ge h 28 (by decide) zf dX2_playOut_21 ?_ ?_ <;> clear zf <;> intro zf
      · refine g_iload_n h 3 rfl dX2_playOut_28 ?_
        refine g_sub h [0, 1, 2, 3, 4, 5] rfl ?_
        exact kX2_playOut_b29 h ih zf
      · refine g_iload_n h 2 rfl dX2_playOut_24 ?_
        refine g_goto h 29 (by decide) dX2_playOut_25 ?_
        refine g_sub h [0, 1, 2, 3, 4, 5] rfl ?_
        exact kX2_playOut_b29 h ih zf

theorem kX2_playOut_e0 {G : GX} (h : OKm G cX2_playOut RX2 10 none { frames := 8, cells := 0, slots := 0, locals := 221 }) {M : Mem} {x1 : Nat} {x2 : Int32} {x3 : Int32} {res : Mem} (zf : fX2_playOut M x1 x2 x3 = some res) : GG G (Qm G (Pwv res) 0 0) 0 0 0 [(0, rv G.1 49), (1, rv G.1 x1), (2, .int x2), (3, .int x3)] [] M := by
  unfold fX2_playOut at zf
  have zf1 := pre_ck zf
  clear zf; obtain ⟨zk_x1, zf⟩ := zf1
  refine g_aload_n h 0 rfl dX2_playOut_0 ?_
  refine gfX2_43 h (by decide : kd 49 = 1) dX2_playOut_1 ?_
  refine gfX2_55 h (by decide : kd 28 = 6) dX2_playOut_4 ?_
  refine g_nmR zf ?_
  clear zf; intro oq1 zf
  have zf1 := pre_ck zf
  clear zf; obtain ⟨zk_oq1, zf⟩ := zf1
  refine g_astore h [(4, rv G.1 oq1), (0, rv G.1 49), (1, rv G.1 x1), (2, .int x2), (3, .int x3)] (by decide) rfl dX2_playOut_7 ?_
  refine g_iconst h 0 (v := 0) (by decide) dX2_playOut_9 ?_
  refine g_istore h [(5, .int 0), (4, rv G.1 oq1), (0, rv G.1 49), (1, rv G.1 x1), (2, .int x2), (3, .int x3)] (by decide) rfl dX2_playOut_10 ?_
  refine g_sub h [2, 3, 4, 5, 1, 0] rfl ?_
  exact kX2_playOut_l12 h _ _ _ _ _ _ _ _ zf

theorem cmX2_playOut {l : Launch} {w : WX} {M : Mem} {x1 : Nat} {x2 : Int32} {x3 : Int32} {res : Mem} (zf : fX2_playOut M x1 x2 x3 = some res) : CM l w yX2_playOut cX2_playOut 10 none { frames := 8, cells := 0, slots := 0, locals := 221 } 0 0 [rv w 49, rv w x1, .int x2, .int x3] M (Pwv res) := by
  refine CM_of (by decide) (Nat.le_of_ble_eq_true rfl) (fun G hw hl h => ?_)
  subst hw
  exact kX2_playOut_e0 h zf

-- X2_survey
theorem kX2_survey_b92 {G : GX} (h : OKm G cX2_survey RX2 5 none { frames := 9, cells := 0, slots := 0, locals := 248 }) {a50 : Mem → Nat → Nat → Int32 → Option Mem} (zh50 : ∀ (M : Mem) (x1 : Nat) (x2 : Nat) (x3 : Int32) (res : Mem), a50 M x1 x2 x3 = some res → GG G (Qm G (Pwv res) 0 0) 0 0 50 [(0, rv G.1 49), (1, rv G.1 x1), (2, rv G.1 x2), (3, .int x3)] [] M) {a59 : Mem → Nat → Nat → Int32 → Int32 → Option Mem} (zh59 : ∀ (M : Mem) (x1 : Nat) (x2 : Nat) (x3 : Int32) (x4 : Int32) (res : Mem), a59 M x1 x2 x3 x4 = some res → GG G (Qm G (Pwv res) 0 0) 0 0 59 [(0, rv G.1 49), (1, rv G.1 x1), (2, rv G.1 x2), (3, .int x3), (4, .int x4)] [] M) {M : Mem} {x1 : Nat} {x2 : Nat} {x3 : Int32} {x4 : Int32} {res : Mem} (zf : fX2_survey_b92 a50 a59 M x1 x2 x3 x4 = some res) : GG G (Qm G (Pwv res) 0 0) 0 0 92 [(0, rv G.1 49), (1, rv G.1 x1), (2, rv G.1 x2), (3, .int x3), (4, .int x4)] [] M := by
  unfold fX2_survey_b92 at zf
  have zf1 := pre_ck zf
  clear zf; obtain ⟨zk_x1, zf⟩ := zf1
  have zf1 := pre_ck zf
  clear zf; obtain ⟨zk_x2, zf⟩ := zf1
  refine g_iinc h 4 4 rfl (v := x4 + 1) (congrArg (fun z => x4 + z) (by decide : Int32.ofInt (1) = (1 : Int32))) [(4, .int (x4 + 1)), (0, rv G.1 49), (1, rv G.1 x1), (2, rv G.1 x2), (3, .int x3)] (by decide) rfl dX2_survey_92 ?_
  refine g_nmV zf ?_
  clear zf; intro vq6 zf
  refine g_goto h 59 (by decide) dX2_survey_95 ?_
  refine g_sub h [1, 2, 3, 4, 0] rfl ?_
  exact zh59 _ _ _ _ _ _ zf

theorem kX2_survey_l59 {G : GX} (h : OKm G cX2_survey RX2 5 none { frames := 9, cells := 0, slots := 0, locals := 248 }) {a50 : Mem → Nat → Nat → Int32 → Option Mem} (zh50 : ∀ (M : Mem) (x1 : Nat) (x2 : Nat) (x3 : Int32) (res : Mem), a50 M x1 x2 x3 = some res → GG G (Qm G (Pwv res) 0 0) 0 0 50 [(0, rv G.1 49), (1, rv G.1 x1), (2, rv G.1 x2), (3, .int x3)] [] M) : ∀ (n : Nat) (M : Mem) (x1 : Nat) (x2 : Nat) (x3 : Int32) (x4 : Int32) (res : Mem), fX2_survey_l59 a50 n M x1 x2 x3 x4 = some res → GG G (Qm G (Pwv res) 0 0) 0 0 59 [(0, rv G.1 49), (1, rv G.1 x1), (2, rv G.1 x2), (3, .int x3), (4, .int x4)] [] M := by
  intro n
  induction n with
  | zero => intro M x1 x2 x3 x4 res zf; rw [fX2_survey_l59] at zf; cases zf
  | succ n ih =>
    intro M x1 x2 x3 x4 res zf
    rw [fX2_survey_l59] at zf
    have zf1 := pre_ck zf
    clear zf; obtain ⟨zk_x1, zf⟩ := zf1
    have zf1 := pre_ck zf
    clear zf; obtain ⟨zk_x2, zf⟩ := zf1
    refine g_iload h 4 rfl dX2_survey_59 ?_
    refine g_aload_n h 0 rfl dX2_survey_61 ?_
    refine gfX2_43 h (by decide : kd 49 = 1) dX2_survey_62 ?_
    refine gfX2_55 h (by decide : kd 28 = 6) dX2_survey_65 ?_
    refine g_nmR zf ?_
    clear zf; intro oq1 zf
    have zf1 := pre_ck zf
    clear zf; obtain ⟨zk_oq1, zf⟩ := zf1
    refine gfX2_72 h zk_oq1 dX2_survey_68 ?_
    refine g_nmI zf ?_
    clear zf; intro vq2 zf
    refine g_ic_ge h 98 (by decide) zf dX2_survey_71 ?_ ?_ <;> clear zf <;> intro zf
    · refine g_iinc h 3 3 rfl (v := x3 + 1) (congrArg (fun z => x3 + z) (by decide : Int32.ofInt (1) = (1 : Int32))) [(3, .int (x3 + 1)), (0, rv G.1 49), (1, rv G.1 x1), (2, rv G.1 x2), (4, .int x4)] (by decide) rfl dX2_survey_98 ?_
      refine g_nmV zf ?_
      clear zf; intro vq3 zf
      refine g_goto h 50 (by decide) dX2_survey_101 ?_
      refine g_sub h [1, 2, 3, 0] rfl ?_
      exact zh50 _ _ _ _ _ zf
    · refine g_aload_n h 0 rfl dX2_survey_74 ?_
      refine g_aload_n h 1 rfl dX2_survey_75 ?_
      refine g_aload_n h 2 rfl dX2_survey_76 ?_
      refine g_iload_n h 3 rfl dX2_survey_77 ?_
      refine g_iload h 4 rfl dX2_survey_78 ?_
      refine g_bipush h 30 (v := 30) (by decide) dX2_survey_80 ?_
      have zf1 := b2_some zf
      clear zf; obtain ⟨vq4, Mq5, zq, zf⟩ := zf1
      refine g_callVwi (As := [rv G.1 x1, rv G.1 x2, .int x3, .int x4, .int 30]) (rest := []) h ceX2_fits mlX2_117 imX2_fits seX2_fits (by rfl) (kd_lt (by rw [(by decide : kd 49 = 1)]; decide)) (ent_1 (by decide : kd 49 = 1)) rfl rfl ⟨by decide, by decide⟩ ⟨by decide, by decide⟩ rfl dX2_survey_82 rfl (Nat.le_of_ble_eq_true rfl) (cmX2_fits zq) ?_
      refine g_if_eq h 92 (by decide) zf dX2_survey_85 ?_ ?_ <;> clear zf <;> intro zf
      · refine g_sub h [0, 1, 2, 3, 4] rfl ?_
        exact kX2_survey_b92 h zh50 ih zf
      · refine g_aload_n h 0 rfl dX2_survey_88 ?_
        have zf1 := bd_some zf
        clear zf; obtain ⟨Mq7, zq, zf⟩ := zf1
        refine g_callVwv (As := []) (rest := []) h ceX2_markStores mlX2_121 imX2_markStores seX2_markStores (by rfl) (kd_lt (by rw [(by decide : kd 49 = 1)]; decide)) (ent_1 (by decide : kd 49 = 1)) rfl rfl ⟨by decide, by decide⟩ ⟨by decide, by decide⟩ rfl dX2_survey_89 rfl (Nat.le_of_ble_eq_true rfl) (cmX2_markStores zq) ?_
        refine g_sub h [0, 1, 2, 3, 4] rfl ?_
        exact kX2_survey_b92 h zh50 ih zf

theorem kX2_survey_l50 {G : GX} (h : OKm G cX2_survey RX2 5 none { frames := 9, cells := 0, slots := 0, locals := 248 }) : ∀ (n : Nat) (M : Mem) (x1 : Nat) (x2 : Nat) (x3 : Int32) (res : Mem), fX2_survey_l50 n M x1 x2 x3 = some res → GG G (Qm G (Pwv res) 0 0) 0 0 50 [(0, rv G.1 49), (1, rv G.1 x1), (2, rv G.1 x2), (3, .int x3)] [] M := by
  intro n
  induction n with
  | zero => intro M x1 x2 x3 res zf; rw [fX2_survey_l50] at zf; cases zf
  | succ n ih =>
    intro M x1 x2 x3 res zf
    rw [fX2_survey_l50] at zf
    have zf1 := pre_ck zf
    clear zf; obtain ⟨zk_x1, zf⟩ := zf1
    have zf1 := pre_ck zf
    clear zf; obtain ⟨zk_x2, zf⟩ := zf1
    refine g_iload_n h 3 rfl dX2_survey_50 ?_
    refine g_bipush h 12 (v := 12) (by decide) dX2_survey_51 ?_
    refine g_ic_gt h 104 (by decide) zf dX2_survey_53 ?_ ?_ <;> clear zf <;> intro zf
    · obtain rfl := Option.some.inj zf
      exact g_vret h rfl ⟨rfl, rfl⟩ (Nat.le_refl _) (Nat.le_refl _) dX2_survey_104
    · refine g_iconst h 0 (v := 0) (by decide) dX2_survey_56 ?_
      refine g_istore h [(4, .int 0), (0, rv G.1 49), (1, rv G.1 x1), (2, rv G.1 x2), (3, .int x3)] (by decide) rfl dX2_survey_57 ?_
      refine g_sub h [1, 2, 3, 4, 0] rfl ?_
      exact kX2_survey_l59 h ih _ _ _ _ _ _ _ zf

theorem kX2_survey_l26 {G : GX} (h : OKm G cX2_survey RX2 5 none { frames := 9, cells := 0, slots := 0, locals := 248 }) : ∀ (n : Nat) (M : Mem) (x1 : Nat) (x2 : Nat) (x3 : Int32) (res : Mem), fX2_survey_l26 n M x1 x2 x3 = some res → GG G (Qm G (Pwv res) 0 0) 0 0 26 [(0, rv G.1 49), (1, rv G.1 x1), (2, rv G.1 x2), (3, .int x3)] [] M := by
  intro n
  induction n with
  | zero => intro M x1 x2 x3 res zf; rw [fX2_survey_l26] at zf; cases zf
  | succ n ih =>
    intro M x1 x2 x3 res zf
    rw [fX2_survey_l26] at zf
    have zf1 := pre_ck zf
    clear zf; obtain ⟨zk_x1, zf⟩ := zf1
    have zf1 := pre_ck zf
    clear zf; obtain ⟨zk_x2, zf⟩ := zf1
    refine g_iload_n h 3 rfl dX2_survey_26 ?_
    refine g_aload_n h 0 rfl dX2_survey_27 ?_
    refine gfX2_34 h (by decide : kd 49 = 1) dX2_survey_28 ?_
    refine g_ilen h 30 (z := 30) (by decide : kd 58 = 20) (by decide) (by decide) dX2_survey_31 ?_
    refine g_ic_ge h 48 (by decide) zf dX2_survey_32 ?_ ?_ <;> clear zf <;> intro zf
    · refine g_iconst h 1 (v := 1) (by decide) dX2_survey_48 ?_
      refine g_istore_n h rfl [(3, .int 1), (0, rv G.1 49), (1, rv G.1 x1), (2, rv G.1 x2)] (by decide) rfl dX2_survey_49 ?_
      refine g_sub h [1, 2, 3, 0] rfl ?_
      exact kX2_survey_l50 h _ _ _ _ _ _ zf
    · refine g_aload_n h 0 rfl dX2_survey_35 ?_
      refine gfX2_34 h (by decide : kd 49 = 1) dX2_survey_36 ?_
      refine g_iload_n h 3 rfl dX2_survey_39 ?_
      refine g_iconst h 0 (v := 0) (by decide) dX2_survey_40 ?_
      refine g_iast h 30 (by decide : kd 58 = 20) (by decide) zf dX2_survey_41 ?_
      clear zf; intro Mq8 zf
      refine g_iinc h 3 3 rfl (v := x3 + 1) (congrArg (fun z => x3 + z) (by decide : Int32.ofInt (1) = (1 : Int32))) [(3, .int (x3 + 1)), (0, rv G.1 49), (1, rv G.1 x1), (2, rv G.1 x2)] (by decide) rfl dX2_survey_42 ?_
      refine g_nmV zf ?_
      clear zf; intro vq9 zf
      refine g_goto h 26 (by decide) dX2_survey_45 ?_
      refine g_sub h [1, 2, 3, 0] rfl ?_
      exact ih _ _ _ _ _ zf

theorem kX2_survey_l2 {G : GX} (h : OKm G cX2_survey RX2 5 none { frames := 9, cells := 0, slots := 0, locals := 248 }) : ∀ (n : Nat) (M : Mem) (x1 : Nat) (x2 : Nat) (x3 : Int32) (res : Mem), fX2_survey_l2 n M x1 x2 x3 = some res → GG G (Qm G (Pwv res) 0 0) 0 0 2 [(0, rv G.1 49), (1, rv G.1 x1), (2, rv G.1 x2), (3, .int x3)] [] M := by
  intro n
  induction n with
  | zero => intro M x1 x2 x3 res zf; rw [fX2_survey_l2] at zf; cases zf
  | succ n ih =>
    intro M x1 x2 x3 res zf
    rw [fX2_survey_l2] at zf
    have zf1 := pre_ck zf
    clear zf; obtain ⟨zk_x1, zf⟩ := zf1
    have zf1 := pre_ck zf
    clear zf; obtain ⟨zk_x2, zf⟩ := zf1
    refine g_iload_n h 3 rfl dX2_survey_2 ?_
    refine g_aload_n h 0 rfl dX2_survey_3 ?_
    refine gfX2_30 h (by decide : kd 49 = 1) dX2_survey_4 ?_
    refine g_llen h 480 (z := 480) (by decide : kd 57 = 22) (by decide) (by decide) dX2_survey_7 ?_
    refine g_ic_ge h 24 (by decide) zf dX2_survey_8 ?_ ?_ <;> clear zf <;> intro zf
    · refine g_iconst h 0 (v := 0) (by decide) dX2_survey_24 ?_
      refine g_istore_n h rfl [(3, .int 0), (0, rv G.1 49), (1, rv G.1 x1), (2, rv G.1 x2)] (by decide) rfl dX2_survey_25 ?_
      refine g_sub h [1, 2, 3, 0] rfl ?_
      exact kX2_survey_l26 h _ _ _ _ _ _ zf
    · refine g_aload_n h 0 rfl dX2_survey_11 ?_
      refine gfX2_30 h (by decide : kd 49 = 1) dX2_survey_12 ?_
      refine g_iload_n h 3 rfl dX2_survey_15 ?_
      refine g_lconst h 0 (v := 0) (by decide) dX2_survey_16 ?_
      refine g_last h 480 (by decide : kd 57 = 22) (by decide) zf dX2_survey_17 ?_
      clear zf; intro Mq10 zf
      refine g_iinc h 3 3 rfl (v := x3 + 1) (congrArg (fun z => x3 + z) (by decide : Int32.ofInt (1) = (1 : Int32))) [(3, .int (x3 + 1)), (0, rv G.1 49), (1, rv G.1 x1), (2, rv G.1 x2)] (by decide) rfl dX2_survey_18 ?_
      refine g_nmV zf ?_
      clear zf; intro vq11 zf
      refine g_goto h 2 (by decide) dX2_survey_21 ?_
      refine g_sub h [1, 2, 3, 0] rfl ?_
      exact ih _ _ _ _ _ zf

theorem kX2_survey_e0 {G : GX} (h : OKm G cX2_survey RX2 5 none { frames := 9, cells := 0, slots := 0, locals := 248 }) {M : Mem} {x1 : Nat} {x2 : Nat} {res : Mem} (zf : fX2_survey M x1 x2 = some res) : GG G (Qm G (Pwv res) 0 0) 0 0 0 [(0, rv G.1 49), (1, rv G.1 x1), (2, rv G.1 x2)] [] M := by
  unfold fX2_survey at zf
  have zf1 := pre_ck zf
  clear zf; obtain ⟨zk_x1, zf⟩ := zf1
  have zf1 := pre_ck zf
  clear zf; obtain ⟨zk_x2, zf⟩ := zf1
  refine g_iconst h 0 (v := 0) (by decide) dX2_survey_0 ?_
  refine g_istore_n h rfl [(3, .int 0), (0, rv G.1 49), (1, rv G.1 x1), (2, rv G.1 x2)] (by decide) rfl dX2_survey_1 ?_
  refine g_sub h [1, 2, 3, 0] rfl ?_
  exact kX2_survey_l2 h _ _ _ _ _ _ zf

theorem cmX2_survey {l : Launch} {w : WX} {M : Mem} {x1 : Nat} {x2 : Nat} {res : Mem} (zf : fX2_survey M x1 x2 = some res) : CM l w yX2_survey cX2_survey 5 none { frames := 9, cells := 0, slots := 0, locals := 248 } 0 0 [rv w 49, rv w x1, rv w x2] M (Pwv res) := by
  refine CM_of (by decide) (Nat.le_of_ble_eq_true rfl) (fun G hw hl h => ?_)
  subst hw
  exact kX2_survey_e0 h zf

-- X3_wealth
theorem kX3_wealth_e0 {G : GX} (h : OKm G cX3_wealth RX3 1 (some .int) { frames := 0, cells := 0, slots := 0, locals := 0 }) {M : Mem} {x0 : Nat} {res : Int32} (zf : fX3_wealth M x0 = some res) : GG G (Qm G (Pri res M) 0 0) 0 0 0 [(0, rv G.1 x0)] [] M := by
  unfold fX3_wealth at zf
  have zf1 := pre_ck zf
  clear zf; obtain ⟨zk_x0, zf⟩ := zf1
  refine g_aload_n h 0 rfl dX3_wealth_0 ?_
  refine gfX3_27 h zk_x0 dX3_wealth_1 ?_
  refine g_nmI zf ?_
  clear zf; intro vq1 zf
  refine g_aload_n h 0 rfl dX3_wealth_4 ?_
  refine gfX3_34 h zk_x0 dX3_wealth_5 ?_
  refine g_nmI zf ?_
  clear zf; intro vq2 zf
  refine g_isub h dX3_wealth_8 ?_
  obtain rfl := Option.some.inj zf
  exact g_iret h rfl ⟨rfl, rfl⟩ (Nat.le_refl _) (Nat.le_refl _) dX3_wealth_9

theorem cmX3_wealth {l : Launch} {w : WX} {M : Mem} {x0 : Nat} {res : Int32} (zf : fX3_wealth M x0 = some res) : CM l w yX3_wealth cX3_wealth 1 (some .int) { frames := 0, cells := 0, slots := 0, locals := 0 } 0 0 [rv w x0] M (Pri res M) := by
  refine CM_of (by decide) (Nat.le_of_ble_eq_true rfl) (fun G hw hl h => ?_)
  subst hw
  exact kX3_wealth_e0 h zf

-- X8_begin
theorem kX8_begin_e0 {G : GX} (h : OKm G cX8_begin RX8 2 none { frames := 0, cells := 0, slots := 0, locals := 0 }) {M : Mem} {x0 : Nat} {x1 : Int32} {res : Mem} (zf : fX8_begin M x0 x1 = some res) : GG G (Qm G (Pwv res) 0 0) 0 0 0 [(0, rv G.1 x0), (1, .int x1)] [] M := by
  unfold fX8_begin at zf
  have zf1 := pre_ck zf
  clear zf; obtain ⟨zk_x0, zf⟩ := zf1
  refine g_aload_n h 0 rfl dX8_begin_0 ?_
  refine g_iload_n h 1 rfl dX8_begin_1 ?_
  refine pfX8_7 h zk_x0 dX8_begin_2 ?_
  refine g_nmM zf ?_
  clear zf; intro Mq1 zf
  refine g_aload_n h 0 rfl dX8_begin_5 ?_
  refine g_iload_n h 1 rfl dX8_begin_6 ?_
  refine pfX8_13 h zk_x0 dX8_begin_7 ?_
  refine g_nmM zf ?_
  clear zf; intro Mq2 zf
  refine g_aload_n h 0 rfl dX8_begin_10 ?_
  refine g_iconst h 0 (v := 0) (by decide) dX8_begin_11 ?_
  refine pfX8_16 h zk_x0 (by decide) dX8_begin_12 ?_
  refine g_nmM zf ?_
  clear zf; intro Mq3 zf
  obtain rfl := Option.some.inj zf
  exact g_vret h rfl ⟨rfl, rfl⟩ (Nat.le_refl _) (Nat.le_refl _) dX8_begin_15

theorem cmX8_begin {l : Launch} {w : WX} {M : Mem} {x0 : Nat} {x1 : Int32} {res : Mem} (zf : fX8_begin M x0 x1 = some res) : CM l w yX8_begin cX8_begin 2 none { frames := 0, cells := 0, slots := 0, locals := 0 } 0 0 [rv w x0, .int x1] M (Pwv res) := by
  refine CM_of (by decide) (Nat.le_of_ble_eq_true rfl) (fun G hw hl h => ?_)
  subst hw
  exact kX8_begin_e0 h zf

-- X5_clear
theorem kX5_clear_e0 {G : GX} (h : OKm G cX5_clear RX5 1 none { frames := 1, cells := 0, slots := 0, locals := 21 }) {M : Mem} {x0 : Nat} {res : Mem} (zf : fX5_clear M x0 = some res) : GG G (Qm G (Pwv res) 0 0) 0 0 0 [(0, rv G.1 x0)] [] M := by
  unfold fX5_clear at zf
  have zf1 := pre_ck zf
  clear zf; obtain ⟨zk_x0, zf⟩ := zf1
  refine g_aload_n h 0 rfl dX5_clear_0 ?_
  refine g_iconst h 0 (v := 0) (by decide) dX5_clear_1 ?_
  refine pfX5_9 h zk_x0 dX5_clear_2 ?_
  refine g_nmM zf ?_
  clear zf; intro Mq1 zf
  refine g_aload_n h 0 rfl dX5_clear_5 ?_
  refine gfX5_28 h zk_x0 dX5_clear_6 ?_
  refine g_iconst h 0 (v := 0) (by decide) dX5_clear_9 ?_
  refine g_iconst h 0 (v := 0) (by decide) dX5_clear_10 ?_
  refine g_iast h 2 (kf4_5 zk_x0) (lf4_5 zk_x0) zf dX5_clear_11 ?_
  clear zf; intro Mq2 zf
  refine g_aload_n h 0 rfl dX5_clear_12 ?_
  refine gfX5_28 h zk_x0 dX5_clear_13 ?_
  refine g_iconst h 1 (v := 1) (by decide) dX5_clear_16 ?_
  refine g_iconst h 0 (v := 0) (by decide) dX5_clear_17 ?_
  refine g_iast h 2 (kf4_5 zk_x0) (lf4_5 zk_x0) zf dX5_clear_18 ?_
  clear zf; intro Mq3 zf
  refine g_aload_n h 0 rfl dX5_clear_19 ?_
  refine g_iconst h 0 (v := 0) (by decide) dX5_clear_20 ?_
  refine pfX5_31 h zk_x0 dX5_clear_21 ?_
  refine g_nmM zf ?_
  clear zf; intro Mq4 zf
  refine g_aload_n h 0 rfl dX5_clear_24 ?_
  refine g_iconst h 0 (v := 0) (by decide) dX5_clear_25 ?_
  refine pfX5_37 h zk_x0 dX5_clear_26 ?_
  refine g_nmM zf ?_
  clear zf; intro Mq5 zf
  refine g_aload_n h 0 rfl dX5_clear_29 ?_
  refine gfX5_46 h zk_x0 dX5_clear_30 ?_
  refine g_iconst h 0 (v := 0) (by decide) dX5_clear_33 ?_
  refine pfX5_65 h (kf4_8 zk_x0) dX5_clear_34 ?_
  refine g_nmM zf ?_
  clear zf; intro Mq6 zf
  refine g_aload_n h 0 rfl dX5_clear_37 ?_
  refine gfX5_50 h zk_x0 dX5_clear_38 ?_
  refine g_iconst h 0 (v := 0) (by decide) dX5_clear_41 ?_
  refine pfX5_65 h (kf4_11 zk_x0) dX5_clear_42 ?_
  refine g_nmM zf ?_
  clear zf; intro Mq7 zf
  refine g_aload_n h 0 rfl dX5_clear_45 ?_
  refine gfX5_58 h zk_x0 dX5_clear_46 ?_
  refine g_iconst h 0 (v := 0) (by decide) dX5_clear_49 ?_
  have zf1 := bd_some zf
  clear zf; obtain ⟨Mq8, zq, zf⟩ := zf1
  refine g_callVwv (As := [.int 0]) (rest := []) h ceX8_begin mlX5_68 imX8_begin seX8_begin (by rfl) (kd_lt (by rw [(kf4_15 zk_x0)]; decide)) (ent_7 (kf4_15 zk_x0)) rfl rfl ⟨by decide, by decide⟩ ⟨by decide, by decide⟩ rfl dX5_clear_50 rfl (Nat.le_of_ble_eq_true rfl) (cmX8_begin zq) ?_
  refine g_aload_n h 0 rfl dX5_clear_53 ?_
  refine gfX5_62 h zk_x0 dX5_clear_54 ?_
  refine g_iconst h 0 (v := 0) (by decide) dX5_clear_57 ?_
  have zf1 := bd_some zf
  clear zf; obtain ⟨Mq9, zq, zf⟩ := zf1
  refine g_callVwv (As := [.int 0]) (rest := []) h ceX8_begin mlX5_68 imX8_begin seX8_begin (by rfl) (kd_lt (by rw [(kf4_16 zk_x0)]; decide)) (ent_7 (kf4_16 zk_x0)) rfl rfl ⟨by decide, by decide⟩ ⟨by decide, by decide⟩ rfl dX5_clear_58 rfl (Nat.le_of_ble_eq_true rfl) (cmX8_begin zq) ?_
  obtain rfl := Option.some.inj zf
  exact g_vret h rfl ⟨rfl, rfl⟩ (Nat.le_refl _) (Nat.le_refl _) dX5_clear_61

theorem cmX5_clear {l : Launch} {w : WX} {M : Mem} {x0 : Nat} {res : Mem} (zf : fX5_clear M x0 = some res) : CM l w yX5_clear cX5_clear 1 none { frames := 1, cells := 0, slots := 0, locals := 21 } 0 0 [rv w x0] M (Pwv res) := by
  refine CM_of (by decide) (Nat.le_of_ble_eq_true rfl) (fun G hw hl h => ?_)
  subst hw
  exact kX5_clear_e0 h zf

-- X6_refuse
theorem kX6_refuse_e0 {G : GX} (h : OKm G cX6_refuse RX6 2 (some .boolean) { frames := 0, cells := 0, slots := 0, locals := 0 }) {M : Mem} {x1 : Int32} {res : (Int32 × Mem)} (zf : fX6_refuse M x1 = some res) : GG G (Qm G (Pwi res) 0 0) 0 0 0 [(0, rv G.1 3), (1, .int x1)] [] M := by
  unfold fX6_refuse at zf
  refine g_aload_n h 0 rfl dX6_refuse_0 ?_
  refine g_iload_n h 1 rfl dX6_refuse_1 ?_
  refine pfX6_25 h (by decide : kd 3 = 5) dX6_refuse_2 ?_
  refine g_nmM zf ?_
  clear zf; intro Mq1 zf
  refine g_aload_n h 0 rfl dX6_refuse_5 ?_
  refine g_aload_n h 0 rfl dX6_refuse_6 ?_
  refine gfX6_44 h (by decide : kd 3 = 5) dX6_refuse_7 ?_
  refine gfX6_72 h (by decide : kd 27 = 9) dX6_refuse_10 ?_
  refine g_nmI zf ?_
  clear zf; intro vq2 zf
  refine pfX6_29 h (by decide : kd 3 = 5) dX6_refuse_13 ?_
  refine g_nmM zf ?_
  clear zf; intro Mq3 zf
  refine g_iconst h 0 (v := 0) (by decide) dX6_refuse_16 ?_
  obtain rfl := Option.some.inj zf
  exact g_zret h (by decide) rfl ⟨rfl, rfl⟩ (Nat.le_refl _) (Nat.le_refl _) dX6_refuse_17

theorem cmX6_refuse {l : Launch} {w : WX} {M : Mem} {x1 : Int32} {res : (Int32 × Mem)} (zf : fX6_refuse M x1 = some res) : CM l w yX6_refuse cX6_refuse 2 (some .boolean) { frames := 0, cells := 0, slots := 0, locals := 0 } 0 0 [rv w 3, .int x1] M (Pwi res) := by
  refine CM_of (by decide) (Nat.le_of_ble_eq_true rfl) (fun G hw hl h => ?_)
  subst hw
  exact kX6_refuse_e0 h zf

-- X10_isLetter
theorem kX10_isLetter_e0 {G : GX} {M : Mem} (h : OKm G cX10_isLetter RX10 1 (some .boolean) { frames := 0, cells := 0, slots := 0, locals := 0 }) {x0 : Int32} {res : Int32} (zf : fX10_isLetter x0 = some res) : GG G (Qm G (Pri res M) 0 0) 0 0 0 [(0, .int x0)] [] M := by
  unfold fX10_isLetter at zf
  refine g_iload_n h 0 rfl dX10_isLetter_0 ?_
  refine g_bipush h 97 (v := 97) (by decide) dX10_isLetter_1 ?_
  refine g_ic_lt h 16 (by decide) zf dX10_isLetter_3 ?_ ?_ <;> clear zf <;> intro zf
  · refine g_iconst h 0 (v := 0) (by decide) dX10_isLetter_16 ?_
    obtain rfl := Option.some.inj zf
    exact g_zret h (by decide) rfl ⟨rfl, rfl⟩ (Nat.le_refl _) (Nat.le_refl _) dX10_isLetter_17
  · refine g_iload_n h 0 rfl dX10_isLetter_6 ?_
    refine g_bipush h 122 (v := 122) (by decide) dX10_isLetter_7 ?_
    refine g_ic_gt h 16 (by decide) zf dX10_isLetter_9 ?_ ?_ <;> clear zf <;> intro zf
    · refine g_iconst h 0 (v := 0) (by decide) dX10_isLetter_16 ?_
      obtain rfl := Option.some.inj zf
      exact g_zret h (by decide) rfl ⟨rfl, rfl⟩ (Nat.le_refl _) (Nat.le_refl _) dX10_isLetter_17
    · refine g_iconst h 1 (v := 1) (by decide) dX10_isLetter_12 ?_
      refine g_goto h 17 (by decide) dX10_isLetter_13 ?_
      obtain rfl := Option.some.inj zf
      exact g_zret h (by decide) rfl ⟨rfl, rfl⟩ (Nat.le_refl _) (Nat.le_refl _) dX10_isLetter_17

theorem cmX10_isLetter {l : Launch} {w : WX} {M : Mem} {x0 : Int32} {res : Int32} (zf : fX10_isLetter x0 = some res) : CM l w yX10_isLetter cX10_isLetter 1 (some .boolean) { frames := 0, cells := 0, slots := 0, locals := 0 } 0 0 [.int x0] M (Pri res M) := by
  refine CM_of (by decide) (Nat.le_of_ble_eq_true rfl) (fun G hw hl h => ?_)
  subst hw
  exact kX10_isLetter_e0 h zf

-- X10_isDigit
theorem kX10_isDigit_e0 {G : GX} {M : Mem} (h : OKm G cX10_isDigit RX10 1 (some .boolean) { frames := 0, cells := 0, slots := 0, locals := 0 }) {x0 : Int32} {res : Int32} (zf : fX10_isDigit x0 = some res) : GG G (Qm G (Pri res M) 0 0) 0 0 0 [(0, .int x0)] [] M := by
  unfold fX10_isDigit at zf
  refine g_iload_n h 0 rfl dX10_isDigit_0 ?_
  refine g_bipush h 48 (v := 48) (by decide) dX10_isDigit_1 ?_
  refine g_ic_lt h 16 (by decide) zf dX10_isDigit_3 ?_ ?_ <;> clear zf <;> intro zf
  · refine g_iconst h 0 (v := 0) (by decide) dX10_isDigit_16 ?_
    obtain rfl := Option.some.inj zf
    exact g_zret h (by decide) rfl ⟨rfl, rfl⟩ (Nat.le_refl _) (Nat.le_refl _) dX10_isDigit_17
  · refine g_iload_n h 0 rfl dX10_isDigit_6 ?_
    refine g_bipush h 57 (v := 57) (by decide) dX10_isDigit_7 ?_
    refine g_ic_gt h 16 (by decide) zf dX10_isDigit_9 ?_ ?_ <;> clear zf <;> intro zf
    · refine g_iconst h 0 (v := 0) (by decide) dX10_isDigit_16 ?_
      obtain rfl := Option.some.inj zf
      exact g_zret h (by decide) rfl ⟨rfl, rfl⟩ (Nat.le_refl _) (Nat.le_refl _) dX10_isDigit_17
    · refine g_iconst h 1 (v := 1) (by decide) dX10_isDigit_12 ?_
      refine g_goto h 17 (by decide) dX10_isDigit_13 ?_
      obtain rfl := Option.some.inj zf
      exact g_zret h (by decide) rfl ⟨rfl, rfl⟩ (Nat.le_refl _) (Nat.le_refl _) dX10_isDigit_17

theorem cmX10_isDigit {l : Launch} {w : WX} {M : Mem} {x0 : Int32} {res : Int32} (zf : fX10_isDigit x0 = some res) : CM l w yX10_isDigit cX10_isDigit 1 (some .boolean) { frames := 0, cells := 0, slots := 0, locals := 0 } 0 0 [.int x0] M (Pri res M) := by
  refine CM_of (by decide) (Nat.le_of_ble_eq_true rfl) (fun G hw hl h => ?_)
  subst hw
  exact kX10_isDigit_e0 h zf

-- X10_readNumber
theorem kX10_readNumber_b76 {G : GX} (h : OKm G cX10_readNumber RX10 1 none { frames := 1, cells := 0, slots := 0, locals := 20 }) {M : Mem} {res : Mem} (zf : fX10_readNumber_b76 M = some res) : GG G (Qm G (Pwv res) 0 0) 0 0 76 [(0, rv G.1 27)] [] M := by
  unfold fX10_readNumber_b76 at zf
  refine g_aload_n h 0 rfl dX10_readNumber_76 ?_
  refine g_iconst h 2 (v := 2) (by decide) dX10_readNumber_77 ?_
  refine pfX10_19 h (by decide : kd 27 = 9) dX10_readNumber_78 ?_
  refine g_nmM zf ?_
  clear zf; intro Mq3 zf
  refine g_aload_n h 0 rfl dX10_readNumber_81 ?_
  refine gfX10_13 h (by decide : kd 27 = 9) dX10_readNumber_82 ?_
  refine g_nmI zf ?_
  clear zf; intro vq4 zf
  refine g_aload_n h 0 rfl dX10_readNumber_85 ?_
  refine gfX10_16 h (by decide : kd 27 = 9) dX10_readNumber_86 ?_
  refine g_nmI zf ?_
  clear zf; intro vq5 zf
  refine g_isub h dX10_readNumber_89 ?_
  refine g_iconst h 4 (v := 4) (by decide) dX10_readNumber_90 ?_
  refine g_ic_le h 101 (by decide) zf dX10_readNumber_91 ?_ ?_ <;> clear zf <;> intro zf
  · obtain rfl := Option.some.inj zf
    exact g_vret h rfl ⟨rfl, rfl⟩ (Nat.le_refl _) (Nat.le_refl _) dX10_readNumber_101
  · refine g_aload_n h 0 rfl dX10_readNumber_94 ?_
    refine g_sipush h 10000 (v := 10000) (by decide) dX10_readNumber_95 ?_
    refine pfX10_22 h (by decide : kd 27 = 9) dX10_readNumber_98 ?_
    refine g_nmM zf ?_
    clear zf; intro Mq6 zf
    obtain rfl := Option.some.inj zf
    exact g_vret h rfl ⟨rfl, rfl⟩ (Nat.le_refl _) (Nat.le_refl _) dX10_readNumber_101

theorem kX10_readNumber_b63 {G : GX} (h : OKm G cX10_readNumber RX10 1 none { frames := 1, cells := 0, slots := 0, locals := 20 }) {a0 : Mem → Option Mem} (zh0 : ∀ (M : Mem) (res : Mem), a0 M = some res → GG G (Qm G (Pwv res) 0 0) 0 0 0 [(0, rv G.1 27)] [] M) {M : Mem} {res : Mem} (zf : fX10_readNumber_b63 a0 M = some res) : GG G (Qm G (Pwv res) 0 0) 0 0 63 [(0, rv G.1 27)] [] M := by
  unfold fX10_readNumber_b63 at zf
  refine g_aload_n h 0 rfl dX10_readNumber_63 ?_
  refine g_dup h rfl dX10_readNumber_64 ?_
  refine gfX10_13 h (by decide : kd 27 = 9) dX10_readNumber_65 ?_
  refine g_nmI zf ?_
  clear zf; intro vq12 zf
  refine g_iconst h 1 (v := 1) (by decide) dX10_readNumber_68 ?_
  refine g_iadd h dX10_readNumber_69 ?_
  refine pfX10_13 h (by decide : kd 27 = 9) dX10_readNumber_70 ?_
  refine g_nmM zf ?_
  clear zf; intro Mq13 zf
  refine g_goto h 0 (by decide) dX10_readNumber_73 ?_
  refine g_sub h [0] rfl ?_
  exact zh0 _ _ zf

theorem kX10_readNumber_l0 {G : GX} (h : OKm G cX10_readNumber RX10 1 none { frames := 1, cells := 0, slots := 0, locals := 20 }) : ∀ (n : Nat) (M : Mem) (res : Mem), fX10_readNumber_l0 n M = some res → GG G (Qm G (Pwv res) 0 0) 0 0 0 [(0, rv G.1 27)] [] M := by
  intro n
  induction n with
  | zero => intro M res zf; rw [fX10_readNumber_l0] at zf; cases zf
  | succ n ih =>
    intro M res zf
    rw [fX10_readNumber_l0] at zf
    refine g_aload_n h 0 rfl dX10_readNumber_0 ?_
    refine gfX10_13 h (by decide : kd 27 = 9) dX10_readNumber_1 ?_
    refine g_nmI zf ?_
    clear zf; intro vq1 zf
    refine g_aload_n h 0 rfl dX10_readNumber_4 ?_
    refine gfX10_7 h (by decide : kd 27 = 9) dX10_readNumber_5 ?_
    refine g_nmI zf ?_
    clear zf; intro vq2 zf
    refine g_ic_ge h 76 (by decide) zf dX10_readNumber_8 ?_ ?_ <;> clear zf <;> intro zf
    · refine g_sub h [0] rfl ?_
      exact kX10_readNumber_b76 h zf
    · refine g_aload_n h 0 rfl dX10_readNumber_11 ?_
      refine gfX10_34 h (by decide : kd 27 = 9) dX10_readNumber_12 ?_
      refine g_aload_n h 0 rfl dX10_readNumber_15 ?_
      refine gfX10_13 h (by decide : kd 27 = 9) dX10_readNumber_16 ?_
      refine g_nmI zf ?_
      clear zf; intro vq7 zf
      refine g_bald h 700 (by decide : kd 1 = 21) (by decide) zf dX10_readNumber_19 ?_
      clear zf; intro vq8 zf
      have zf1 := bd_some zf
      clear zf; obtain ⟨vq9, zq, zf⟩ := zf1
      refine g_callSri (As := [.int vq8]) (rest := []) h ceX10_isDigit mlX10_54 smX10_isDigit rfl rfl ⟨by decide, by decide⟩ ⟨by decide, by decide⟩ rfl dX10_readNumber_20 rfl (Nat.le_of_ble_eq_true rfl) (cmX10_isDigit zq) ?_
      refine g_if_eq h 76 (by decide) zf dX10_readNumber_23 ?_ ?_ <;> clear zf <;> intro zf
      · refine g_sub h [0] rfl ?_
        exact kX10_readNumber_b76 h zf
      · refine g_aload_n h 0 rfl dX10_readNumber_26 ?_
        refine gfX10_13 h (by decide : kd 27 = 9) dX10_readNumber_27 ?_
        refine g_nmI zf ?_
        clear zf; intro vq10 zf
        refine g_aload_n h 0 rfl dX10_readNumber_30 ?_
        refine gfX10_16 h (by decide : kd 27 = 9) dX10_readNumber_31 ?_
        refine g_nmI zf ?_
        clear zf; intro vq11 zf
        refine g_isub h dX10_readNumber_34 ?_
        refine g_iconst h 4 (v := 4) (by decide) dX10_readNumber_35 ?_
        refine g_ic_ge h 63 (by decide) zf dX10_readNumber_36 ?_ ?_ <;> clear zf <;> intro zf
        · refine g_sub h [0] rfl ?_
          exact kX10_readNumber_b63 h ih zf
        · refine g_aload_n h 0 rfl dX10_readNumber_39 ?_
          refine g_aload_n h 0 rfl dX10_readNumber_40 ?_
          refine gfX10_22 h (by decide : kd 27 = 9) dX10_readNumber_41 ?_
          refine g_nmI zf ?_
          clear zf; intro vq14 zf
          refine g_bipush h 10 (v := 10) (by decide) dX10_readNumber_44 ?_
          refine g_imul h dX10_readNumber_46 ?_
          refine g_aload_n h 0 rfl dX10_readNumber_47 ?_
          refine gfX10_34 h (by decide : kd 27 = 9) dX10_readNumber_48 ?_
          refine g_aload_n h 0 rfl dX10_readNumber_51 ?_
          refine gfX10_13 h (by decide : kd 27 = 9) dX10_readNumber_52 ?_
          refine g_nmI zf ?_
          clear zf; intro vq15 zf
          refine g_bald h 700 (by decide : kd 1 = 21) (by decide) zf dX10_readNumber_55 ?_
          clear zf; intro vq16 zf
          refine g_iadd h dX10_readNumber_56 ?_
          refine g_bipush h 48 (v := 48) (by decide) dX10_readNumber_57 ?_
          refine g_isub h dX10_readNumber_59 ?_
          refine pfX10_22 h (by decide : kd 27 = 9) dX10_readNumber_60 ?_
          refine g_nmM zf ?_
          clear zf; intro Mq17 zf
          refine g_sub h [0] rfl ?_
          exact kX10_readNumber_b63 h ih zf

theorem kX10_readNumber_e0 {G : GX} (h : OKm G cX10_readNumber RX10 1 none { frames := 1, cells := 0, slots := 0, locals := 20 }) {M : Mem} {res : Mem} (zf : fX10_readNumber M = some res) : GG G (Qm G (Pwv res) 0 0) 0 0 0 [(0, rv G.1 27)] [] M := by
  unfold fX10_readNumber at zf
  refine g_sub h [0] rfl ?_
  exact kX10_readNumber_l0 h _ _ _ zf

theorem cmX10_readNumber {l : Launch} {w : WX} {M : Mem} {res : Mem} (zf : fX10_readNumber M = some res) : CM l w yX10_readNumber cX10_readNumber 1 none { frames := 1, cells := 0, slots := 0, locals := 20 } 0 0 [rv w 27] M (Pwv res) := by
  refine CM_of (by decide) (Nat.le_of_ble_eq_true rfl) (fun G hw hl h => ?_)
  subst hw
  exact kX10_readNumber_e0 h zf

-- X10_isSign
theorem kX10_isSign_e0 {G : GX} {M : Mem} (h : OKm G cX10_isSign RX10 1 (some .boolean) { frames := 0, cells := 0, slots := 0, locals := 0 }) {x0 : Int32} {res : Int32} (zf : fX10_isSign x0 = some res) : GG G (Qm G (Pri res M) 0 0) 0 0 0 [(0, .int x0)] [] M := by
  unfold fX10_isSign at zf
  refine g_iload_n h 0 rfl dX10_isSign_0 ?_
  refine g_bipush h 59 (v := 59) (by decide) dX10_isSign_1 ?_
  refine g_ic_eq h 42 (by decide) zf dX10_isSign_3 ?_ ?_ <;> clear zf <;> intro zf
  · refine g_iconst h 1 (v := 1) (by decide) dX10_isSign_42 ?_
    refine g_goto h 47 (by decide) dX10_isSign_43 ?_
    obtain rfl := Option.some.inj zf
    exact g_zret h (by decide) rfl ⟨rfl, rfl⟩ (Nat.le_refl _) (Nat.le_refl _) dX10_isSign_47
  · refine g_iload_n h 0 rfl dX10_isSign_6 ?_
    refine g_bipush h 60 (v := 60) (by decide) dX10_isSign_7 ?_
    refine g_ic_eq h 42 (by decide) zf dX10_isSign_9 ?_ ?_ <;> clear zf <;> intro zf
    · refine g_iconst h 1 (v := 1) (by decide) dX10_isSign_42 ?_
      refine g_goto h 47 (by decide) dX10_isSign_43 ?_
      obtain rfl := Option.some.inj zf
      exact g_zret h (by decide) rfl ⟨rfl, rfl⟩ (Nat.le_refl _) (Nat.le_refl _) dX10_isSign_47
    · refine g_iload_n h 0 rfl dX10_isSign_12 ?_
      refine g_bipush h 61 (v := 61) (by decide) dX10_isSign_13 ?_
      refine g_ic_eq h 42 (by decide) zf dX10_isSign_15 ?_ ?_ <;> clear zf <;> intro zf
      · refine g_iconst h 1 (v := 1) (by decide) dX10_isSign_42 ?_
        refine g_goto h 47 (by decide) dX10_isSign_43 ?_
        obtain rfl := Option.some.inj zf
        exact g_zret h (by decide) rfl ⟨rfl, rfl⟩ (Nat.le_refl _) (Nat.le_refl _) dX10_isSign_47
      · refine g_iload_n h 0 rfl dX10_isSign_18 ?_
        refine g_bipush h 47 (v := 47) (by decide) dX10_isSign_19 ?_
        refine g_ic_eq h 42 (by decide) zf dX10_isSign_21 ?_ ?_ <;> clear zf <;> intro zf
        · refine g_iconst h 1 (v := 1) (by decide) dX10_isSign_42 ?_
          refine g_goto h 47 (by decide) dX10_isSign_43 ?_
          obtain rfl := Option.some.inj zf
          exact g_zret h (by decide) rfl ⟨rfl, rfl⟩ (Nat.le_refl _) (Nat.le_refl _) dX10_isSign_47
        · refine g_iload_n h 0 rfl dX10_isSign_24 ?_
          refine g_bipush h 40 (v := 40) (by decide) dX10_isSign_25 ?_
          refine g_ic_lt h 46 (by decide) zf dX10_isSign_27 ?_ ?_ <;> clear zf <;> intro zf
          · refine g_iconst h 0 (v := 0) (by decide) dX10_isSign_46 ?_
            obtain rfl := Option.some.inj zf
            exact g_zret h (by decide) rfl ⟨rfl, rfl⟩ (Nat.le_refl _) (Nat.le_refl _) dX10_isSign_47
          · refine g_iload_n h 0 rfl dX10_isSign_30 ?_
            refine g_bipush h 45 (v := 45) (by decide) dX10_isSign_31 ?_
            refine g_ic_gt h 46 (by decide) zf dX10_isSign_33 ?_ ?_ <;> clear zf <;> intro zf
            · refine g_iconst h 0 (v := 0) (by decide) dX10_isSign_46 ?_
              obtain rfl := Option.some.inj zf
              exact g_zret h (by decide) rfl ⟨rfl, rfl⟩ (Nat.le_refl _) (Nat.le_refl _) dX10_isSign_47
            · refine g_iload_n h 0 rfl dX10_isSign_36 ?_
              refine g_bipush h 44 (v := 44) (by decide) dX10_isSign_37 ?_
              refine g_ic_eq h 46 (by decide) zf dX10_isSign_39 ?_ ?_ <;> clear zf <;> intro zf
              · refine g_iconst h 0 (v := 0) (by decide) dX10_isSign_46 ?_
                obtain rfl := Option.some.inj zf
                exact g_zret h (by decide) rfl ⟨rfl, rfl⟩ (Nat.le_refl _) (Nat.le_refl _) dX10_isSign_47
              · refine g_iconst h 1 (v := 1) (by decide) dX10_isSign_42 ?_
                refine g_goto h 47 (by decide) dX10_isSign_43 ?_
                obtain rfl := Option.some.inj zf
                exact g_zret h (by decide) rfl ⟨rfl, rfl⟩ (Nat.le_refl _) (Nat.le_refl _) dX10_isSign_47

theorem cmX10_isSign {l : Launch} {w : WX} {M : Mem} {x0 : Int32} {res : Int32} (zf : fX10_isSign x0 = some res) : CM l w yX10_isSign cX10_isSign 1 (some .boolean) { frames := 0, cells := 0, slots := 0, locals := 0 } 0 0 [.int x0] M (Pri res M) := by
  refine CM_of (by decide) (Nat.le_of_ble_eq_true rfl) (fun G hw hl h => ?_)
  subst hw
  exact kX10_isSign_e0 h zf

-- X8_append
theorem kX8_append_e0 {G : GX} (h : OKm G cX8_append RX8 2 none { frames := 0, cells := 0, slots := 0, locals := 0 }) {M : Mem} {x0 : Nat} {x1 : Int32} {res : Mem} (zf : fX8_append M x0 x1 = some res) : GG G (Qm G (Pwv res) 0 0) 0 0 0 [(0, rv G.1 x0), (1, .int x1)] [] M := by
  unfold fX8_append at zf
  have zf1 := pre_ck zf
  clear zf; obtain ⟨zk_x0, zf⟩ := zf1
  refine g_aload_n h 0 rfl dX8_append_0 ?_
  refine gfX8_13 h zk_x0 dX8_append_1 ?_
  refine g_nmI zf ?_
  clear zf; intro vq1 zf
  refine g_aload_n h 0 rfl dX8_append_4 ?_
  refine gfX8_20 h zk_x0 dX8_append_5 ?_
  refine g_ilen h 700 (z := 700) (kfrc zk_x0) (lfrc zk_x0) (by decide) dX8_append_8 ?_
  refine g_ic_ge h 32 (by decide) zf dX8_append_9 ?_ ?_ <;> clear zf <;> intro zf
  · obtain rfl := Option.some.inj zf
    exact g_vret h rfl ⟨rfl, rfl⟩ (Nat.le_refl _) (Nat.le_refl _) dX8_append_32
  · refine g_aload_n h 0 rfl dX8_append_12 ?_
    refine gfX8_20 h zk_x0 dX8_append_13 ?_
    refine g_aload_n h 0 rfl dX8_append_16 ?_
    refine gfX8_13 h zk_x0 dX8_append_17 ?_
    refine g_nmI zf ?_
    clear zf; intro vq2 zf
    refine g_iload_n h 1 rfl dX8_append_20 ?_
    refine g_iast h 700 (kfrc zk_x0) (lfrc zk_x0) zf dX8_append_21 ?_
    clear zf; intro Mq3 zf
    refine g_aload_n h 0 rfl dX8_append_22 ?_
    refine g_dup h rfl dX8_append_23 ?_
    refine gfX8_13 h zk_x0 dX8_append_24 ?_
    refine g_nmI zf ?_
    clear zf; intro vq4 zf
    refine g_iconst h 1 (v := 1) (by decide) dX8_append_27 ?_
    refine g_iadd h dX8_append_28 ?_
    refine pfX8_13 h zk_x0 dX8_append_29 ?_
    refine g_nmM zf ?_
    clear zf; intro Mq5 zf
    obtain rfl := Option.some.inj zf
    exact g_vret h rfl ⟨rfl, rfl⟩ (Nat.le_refl _) (Nat.le_refl _) dX8_append_32

theorem cmX8_append {l : Launch} {w : WX} {M : Mem} {x0 : Nat} {x1 : Int32} {res : Mem} (zf : fX8_append M x0 x1 = some res) : CM l w yX8_append cX8_append 2 none { frames := 0, cells := 0, slots := 0, locals := 0 } 0 0 [rv w x0, .int x1] M (Pwv res) := by
  refine CM_of (by decide) (Nat.le_of_ble_eq_true rfl) (fun G hw hl h => ?_)
  subst hw
  exact kX8_append_e0 h zf

-- X7_passAlone
theorem kX7_passAlone_e0 {G : GX} (h : OKm G cX7_passAlone RX7 2 none { frames := 7, cells := 0, slots := 0, locals := 162 }) {M : Mem} {x1 : Nat} {res : Mem} (zf : fX7_passAlone M x1 = some res) : GG G (Qm G (Pwv res) 0 0) 0 0 0 [(0, rv G.1 28), (1, rv G.1 x1)] [] M := by
  unfold fX7_passAlone at zf
  have zf1 := pre_ck zf
  clear zf; obtain ⟨zk_x1, zf⟩ := zf1
  refine g_aload_n h 0 rfl dX7_passAlone_0 ?_
  refine g_aload_n h 1 rfl dX7_passAlone_1 ?_
  refine g_aload_n h 0 rfl dX7_passAlone_2 ?_
  refine g_aload_n h 1 rfl dX7_passAlone_3 ?_
  refine gfX7_48 h zk_x1 dX7_passAlone_4 ?_
  refine g_nmI zf ?_
  clear zf; intro vq1 zf
  have zf1 := bd_some zf
  clear zf; obtain ⟨vq2, zq, zf⟩ := zf1
  refine g_callVri (As := [.int vq1]) (rest := [rv G.1 x1, rv G.1 28]) h ceX7_harvestOf mlX7_51 imX7_harvestOf seX7_harvestOf (by rfl) (kd_lt (by rw [(by decide : kd 28 = 6)]; decide)) (ent_6 (by decide : kd 28 = 6)) rfl rfl ⟨by decide, by decide⟩ ⟨by decide, by decide⟩ rfl dX7_passAlone_7 rfl (Nat.le_of_ble_eq_true rfl) (cmX7_harvestOf zq) ?_
  have zf1 := bd_some zf
  clear zf; obtain ⟨Mq3, zq, zf⟩ := zf1
  refine g_callVwv (As := [rv G.1 x1, .int vq2]) (rest := []) h ceX7_reap mlX7_66 imX7_reap seX7_reap (by rfl) (kd_lt (by rw [(by decide : kd 28 = 6)]; decide)) (ent_6 (by decide : kd 28 = 6)) rfl rfl ⟨by decide, by decide⟩ ⟨by decide, by decide⟩ rfl dX7_passAlone_10 rfl (Nat.le_of_ble_eq_true rfl) (cmX7_reap zq) ?_
  refine g_aload_n h 0 rfl dX7_passAlone_13 ?_
  refine g_aload_n h 1 rfl dX7_passAlone_14 ?_
  refine g_aload_n h 0 rfl dX7_passAlone_15 ?_
  refine g_aload_n h 1 rfl dX7_passAlone_16 ?_
  refine g_aload_n h 1 rfl dX7_passAlone_17 ?_
  refine gfX7_55 h zk_x1 dX7_passAlone_18 ?_
  refine g_nmI zf ?_
  clear zf; intro vq4 zf
  have zf1 := bd_some zf
  clear zf; obtain ⟨vq5, zq, zf⟩ := zf1
  refine g_callVri (As := [rv G.1 x1, .int vq4]) (rest := [rv G.1 x1, rv G.1 28]) h ceX7_wayDeed mlX7_58 imX7_wayDeed seX7_wayDeed (by rfl) (kd_lt (by rw [(by decide : kd 28 = 6)]; decide)) (ent_6 (by decide : kd 28 = 6)) rfl rfl ⟨by decide, by decide⟩ ⟨by decide, by decide⟩ rfl dX7_passAlone_21 rfl (Nat.le_of_ble_eq_true rfl) (cmX7_wayDeed zq) ?_
  have zf1 := b2_some zf
  clear zf; obtain ⟨vq6, Mq7, zq, zf⟩ := zf1
  refine g_callVwi (As := [rv G.1 x1, .int vq5]) (rest := []) h ceX7_perform mlX7_70 imX7_perform seX7_perform (by rfl) (kd_lt (by rw [(by decide : kd 28 = 6)]; decide)) (ent_6 (by decide : kd 28 = 6)) rfl rfl ⟨by decide, by decide⟩ ⟨by decide, by decide⟩ rfl dX7_passAlone_24 rfl (Nat.le_of_ble_eq_true rfl) (cmX7_perform zq) ?_
  refine g_pop h rfl dX7_passAlone_27 ?_
  refine g_aload_n h 0 rfl dX7_passAlone_28 ?_
  refine g_aload_n h 1 rfl dX7_passAlone_29 ?_
  have zf1 := bd_some zf
  clear zf; obtain ⟨Mq8, zq, zf⟩ := zf1
  refine g_callVwv (As := [rv G.1 x1]) (rest := []) h ceX7_age mlX7_74 imX7_age seX7_age (by rfl) (kd_lt (by rw [(by decide : kd 28 = 6)]; decide)) (ent_6 (by decide : kd 28 = 6)) rfl rfl ⟨by decide, by decide⟩ ⟨by decide, by decide⟩ rfl dX7_passAlone_30 rfl (Nat.le_of_ble_eq_true rfl) (cmX7_age zq) ?_
  obtain rfl := Option.some.inj zf
  exact g_vret h rfl ⟨rfl, rfl⟩ (Nat.le_refl _) (Nat.le_refl _) dX7_passAlone_33

theorem cmX7_passAlone {l : Launch} {w : WX} {M : Mem} {x1 : Nat} {res : Mem} (zf : fX7_passAlone M x1 = some res) : CM l w yX7_passAlone cX7_passAlone 2 none { frames := 7, cells := 0, slots := 0, locals := 162 } 0 0 [rv w 28, rv w x1] M (Pwv res) := by
  refine CM_of (by decide) (Nat.le_of_ble_eq_true rfl) (fun G hw hl h => ?_)
  subst hw
  exact kX7_passAlone_e0 h zf

-- X7_passMany
theorem kX7_passMany_l2 {G : GX} (h : OKm G cX7_passMany RX7 4 none { frames := 8, cells := 0, slots := 0, locals := 186 }) : ∀ (n : Nat) (M : Mem) (x1 : Nat) (x2 : Int32) (x3 : Int32) (res : Mem), fX7_passMany_l2 n M x1 x2 x3 = some res → GG G (Qm G (Pwv res) 0 0) 0 0 2 [(0, rv G.1 28), (1, rv G.1 x1), (2, .int x2), (3, .int x3)] [] M := by
  intro n
  induction n with
  | zero => intro M x1 x2 x3 res zf; rw [fX7_passMany_l2] at zf; cases zf
  | succ n ih =>
    intro M x1 x2 x3 res zf
    rw [fX7_passMany_l2] at zf
    have zf1 := pre_ck zf
    clear zf; obtain ⟨zk_x1, zf⟩ := zf1
    refine g_iload_n h 3 rfl dX7_passMany_2 ?_
    refine g_iload_n h 2 rfl dX7_passMany_3 ?_
    refine g_ic_ge h 36 (by decide) zf dX7_passMany_4 ?_ ?_ <;> clear zf <;> intro zf
    · obtain rfl := Option.some.inj zf
      exact g_vret h rfl ⟨rfl, rfl⟩ (Nat.le_refl _) (Nat.le_refl _) dX7_passMany_36
    · refine g_aload_n h 0 rfl dX7_passMany_7 ?_
      refine g_aload_n h 1 rfl dX7_passMany_8 ?_
      refine g_aload_n h 0 rfl dX7_passMany_9 ?_
      refine g_aload_n h 1 rfl dX7_passMany_10 ?_
      refine gfX7_48 h zk_x1 dX7_passMany_11 ?_
      refine g_nmI zf ?_
      clear zf; intro vq1 zf
      have zf1 := bd_some zf
      clear zf; obtain ⟨vq2, zq, zf⟩ := zf1
      refine g_callVri (As := [.int vq1]) (rest := [rv G.1 x1, rv G.1 28]) h ceX7_harvestOf mlX7_51 imX7_harvestOf seX7_harvestOf (by rfl) (kd_lt (by rw [(by decide : kd 28 = 6)]; decide)) (ent_6 (by decide : kd 28 = 6)) rfl rfl ⟨by decide, by decide⟩ ⟨by decide, by decide⟩ rfl dX7_passMany_14 rfl (Nat.le_of_ble_eq_true rfl) (cmX7_harvestOf zq) ?_
      refine g_aload_n h 0 rfl dX7_passMany_17 ?_
      refine g_aload_n h 1 rfl dX7_passMany_18 ?_
      refine g_aload_n h 1 rfl dX7_passMany_19 ?_
      refine gfX7_55 h zk_x1 dX7_passMany_20 ?_
      refine g_nmI zf ?_
      clear zf; intro vq3 zf
      have zf1 := bd_some zf
      clear zf; obtain ⟨vq4, zq, zf⟩ := zf1
      refine g_callVri (As := [rv G.1 x1, .int vq3]) (rest := [.int vq2, rv G.1 x1, rv G.1 28]) h ceX7_wayDeed mlX7_58 imX7_wayDeed seX7_wayDeed (by rfl) (kd_lt (by rw [(by decide : kd 28 = 6)]; decide)) (ent_6 (by decide : kd 28 = 6)) rfl rfl ⟨by decide, by decide⟩ ⟨by decide, by decide⟩ rfl dX7_passMany_23 rfl (Nat.le_of_ble_eq_true rfl) (cmX7_wayDeed zq) ?_
      have zf1 := b2_some zf
      clear zf; obtain ⟨vq5, Mq6, zq, zf⟩ := zf1
      refine g_callVwi (As := [rv G.1 x1, .int vq2, .int vq4]) (rest := []) h ceX7_live mlX7_62 imX7_live seX7_live (by rfl) (kd_lt (by rw [(by decide : kd 28 = 6)]; decide)) (ent_6 (by decide : kd 28 = 6)) rfl rfl ⟨by decide, by decide⟩ ⟨by decide, by decide⟩ rfl dX7_passMany_26 rfl (Nat.le_of_ble_eq_true rfl) (cmX7_live zq) ?_
      refine g_pop h rfl dX7_passMany_29 ?_
      refine g_iinc h 3 3 rfl (v := x3 + 1) (congrArg (fun z => x3 + z) (by decide : Int32.ofInt (1) = (1 : Int32))) [(3, .int (x3 + 1)), (0, rv G.1 28), (1, rv G.1 x1), (2, .int x2)] (by decide) rfl dX7_passMany_30 ?_
      refine g_nmV zf ?_
      clear zf; intro vq7 zf
      refine g_goto h 2 (by decide) dX7_passMany_33 ?_
      refine g_sub h [1, 2, 3, 0] rfl ?_
      exact ih _ _ _ _ _ zf

theorem kX7_passMany_e0 {G : GX} (h : OKm G cX7_passMany RX7 4 none { frames := 8, cells := 0, slots := 0, locals := 186 }) {M : Mem} {x1 : Nat} {x2 : Int32} {res : Mem} (zf : fX7_passMany M x1 x2 = some res) : GG G (Qm G (Pwv res) 0 0) 0 0 0 [(0, rv G.1 28), (1, rv G.1 x1), (2, .int x2)] [] M := by
  unfold fX7_passMany at zf
  have zf1 := pre_ck zf
  clear zf; obtain ⟨zk_x1, zf⟩ := zf1
  refine g_iconst h 0 (v := 0) (by decide) dX7_passMany_0 ?_
  refine g_istore_n h rfl [(3, .int 0), (0, rv G.1 28), (1, rv G.1 x1), (2, .int x2)] (by decide) rfl dX7_passMany_1 ?_
  refine g_sub h [1, 2, 3, 0] rfl ?_
  exact kX7_passMany_l2 h _ _ _ _ _ _ zf

theorem cmX7_passMany {l : Launch} {w : WX} {M : Mem} {x1 : Nat} {x2 : Int32} {res : Mem} (zf : fX7_passMany M x1 x2 = some res) : CM l w yX7_passMany cX7_passMany 4 none { frames := 8, cells := 0, slots := 0, locals := 186 } 0 0 [rv w 28, rv w x1, .int x2] M (Pwv res) := by
  refine CM_of (by decide) (Nat.le_of_ble_eq_true rfl) (fun G hw hl h => ?_)
  subst hw
  exact kX7_passMany_e0 h zf

-- X9_add
theorem kX9_add_e0 {G : GX} (h : OKm G cX9_add RX9 3 (some .boolean) { frames := 0, cells := 0, slots := 0, locals := 0 }) {M : Mem} {x0 : Nat} {x1 : Int32} {x2 : Int32} {res : (Int32 × Mem)} (zf : fX9_add M x0 x1 x2 = some res) : GG G (Qm G (Pwi res) 0 0) 0 0 0 [(0, rv G.1 x0), (1, .int x1), (2, .int x2)] [] M := by
  unfold fX9_add at zf
  have zf1 := pre_ck zf
  clear zf; obtain ⟨zk_x0, zf⟩ := zf1
  refine g_aload_n h 0 rfl dX9_add_0 ?_
  refine gfX9_9 h zk_x0 dX9_add_1 ?_
  refine g_nmI zf ?_
  clear zf; intro vq1 zf
  refine g_bipush h 8 (v := 8) (by decide) dX9_add_4 ?_
  refine g_ic_lt h 11 (by decide) zf dX9_add_6 ?_ ?_ <;> clear zf <;> intro zf
  · refine g_aload_n h 0 rfl dX9_add_11 ?_
    refine gfX9_15 h zk_x0 dX9_add_12 ?_
    refine g_aload_n h 0 rfl dX9_add_15 ?_
    refine gfX9_9 h zk_x0 dX9_add_16 ?_
    refine g_nmI zf ?_
    clear zf; intro vq2 zf
    refine g_iload_n h 1 rfl dX9_add_19 ?_
    refine g_iast h 8 (kf8_1 zk_x0) (lf8_1 zk_x0) zf dX9_add_20 ?_
    clear zf; intro Mq3 zf
    refine g_aload_n h 0 rfl dX9_add_21 ?_
    refine gfX9_19 h zk_x0 dX9_add_22 ?_
    refine g_aload_n h 0 rfl dX9_add_25 ?_
    refine gfX9_9 h zk_x0 dX9_add_26 ?_
    refine g_nmI zf ?_
    clear zf; intro vq4 zf
    refine g_iload_n h 2 rfl dX9_add_29 ?_
    refine g_iast h 8 (kf8_2 zk_x0) (lf8_2 zk_x0) zf dX9_add_30 ?_
    clear zf; intro Mq5 zf
    refine g_aload_n h 0 rfl dX9_add_31 ?_
    refine g_dup h rfl dX9_add_32 ?_
    refine gfX9_9 h zk_x0 dX9_add_33 ?_
    refine g_nmI zf ?_
    clear zf; intro vq6 zf
    refine g_iconst h 1 (v := 1) (by decide) dX9_add_36 ?_
    refine g_iadd h dX9_add_37 ?_
    refine pfX9_9 h zk_x0 dX9_add_38 ?_
    refine g_nmM zf ?_
    clear zf; intro Mq7 zf
    refine g_iconst h 1 (v := 1) (by decide) dX9_add_41 ?_
    obtain rfl := Option.some.inj zf
    exact g_zret h (by decide) rfl ⟨rfl, rfl⟩ (Nat.le_refl _) (Nat.le_refl _) dX9_add_42
  · refine g_iconst h 0 (v := 0) (by decide) dX9_add_9 ?_
    obtain rfl := Option.some.inj zf
    exact g_zret h (by decide) rfl ⟨rfl, rfl⟩ (Nat.le_refl _) (Nat.le_refl _) dX9_add_10

theorem cmX9_add {l : Launch} {w : WX} {M : Mem} {x0 : Nat} {x1 : Int32} {x2 : Int32} {res : (Int32 × Mem)} (zf : fX9_add M x0 x1 x2 = some res) : CM l w yX9_add cX9_add 3 (some .boolean) { frames := 0, cells := 0, slots := 0, locals := 0 } 0 0 [rv w x0, .int x1, .int x2] M (Pwi res) := by
  refine CM_of (by decide) (Nat.le_of_ble_eq_true rfl) (fun G hw hl h => ?_)
  subst hw
  exact kX9_add_e0 h zf

-- X9_become
theorem kX9_become_e0 {G : GX} (h : OKm G cX9_become RX9 2 none { frames := 1, cells := 0, slots := 0, locals := 200 }) {M : Mem} {x0 : Nat} {x1 : Nat} {res : Mem} (zf : fX9_become M x0 x1 = some res) : GG G (Qm G (Pwv res) 0 0) 0 0 0 [(0, rv G.1 x0), (1, rv G.1 x1)] [] M := by
  unfold fX9_become at zf
  have zf1 := pre_ck zf
  clear zf; obtain ⟨zk_x0, zf⟩ := zf1
  have zf1 := pre_ck zf
  clear zf; obtain ⟨zk_x1, zf⟩ := zf1
  refine g_aload_n h 0 rfl dX9_become_0 ?_
  refine g_aload_n h 1 rfl dX9_become_1 ?_
  refine gfX9_9 h zk_x1 dX9_become_2 ?_
  refine g_nmI zf ?_
  clear zf; intro vq1 zf
  refine pfX9_9 h zk_x0 dX9_become_5 ?_
  refine g_nmM zf ?_
  clear zf; intro Mq2 zf
  refine g_aload_n h 1 rfl dX9_become_8 ?_
  refine gfX9_15 h zk_x1 dX9_become_9 ?_
  refine g_iconst h 0 (v := 0) (by decide) dX9_become_12 ?_
  refine g_aload_n h 0 rfl dX9_become_13 ?_
  refine gfX9_15 h zk_x0 dX9_become_14 ?_
  refine g_iconst h 0 (v := 0) (by decide) dX9_become_17 ?_
  refine g_bipush h 8 (v := 8) (by decide) dX9_become_18 ?_
  refine g_copy h mlX9_28 natCopy smCopy initSystem (kf8_1 zk_x1) (lf8_1 zk_x1) (kf8_1 zk_x0) (lf8_1 zk_x0) zf (by decide) (Nat.le_of_ble_eq_true rfl) dX9_become_20 ?_
  clear zf; intro Mq3 zf
  refine g_aload_n h 1 rfl dX9_become_23 ?_
  refine gfX9_19 h zk_x1 dX9_become_24 ?_
  refine g_iconst h 0 (v := 0) (by decide) dX9_become_27 ?_
  refine g_aload_n h 0 rfl dX9_become_28 ?_
  refine gfX9_19 h zk_x0 dX9_become_29 ?_
  refine g_iconst h 0 (v := 0) (by decide) dX9_become_32 ?_
  refine g_bipush h 8 (v := 8) (by decide) dX9_become_33 ?_
  refine g_copy h mlX9_28 natCopy smCopy initSystem (kf8_2 zk_x1) (lf8_2 zk_x1) (kf8_2 zk_x0) (lf8_2 zk_x0) zf (by decide) (Nat.le_of_ble_eq_true rfl) dX9_become_35 ?_
  clear zf; intro Mq4 zf
  obtain rfl := Option.some.inj zf
  exact g_vret h rfl ⟨rfl, rfl⟩ (Nat.le_refl _) (Nat.le_refl _) dX9_become_38

theorem cmX9_become {l : Launch} {w : WX} {M : Mem} {x0 : Nat} {x1 : Nat} {res : Mem} (zf : fX9_become M x0 x1 = some res) : CM l w yX9_become cX9_become 2 none { frames := 1, cells := 0, slots := 0, locals := 200 } 0 0 [rv w x0, rv w x1] M (Pwv res) := by
  refine CM_of (by decide) (Nat.le_of_ble_eq_true rfl) (fun G hw hl h => ?_)
  subst hw
  exact kX9_become_e0 h zf

-- X9_last
theorem kX9_last_l4 {G : GX} (h : OKm G cX9_last RX9 3 (some .int) { frames := 6, cells := 0, slots := 0, locals := 140 }) : ∀ (n : Nat) (M : Mem) (x0 : Nat) (x1 : Int32) (x2 : Int32) (res : Int32), fX9_last_l4 n M x0 x1 x2 = some res → GG G (Qm G (Pri res M) 0 0) 0 0 4 [(0, rv G.1 x0), (1, .int x1), (2, .int x2)] [] M := by
  intro n
  induction n with
  | zero => intro M x0 x1 x2 res zf; rw [fX9_last_l4] at zf; cases zf
  | succ n ih =>
    intro M x0 x1 x2 res zf
    rw [fX9_last_l4] at zf
    have zf1 := pre_ck zf
    clear zf; obtain ⟨zk_x0, zf⟩ := zf1
    refine g_iload_n h 2 rfl dX9_last_4 ?_
    refine g_aload_n h 0 rfl dX9_last_5 ?_
    refine gfX9_9 h zk_x0 dX9_last_6 ?_
    refine g_nmI zf ?_
    clear zf; intro vq1 zf
    refine g_ic_ge h 29 (by decide) zf dX9_last_9 ?_ ?_ <;> clear zf <;> intro zf
    · refine g_iload_n h 1 rfl dX9_last_29 ?_
      obtain rfl := Option.some.inj zf
      exact g_iret h rfl ⟨rfl, rfl⟩ (Nat.le_refl _) (Nat.le_refl _) dX9_last_30
    · refine g_iload_n h 1 rfl dX9_last_12 ?_
      refine g_aload_n h 0 rfl dX9_last_13 ?_
      refine gfX9_15 h zk_x0 dX9_last_14 ?_
      refine g_iload_n h 2 rfl dX9_last_17 ?_
      refine g_iald h 8 (kf8_1 zk_x0) (lf8_1 zk_x0) zf dX9_last_18 ?_
      clear zf; intro vq2 zf
      refine g_mmax h mlX9_22 smMathmax initMath ceMathmax (by decide) (Nat.le_of_ble_eq_true rfl) (Nat.le_of_ble_eq_true rfl) (Nat.le_of_ble_eq_true rfl) dX9_last_19 ?_
      refine g_nmI zf ?_
      clear zf; intro vq3 zf
      refine g_istore_n h rfl [(1, .int vq3), (0, rv G.1 x0), (2, .int x2)] (by decide) rfl dX9_last_22 ?_
      refine g_iinc h 2 2 rfl (v := x2 + 1) (congrArg (fun z => x2 + z) (by decide : Int32.ofInt (1) = (1 : Int32))) [(2, .int (x2 + 1)), (1, .int vq3), (0, rv G.1 x0)] (by decide) rfl dX9_last_23 ?_
      refine g_nmV zf ?_
      clear zf; intro vq4 zf
      refine g_goto h 4 (by decide) dX9_last_26 ?_
      refine g_sub h [2, 1, 0] rfl ?_
      exact ih _ _ _ _ _ zf

theorem kX9_last_e0 {G : GX} (h : OKm G cX9_last RX9 3 (some .int) { frames := 6, cells := 0, slots := 0, locals := 140 }) {M : Mem} {x0 : Nat} {res : Int32} (zf : fX9_last M x0 = some res) : GG G (Qm G (Pri res M) 0 0) 0 0 0 [(0, rv G.1 x0)] [] M := by
  unfold fX9_last at zf
  have zf1 := pre_ck zf
  clear zf; obtain ⟨zk_x0, zf⟩ := zf1
  refine g_iconst h 0 (v := 0) (by decide) dX9_last_0 ?_
  refine g_istore_n h rfl [(1, .int 0), (0, rv G.1 x0)] (by decide) rfl dX9_last_1 ?_
  refine g_iconst h 0 (v := 0) (by decide) dX9_last_2 ?_
  refine g_istore_n h rfl [(2, .int 0), (1, .int 0), (0, rv G.1 x0)] (by decide) rfl dX9_last_3 ?_
  refine g_sub h [2, 1, 0] rfl ?_
  exact kX9_last_l4 h _ _ _ _ _ _ zf

theorem cmX9_last {l : Launch} {w : WX} {M : Mem} {x0 : Nat} {res : Int32} (zf : fX9_last M x0 = some res) : CM l w yX9_last cX9_last 3 (some .int) { frames := 6, cells := 0, slots := 0, locals := 140 } 0 0 [rv w x0] M (Pri res M) := by
  refine CM_of (by decide) (Nat.le_of_ble_eq_true rfl) (fun G hw hl h => ?_)
  subst hw
  exact kX9_last_e0 h zf

-- X12_edge
theorem kX12_edge_b58 {G : GX} (h : OKm G cX12_edge RX12 5 (some .int) { frames := 0, cells := 0, slots := 0, locals := 0 }) {M : Mem} {s0 : Int32} {s1 : Int32} {res : Int32} (zf : fX12_edge_b58 M s0 s1 = some res) : GG G (Qm G (Pri res M) 0 0) 0 0 58 [(0, rv G.1 0)] [.int s0, .int s1] M := by
  unfold fX12_edge_b58 at zf
  refine g_iadd h dX12_edge_58 ?_
  refine g_aload_n h 0 rfl dX12_edge_59 ?_
  refine gfX12_52 h (by decide : kd 0 = 10) dX12_edge_60 ?_
  refine gfX12_126 h (by decide : kd 81 = 2) dX12_edge_63 ?_
  refine g_nmI zf ?_
  clear zf; intro vq6 zf
  refine g_bipush h 10 (v := 10) (by decide) dX12_edge_66 ?_
  refine g_idiv h (by decide) dX12_edge_68 ?_
  refine g_isub h dX12_edge_69 ?_
  obtain rfl := Option.some.inj zf
  exact g_iret h rfl ⟨rfl, rfl⟩ (Nat.le_refl _) (Nat.le_refl _) dX12_edge_70

theorem kX12_edge_b40 {G : GX} (h : OKm G cX12_edge RX12 5 (some .int) { frames := 0, cells := 0, slots := 0, locals := 0 }) {M : Mem} {x1 : Int32} {x3 : Nat} {s0 : Int32} {res : Int32} (zf : fX12_edge_b40 M x1 x3 s0 = some res) : GG G (Qm G (Pri res M) 0 0) 0 0 40 [(0, rv G.1 0), (1, .int x1), (3, rv G.1 x3)] [.int s0] M := by
  unfold fX12_edge_b40 at zf
  have zf1 := pre_ck zf
  clear zf; obtain ⟨zk_x3, zf⟩ := zf1
  refine g_istore h [(4, .int s0), (0, rv G.1 0), (1, .int x1), (3, rv G.1 x3)] (by decide) rfl dX12_edge_40 ?_
  refine g_aload_n h 3 rfl dX12_edge_42 ?_
  refine gfX12_294 h zk_x3 dX12_edge_43 ?_
  refine g_iload_n h 2 rfl dX12_edge_46 ?_
  refine g_iald h 7 (kf3_1 zk_x3) (lf3_1 zk_x3) zf dX12_edge_47 ?_
  clear zf; intro vq5 zf
  refine g_iload h 0 rfl dX12_edge_48 ?_
  refine g_if_eq h 57 (by decide) zf dX12_edge_50 ?_ ?_ <;> clear zf <;> intro zf
  · refine g_iconst h 0 (v := 0) (by decide) dX12_edge_57 ?_
    refine g_sub h [1] rfl ?_
    exact kX12_edge_b58 h zf
  · refine g_iconst h 5 (v := 5) (by decide) dX12_edge_53 ?_
    refine g_goto h 58 (by decide) dX12_edge_54 ?_
    refine g_sub h [1] rfl ?_
    exact kX12_edge_b58 h zf

theorem kX12_edge_e0 {G : GX} (h : OKm G cX12_edge RX12 5 (some .int) { frames := 0, cells := 0, slots := 0, locals := 0 }) {M : Mem} {x1 : Int32} {x2 : Int32} {res : Int32} (zf : fX12_edge M x1 x2 = some res) : GG G (Qm G (Pri res M) 0 0) 0 0 0 [(0, rv G.1 0), (1, .int x1), (2, .int x2)] [] M := by
  unfold fX12_edge at zf
  refine g_aload_n h 0 rfl dX12_edge_0 ?_
  refine gfX12_36 h (by decide : kd 0 = 10) dX12_edge_1 ?_
  refine gfX12_111 h (by decide : kd 28 = 6) dX12_edge_4 ?_
  refine g_nmR zf ?_
  clear zf; intro oq1 zf
  have zf1 := pre_ck zf
  clear zf; obtain ⟨zk_oq1, zf⟩ := zf1
  refine gfX12_158 h zk_oq1 dX12_edge_7 ?_
  refine g_astore_n h rfl [(3, rv G.1 (oq1 + 8)), (0, rv G.1 0), (1, .int x1), (2, .int x2)] (by decide) rfl dX12_edge_10 ?_
  refine g_aload_n h 0 rfl dX12_edge_11 ?_
  refine gfX12_311 h (kf4_8 zk_oq1) dX12_edge_12 ?_
  refine g_iload_n h 2 rfl dX12_edge_15 ?_
  refine g_iald h 7 (kf3_2 (kf4_8 zk_oq1)) (lf3_2 (kf4_8 zk_oq1)) zf dX12_edge_16 ?_
  clear zf; intro vq2 zf
  refine g_aload_n h 1 rfl dX12_edge_17 ?_
  refine gfX12_36 h (by decide : kd 0 = 10) dX12_edge_18 ?_
  refine gfX12_111 h (by decide : kd 28 = 6) dX12_edge_21 ?_
  refine g_nmR zf ?_
  clear zf; intro oq3 zf
  have zf1 := pre_ck zf
  clear zf; obtain ⟨zk_oq3, zf⟩ := zf1
  refine gfX12_165 h zk_oq3 dX12_edge_24 ?_
  refine gfX12_311 h (kf4_11 zk_oq3) dX12_edge_27 ?_
  refine g_iload_n h 3 rfl dX12_edge_30 ?_
  refine g_iald h 7 (kf3_2 (kf4_11 zk_oq3)) (lf3_2 (kf4_11 zk_oq3)) zf dX12_edge_31 ?_
  clear zf; intro vq4 zf
  refine g_ic_ne h 39 (by decide) zf dX12_edge_32 ?_ ?_ <;> clear zf <;> intro zf
  · refine g_iconst h 0 (v := 0) (by decide) dX12_edge_39 ?_
    refine g_sub h [1, 2, 0] rfl ?_
    exact kX12_edge_b40 h zf
  · refine g_iconst h 1 (v := 1) (by decide) dX12_edge_35 ?_
    refine g_goto h 40 (by decide) dX12_edge_36 ?_
    refine g_sub h [1, 2, 0] rfl ?_
    exact kX12_edge_b40 h zf

theorem cmX12_edge {l : Launch} {w : WX} {M : Mem} {x1 : Int32} {x2 : Int32} {res : Int32} (zf : fX12_edge M x1 x2 = some res) : CM l w yX12_edge cX12_edge 5 (some .int) { frames := 0, cells := 0, slots := 0, locals := 0 } 0 0 [rv w 0, .int x1, .int x2] M (Pri res M) := by
  refine CM_of (by decide) (Nat.le_of_ble_eq_true rfl) (fun G hw hl h => ?_)
  subst hw
  exact kX12_edge_e0 h zf

