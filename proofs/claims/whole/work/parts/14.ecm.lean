-- X12_needWhat
theorem kX12_needWhat_b9 {G : GX} (h : OKm G cX12_needWhat RX12 3 none { frames := 6, cells := 1, slots := 6, locals := 160 }) (zE : OKe G) {M : Mem} {res : (Except Nat Unit)} (zf : fX12_needWhat_b9 M = some res) : GG G (QmX G (okx (fun _ => Pnn M) res) (erx res) M 1 6) 0 0 9 [] [] M := by
  unfold fX12_needWhat_b9 at zf
  obtain rfl := Option.some.inj zf
  exact g_throwN h zE rfl clX12_168 initNSE (by decide +kernel : (RX12, 170, "what") ∈ wMs) hatX12_172 dX12_needWhat_9 dX12_needWhat_12 dX12_needWhat_13 dX12_needWhat_15 dX12_needWhat_18 (by decide) (Nat.le_of_ble_eq_true rfl) (by decide) (by decide) (by decide) (by decide)

theorem kX12_needWhat_e0 {G : GX} (h : OKm G cX12_needWhat RX12 3 none { frames := 6, cells := 1, slots := 6, locals := 160 }) (zE : OKe G) {M : Mem} {x1 : Int32} {x2 : Int32} {res : (Except Nat Unit)} (zf : fX12_needWhat M x1 x2 = some res) : GG G (QmX G (okx (fun _ => Pnn M) res) (erx res) M 1 6) 0 0 0 [(0, rv G.1 0), (1, .int x1), (2, .int x2)] [] M := by
  unfold fX12_needWhat at zf
  refine g_iload_n h 1 rfl dX12_needWhat_0 ?_
  refine g_if_lt h 9 (by decide) zf dX12_needWhat_1 ?_ ?_ <;> clear zf <;> intro zf
  · refine g_sub h [] rfl ?_
    exact kX12_needWhat_b9 h zE zf
  · refine g_iload_n h 1 rfl dX12_needWhat_4 ?_
    refine g_iload_n h 2 rfl dX12_needWhat_5 ?_
    refine g_ic_le h 19 (by decide) zf dX12_needWhat_6 ?_ ?_ <;> clear zf <;> intro zf
    · obtain rfl := Option.some.inj zf
      refine g_ret ?_
      exact g_vret h rfl ⟨_, rfl, rfl, rfl⟩ (Nat.le_of_ble_eq_true rfl) (Nat.le_of_ble_eq_true rfl) dX12_needWhat_19
    · refine g_sub h [] rfl ?_
      exact kX12_needWhat_b9 h zE zf

theorem cxX12_needWhat {l : Launch} (zl : l.stackTraces = false) {w : WX} {M : Mem} {x1 : Int32} {x2 : Int32} {res : (Except Nat Unit)} (zf : fX12_needWhat M x1 x2 = some res) : CX l w yX12_needWhat cX12_needWhat 3 none { frames := 6, cells := 1, slots := 6, locals := 160 } 1 6 [rv w 0, .int x1, .int x2] M (okx (fun _ => Pnn M) res) (erx res) := by
  refine CX_of zl (by decide) (Nat.le_of_ble_eq_true rfl) (fun G hw hl h zE => ?_)
  subst hw
  exact kX12_needWhat_e0 h zE zf

-- X12_another
theorem kX12_another_b116 {G : GX} (h : OKm G cX12_another RX12 6 (some .int) { frames := 9, cells := 4, slots := 24, locals := 248 }) (zE : OKe G) {M0 : Mem} {a51 : Mem → Int32 → Int32 → Int32 → Int32 → Option (Except Nat (Int32 × Mem))} (zh51 : ∀ (M : Mem) (x1 : Int32) (x2 : Int32) (x3 : Int32) (x4 : Int32) (res : (Except Nat (Int32 × Mem))), a51 M x1 x2 x3 x4 = some res → GG G (QmX G (okx Pwi res) (erx res) M0 4 24) 3 18 51 [(0, rv G.1 0), (1, .int x1), (2, .int x2), (3, .int x3), (4, .int x4)] [] M) {a61 : Mem → Int32 → Int32 → Int32 → Int32 → Int32 → Option (Except Nat (Int32 × Mem))} (zh61 : ∀ (M : Mem) (x1 : Int32) (x2 : Int32) (x3 : Int32) (x4 : Int32) (x5 : Int32) (res : (Except Nat (Int32 × Mem))), a61 M x1 x2 x3 x4 x5 = some res → GG G (QmX G (okx Pwi res) (erx res) M0 4 24) 3 18 61 [(0, rv G.1 0), (1, .int x1), (2, .int x2), (3, .int x3), (4, .int x4), (5, .int x5)] [] M) {M : Mem} {x1 : Int32} {x2 : Int32} {x3 : Int32} {x4 : Int32} {x5 : Int32} {res : (Except Nat (Int32 × Mem))} (zf : fX12_another_b116 a51 a61 M x1 x2 x3 x4 x5 = some res) : GG G (QmX G (okx Pwi res) (erx res) M0 4 24) 3 18 116 [(0, rv G.1 0), (1, .int x1), (2, .int x2), (3, .int x3), (4, .int x4), (5, .int x5)] [] M := by
  unfold fX12_another_b116 at zf
  refine g_iinc h 5 5 rfl (v := x5 + 1) (congrArg (fun z => x5 + z) (by decide : Int32.ofInt (1) = (1 : Int32))) [(5, .int (x5 + 1)), (0, rv G.1 0), (1, .int x1), (2, .int x2), (3, .int x3), (4, .int x4)] (by decide) rfl dX12_another_116 ?_
  refine g_nmV zf ?_
  clear zf; intro vq7 zf
  refine g_goto h 61 (by decide) dX12_another_119 ?_
  refine g_sub h [1, 2, 3, 4, 5, 0] rfl ?_
  exact zh61 _ _ _ _ _ _ _ zf

theorem kX12_another_l61 {G : GX} (h : OKm G cX12_another RX12 6 (some .int) { frames := 9, cells := 4, slots := 24, locals := 248 }) (zE : OKe G) {M0 : Mem} {a51 : Mem → Int32 → Int32 → Int32 → Int32 → Option (Except Nat (Int32 × Mem))} (zh51 : ∀ (M : Mem) (x1 : Int32) (x2 : Int32) (x3 : Int32) (x4 : Int32) (res : (Except Nat (Int32 × Mem))), a51 M x1 x2 x3 x4 = some res → GG G (QmX G (okx Pwi res) (erx res) M0 4 24) 3 18 51 [(0, rv G.1 0), (1, .int x1), (2, .int x2), (3, .int x3), (4, .int x4)] [] M) : ∀ (n : Nat) (M : Mem) (x1 : Int32) (x2 : Int32) (x3 : Int32) (x4 : Int32) (x5 : Int32) (res : (Except Nat (Int32 × Mem))), fX12_another_l61 a51 n M x1 x2 x3 x4 x5 = some res → GG G (QmX G (okx Pwi res) (erx res) M0 4 24) 3 18 61 [(0, rv G.1 0), (1, .int x1), (2, .int x2), (3, .int x3), (4, .int x4), (5, .int x5)] [] M := by
  intro n
  induction n with
  | zero => intro M x1 x2 x3 x4 x5 res zf; rw [fX12_another_l61] at zf; cases zf
  | succ n ih =>
    intro M x1 x2 x3 x4 x5 res zf
    rw [fX12_another_l61] at zf
    refine g_iload h 5 rfl dX12_another_61 ?_
    refine g_aload_n h 0 rfl dX12_another_63 ?_
    refine gfX12_36 h (by decide : kd 0 = 10) dX12_another_64 ?_
    refine gfX12_111 h (by decide : kd 28 = 6) dX12_another_67 ?_
    refine g_nmR zf ?_
    clear zf; intro oq2 zf
    have zf1 := pre_ck zf
    clear zf; obtain ⟨zk_oq2, zf⟩ := zf1
    refine gfX12_150 h zk_oq2 dX12_another_70 ?_
    refine g_nmI zf ?_
    clear zf; intro vq3 zf
    refine g_ic_ge h 122 (by decide) zf dX12_another_73 ?_ ?_ <;> clear zf <;> intro zf
    · refine g_iinc h 4 4 rfl (v := x4 + 1) (congrArg (fun z => x4 + z) (by decide : Int32.ofInt (1) = (1 : Int32))) [(4, .int (x4 + 1)), (0, rv G.1 0), (1, .int x1), (2, .int x2), (3, .int x3), (5, .int x5)] (by decide) rfl dX12_another_122 ?_
      refine g_nmV zf ?_
      clear zf; intro vq4 zf
      refine g_goto h 51 (by decide) dX12_another_125 ?_
      refine g_sub h [1, 2, 3, 4, 0] rfl ?_
      exact zh51 _ _ _ _ _ _ zf
    · refine g_aload_n h 0 rfl dX12_another_76 ?_
      refine gfX12_45 h (by decide : kd 0 = 10) dX12_another_77 ?_
      refine g_aload_n h 0 rfl dX12_another_80 ?_
      refine gfX12_52 h (by decide : kd 0 = 10) dX12_another_81 ?_
      refine g_aload_n h 0 rfl dX12_another_84 ?_
      refine gfX12_69 h (by decide : kd 0 = 10) dX12_another_85 ?_
      refine g_iload h 4 rfl dX12_another_88 ?_
      refine g_iload h 5 rfl dX12_another_90 ?_
      refine g_iload_n h 2 rfl dX12_another_92 ?_
      have zf1 := b2_some zf
      clear zf; obtain ⟨vq5, Mq6, zq, zf⟩ := zf1
      refine g_callVwi (As := [rv G.1 81, rv G.1 93, .int x4, .int x5, .int x2]) (rest := []) h ceX2_fits mlX12_332 imX2_fits seX2_fits (by rfl) (kd_lt (by rw [(by decide : kd 49 = 1)]; decide)) (ent_1 (by decide : kd 49 = 1)) rfl rfl ⟨by decide, by decide⟩ ⟨by decide, by decide⟩ rfl dX12_another_93 rfl (Nat.le_of_ble_eq_true rfl) (cmX2_fits zq) ?_
      refine g_if_eq h 116 (by decide) zf dX12_another_96 ?_ ?_ <;> clear zf <;> intro zf
      · refine g_sub h [0, 1, 2, 3, 4, 5] rfl ?_
        exact kX12_another_b116 h zE zh51 ih zf
      · refine g_iload_n h 1 rfl dX12_another_99 ?_
        refine g_iconst h 1 (v := 1) (by decide) dX12_another_100 ?_
        refine g_ic_ne h 113 (by decide) zf dX12_another_101 ?_ ?_ <;> clear zf <;> intro zf
        · refine g_iinc h 3 3 rfl (v := x3 + 1) (congrArg (fun z => x3 + z) (by decide : Int32.ofInt (1) = (1 : Int32))) [(3, .int (x3 + 1)), (0, rv G.1 0), (1, .int x1), (2, .int x2), (4, .int x4), (5, .int x5)] (by decide) rfl dX12_another_113 ?_
          refine g_nmV zf ?_
          clear zf; intro vq8 zf
          refine g_sub h [1, 2, 3, 0, 4, 5] rfl ?_
          exact kX12_another_b116 h zE zh51 ih zf
        · refine g_bipush h 10 (v := 10) (by decide) dX12_another_104 ?_
          refine g_iload h 4 rfl dX12_another_106 ?_
          refine g_imul h dX12_another_108 ?_
          refine g_iload h 5 rfl dX12_another_109 ?_
          refine g_iadd h dX12_another_111 ?_
          obtain rfl := Option.some.inj zf
          refine g_ret ?_
          exact g_iret h rfl ⟨_, rfl, rfl, rfl⟩ (Nat.le_of_ble_eq_true rfl) (Nat.le_of_ble_eq_true rfl) dX12_another_112

theorem kX12_another_l51 {G : GX} (h : OKm G cX12_another RX12 6 (some .int) { frames := 9, cells := 4, slots := 24, locals := 248 }) (zE : OKe G) {M0 : Mem} : ∀ (n : Nat) (M : Mem) (x1 : Int32) (x2 : Int32) (x3 : Int32) (x4 : Int32) (res : (Except Nat (Int32 × Mem))), fX12_another_l51 n M x1 x2 x3 x4 = some res → GG G (QmX G (okx Pwi res) (erx res) M0 4 24) 3 18 51 [(0, rv G.1 0), (1, .int x1), (2, .int x2), (3, .int x3), (4, .int x4)] [] M := by
  intro n
  induction n with
  | zero => intro M x1 x2 x3 x4 res zf; rw [fX12_another_l51] at zf; cases zf
  | succ n ih =>
    intro M x1 x2 x3 x4 res zf
    rw [fX12_another_l51] at zf
    refine g_iload h 4 rfl dX12_another_51 ?_
    refine g_bipush h 12 (v := 12) (by decide) dX12_another_53 ?_
    refine g_ic_gt h 128 (by decide) zf dX12_another_55 ?_ ?_ <;> clear zf <;> intro zf
    · refine g_iload_n h 1 rfl dX12_another_128 ?_
      refine g_if_ne h 136 (by decide) zf dX12_another_129 ?_ ?_ <;> clear zf <;> intro zf
      · refine g_iconst h (-1) (v := (-1)) (by decide) dX12_another_136 ?_
        obtain rfl := Option.some.inj zf
        refine g_ret ?_
        exact g_iret h rfl ⟨_, rfl, rfl, rfl⟩ (Nat.le_of_ble_eq_true rfl) (Nat.le_of_ble_eq_true rfl) dX12_another_137
      · refine g_iload_n h 3 rfl dX12_another_132 ?_
        refine g_goto h 137 (by decide) dX12_another_133 ?_
        obtain rfl := Option.some.inj zf
        refine g_ret ?_
        exact g_iret h rfl ⟨_, rfl, rfl, rfl⟩ (Nat.le_of_ble_eq_true rfl) (Nat.le_of_ble_eq_true rfl) dX12_another_137
    · refine g_iconst h 0 (v := 0) (by decide) dX12_another_58 ?_
      refine g_istore h [(5, .int 0), (0, rv G.1 0), (1, .int x1), (2, .int x2), (3, .int x3), (4, .int x4)] (by decide) rfl dX12_another_59 ?_
      refine g_sub h [1, 2, 3, 4, 5, 0] rfl ?_
      exact kX12_another_l61 h zE ih _ _ _ _ _ _ _ _ zf

theorem kX12_another_e0 {G : GX} (h : OKm G cX12_another RX12 6 (some .int) { frames := 9, cells := 4, slots := 24, locals := 248 }) (zE : OKe G) {M : Mem} {x1 : Int32} {res : (Except Nat (Int32 × Mem))} (zf : fX12_another M x1 = some res) : GG G (QmX G (okx Pwi res) (erx res) M 4 24) 0 0 0 [(0, rv G.1 0), (1, .int x1)] [] M := by
  unfold fX12_another at zf
  refine g_aload_n h 0 rfl dX12_another_0 ?_
  refine g_iload_n h 1 rfl dX12_another_1 ?_
  refine g_iconst h 2 (v := 2) (by decide) dX12_another_2 ?_
  refine g_xneed (As := [.int x1, .int 2]) (rest := []) h zE zf ceX12_needWhat mlX12_261 imX12_needWhat seX12_needWhat (by rfl) (by decide) (ent_10 (by decide)) rfl rfl ⟨by decide, by decide⟩ ⟨by decide, by decide⟩ rfl (by decide) (by decide) dX12_another_3 rfl (Nat.le_of_ble_eq_true rfl) (fun q zq => cxX12_needWhat zE.1 zq) ?_
  clear zf; intro zf
  refine g_aload_n h 0 rfl dX12_another_6 ?_
  refine gfX12_69 h (by decide : kd 0 = 10) dX12_another_7 ?_
  have zf1 := bd_some zf
  clear zf; obtain ⟨vq1, zq, zf⟩ := zf1
  refine g_callVri (As := []) (rest := []) h ceX9_last mlX12_329 imX9_last seX9_last (by rfl) (kd_lt (by rw [(by decide : kd 93 = 8)]; decide)) (ent_8 (by decide : kd 93 = 8)) rfl rfl ⟨by decide, by decide⟩ ⟨by decide, by decide⟩ rfl dX12_another_10 rfl (Nat.le_of_ble_eq_true rfl) (cmX9_last zq) ?_
  refine g_istore_n h rfl [(2, .int vq1), (0, rv G.1 0), (1, .int x1)] (by decide) rfl dX12_another_13 ?_
  refine g_iload_n h 2 rfl dX12_another_14 ?_
  refine g_iconst h 2 (v := 2) (by decide) dX12_another_15 ?_
  refine g_ic_ne h 46 (by decide) zf dX12_another_16 ?_ ?_ <;> clear zf <;> intro zf
  · refine g_iconst h 0 (v := 0) (by decide) dX12_another_46 ?_
    refine g_istore_n h rfl [(3, .int 0), (2, .int vq1), (0, rv G.1 0), (1, .int x1)] (by decide) rfl dX12_another_47 ?_
    refine g_iconst h 1 (v := 1) (by decide) dX12_another_48 ?_
    refine g_istore h [(4, .int 1), (3, .int 0), (2, .int vq1), (0, rv G.1 0), (1, .int x1)] (by decide) rfl dX12_another_49 ?_
    refine g_cs h (kc' := 3) (ks' := 18) (by decide) (by decide) ?_
    refine g_sub h [3, 4, 2, 1, 0] rfl ?_
    exact kX12_another_l51 h zE _ _ _ _ _ _ _ zf
  · refine g_aload_n h 1 rfl dX12_another_19 ?_
    refine gfX12_45 h (by decide : kd 0 = 10) dX12_another_20 ?_
    refine g_aload_n h 1 rfl dX12_another_23 ?_
    refine gfX12_52 h (by decide : kd 0 = 10) dX12_another_24 ?_
    refine g_aload_n h 1 rfl dX12_another_27 ?_
    refine gfX12_69 h (by decide : kd 0 = 10) dX12_another_28 ?_
    refine g_iconst h 0 (v := 0) (by decide) dX12_another_31 ?_
    refine g_iconst h (-1) (v := (-1)) (by decide) dX12_another_32 ?_
    refine g_iload_n h 0 rfl dX12_another_33 ?_
    have zf1 := b2_some zf
    clear zf; obtain ⟨vq9, Mq10, zq, zf⟩ := zf1
    refine g_callVwi (As := [rv G.1 81, rv G.1 93, .int 0, .int (-1), .int vq1]) (rest := []) h ceX2_fits mlX12_332 imX2_fits seX2_fits (by rfl) (kd_lt (by rw [(by decide : kd 49 = 1)]; decide)) (ent_1 (by decide : kd 49 = 1)) rfl rfl ⟨by decide, by decide⟩ ⟨by decide, by decide⟩ rfl dX12_another_34 rfl (Nat.le_of_ble_eq_true rfl) (cmX2_fits zq) ?_
    refine g_if_eq h 44 (by decide) zf dX12_another_37 ?_ ?_ <;> clear zf <;> intro zf
    · refine g_iconst h 0 (v := 0) (by decide) dX12_another_44 ?_
      obtain rfl := Option.some.inj zf
      refine g_ret ?_
      exact g_iret h rfl ⟨_, rfl, rfl, rfl⟩ (Nat.le_of_ble_eq_true rfl) (Nat.le_of_ble_eq_true rfl) dX12_another_45
    · refine g_iconst h 1 (v := 1) (by decide) dX12_another_40 ?_
      refine g_goto h 45 (by decide) dX12_another_41 ?_
      obtain rfl := Option.some.inj zf
      refine g_ret ?_
      exact g_iret h rfl ⟨_, rfl, rfl, rfl⟩ (Nat.le_of_ble_eq_true rfl) (Nat.le_of_ble_eq_true rfl) dX12_another_45

theorem cxX12_another {l : Launch} (zl : l.stackTraces = false) {w : WX} {M : Mem} {x1 : Int32} {res : (Except Nat (Int32 × Mem))} (zf : fX12_another M x1 = some res) : CX l w yX12_another cX12_another 6 (some .int) { frames := 9, cells := 4, slots := 24, locals := 248 } 4 24 [rv w 0, .int x1] M (okx Pwi res) (erx res) := by
  refine CX_of zl (by decide) (Nat.le_of_ble_eq_true rfl) (fun G hw hl h zE => ?_)
  subst hw
  exact kX12_another_e0 h zE zf

-- X12_needChampion
theorem kX12_needChampion_b21 {G : GX} (h : OKm G cX12_needChampion RX12 2 none { frames := 6, cells := 1, slots := 6, locals := 160 }) (zE : OKe G) {M : Mem} {res : (Except Nat Unit)} (zf : fX12_needChampion_b21 M = some res) : GG G (QmX G (okx (fun _ => Pnn M) res) (erx res) M 1 6) 0 0 21 [] [] M := by
  unfold fX12_needChampion_b21 at zf
  obtain rfl := Option.some.inj zf
  exact g_throwNW h zE rfl clX12_168 initNSE (by decide +kernel : (RX12, 314, "no such champion") ∈ wMs) hatX12_172 dX12_needChampion_21 dX12_needChampion_24 dX12_needChampion_25 dX12_needChampion_28 dX12_needChampion_31 (by decide) (Nat.le_of_ble_eq_true rfl) (by decide) (by decide) (by decide) (by decide)

theorem kX12_needChampion_e0 {G : GX} (h : OKm G cX12_needChampion RX12 2 none { frames := 6, cells := 1, slots := 6, locals := 160 }) (zE : OKe G) {M : Mem} {x1 : Int32} {res : (Except Nat Unit)} (zf : fX12_needChampion M x1 = some res) : GG G (QmX G (okx (fun _ => Pnn M) res) (erx res) M 1 6) 0 0 0 [(0, rv G.1 0), (1, .int x1)] [] M := by
  unfold fX12_needChampion at zf
  refine g_iload_n h 1 rfl dX12_needChampion_0 ?_
  refine g_if_lt h 21 (by decide) zf dX12_needChampion_1 ?_ ?_ <;> clear zf <;> intro zf
  · refine g_sub h [] rfl ?_
    exact kX12_needChampion_b21 h zE zf
  · refine g_iload_n h 1 rfl dX12_needChampion_4 ?_
    refine g_aload_n h 0 rfl dX12_needChampion_5 ?_
    refine gfX12_36 h (by decide : kd 0 = 10) dX12_needChampion_6 ?_
    refine gfX12_111 h (by decide : kd 28 = 6) dX12_needChampion_9 ?_
    refine g_nmR zf ?_
    clear zf; intro oq1 zf
    have zf1 := pre_ck zf
    clear zf; obtain ⟨zk_oq1, zf⟩ := zf1
    refine gfX12_158 h zk_oq1 dX12_needChampion_12 ?_
    refine gfX12_162 h (kf4_8 zk_oq1) dX12_needChampion_15 ?_
    refine g_nmI zf ?_
    clear zf; intro vq2 zf
    refine g_ic_lt h 32 (by decide) zf dX12_needChampion_18 ?_ ?_ <;> clear zf <;> intro zf
    · obtain rfl := Option.some.inj zf
      refine g_ret ?_
      exact g_vret h rfl ⟨_, rfl, rfl, rfl⟩ (Nat.le_of_ble_eq_true rfl) (Nat.le_of_ble_eq_true rfl) dX12_needChampion_32
    · refine g_sub h [] rfl ?_
      exact kX12_needChampion_b21 h zE zf

theorem cxX12_needChampion {l : Launch} (zl : l.stackTraces = false) {w : WX} {M : Mem} {x1 : Int32} {res : (Except Nat Unit)} (zf : fX12_needChampion M x1 = some res) : CX l w yX12_needChampion cX12_needChampion 2 none { frames := 6, cells := 1, slots := 6, locals := 160 } 1 6 [rv w 0, .int x1] M (okx (fun _ => Pnn M) res) (erx res) := by
  refine CX_of zl (by decide) (Nat.le_of_ble_eq_true rfl) (fun G hw hl h zE => ?_)
  subst hw
  exact kX12_needChampion_e0 h zE zf

-- X12_assault
theorem kX12_assault_b80 {G : GX} (h : OKm G cX12_assault RX12 5 (some .int) { frames := 7, cells := 4, slots := 24, locals := 181 }) (zE : OKe G) {M0 : Mem} {a45 : Mem → Int32 → Int32 → Int32 → Int32 → Option (Except Nat (Int32 × Mem))} (zh45 : ∀ (M : Mem) (x1 : Int32) (x2 : Int32) (x3 : Int32) (x4 : Int32) (res : (Except Nat (Int32 × Mem))), a45 M x1 x2 x3 x4 = some res → GG G (QmX G (okx Pwi res) (erx res) M0 4 24) 3 18 45 [(0, rv G.1 0), (1, .int x1), (2, .int x2), (3, .int x3), (4, .int x4)] [] M) {M : Mem} {x1 : Int32} {x2 : Int32} {x3 : Int32} {x4 : Int32} {res : (Except Nat (Int32 × Mem))} (zf : fX12_assault_b80 a45 M x1 x2 x3 x4 = some res) : GG G (QmX G (okx Pwi res) (erx res) M0 4 24) 3 18 80 [(0, rv G.1 0), (1, .int x1), (2, .int x2), (3, .int x3), (4, .int x4)] [] M := by
  unfold fX12_assault_b80 at zf
  refine g_iinc h 4 4 rfl (v := x4 + 1) (congrArg (fun z => x4 + z) (by decide : Int32.ofInt (1) = (1 : Int32))) [(4, .int (x4 + 1)), (0, rv G.1 0), (1, .int x1), (2, .int x2), (3, .int x3)] (by decide) rfl dX12_assault_80 ?_
  refine g_nmV zf ?_
  clear zf; intro vq6 zf
  refine g_goto h 45 (by decide) dX12_assault_83 ?_
  refine g_sub h [1, 2, 3, 4, 0] rfl ?_
  exact zh45 _ _ _ _ _ _ zf

theorem kX12_assault_l45 {G : GX} (h : OKm G cX12_assault RX12 5 (some .int) { frames := 7, cells := 4, slots := 24, locals := 181 }) (zE : OKe G) {M0 : Mem} : ∀ (n : Nat) (M : Mem) (x1 : Int32) (x2 : Int32) (x3 : Int32) (x4 : Int32) (res : (Except Nat (Int32 × Mem))), fX12_assault_l45 n M x1 x2 x3 x4 = some res → GG G (QmX G (okx Pwi res) (erx res) M0 4 24) 3 18 45 [(0, rv G.1 0), (1, .int x1), (2, .int x2), (3, .int x3), (4, .int x4)] [] M := by
  intro n
  induction n with
  | zero => intro M x1 x2 x3 x4 res zf; rw [fX12_assault_l45] at zf; cases zf
  | succ n ih =>
    intro M x1 x2 x3 x4 res zf
    rw [fX12_assault_l45] at zf
    refine g_iload h 4 rfl dX12_assault_45 ?_
    refine g_iload_n h 1 rfl dX12_assault_47 ?_
    refine g_ic_gt h 86 (by decide) zf dX12_assault_48 ?_ ?_ <;> clear zf <;> intro zf
    · refine g_iload_n h 3 rfl dX12_assault_86 ?_
      obtain rfl := Option.some.inj zf
      refine g_ret ?_
      exact g_iret h rfl ⟨_, rfl, rfl, rfl⟩ (Nat.le_of_ble_eq_true rfl) (Nat.le_of_ble_eq_true rfl) dX12_assault_87
    · refine g_aload_n h 0 rfl dX12_assault_51 ?_
      refine g_iload h 4 rfl dX12_assault_52 ?_
      refine g_iconst h 1 (v := 1) (by decide) dX12_assault_54 ?_
      refine g_iadd h dX12_assault_55 ?_
      have zf1 := bd_some zf
      clear zf; obtain ⟨Mq4, zq, zf⟩ := zf1
      refine g_callVwv (As := [.int (x4 + 1)]) (rest := []) h ceX12_fillReach mlX12_297 imX12_fillReach seX12_fillReach (by rfl) (kd_lt (by rw [(by decide : kd 0 = 10)]; decide)) (ent_10 (by decide : kd 0 = 10)) rfl rfl ⟨by decide, by decide⟩ ⟨by decide, by decide⟩ rfl dX12_assault_56 rfl (Nat.le_of_ble_eq_true rfl) (cmX12_fillReach zq) ?_
      refine g_aload_n h 0 rfl dX12_assault_59 ?_
      refine g_iload h 4 rfl dX12_assault_60 ?_
      refine g_iload_n h 2 rfl dX12_assault_62 ?_
      have zf1 := bd_some zf
      clear zf; obtain ⟨vq5, zq, zf⟩ := zf1
      refine g_callVri (As := [.int x4, .int x2]) (rest := []) h ceX12_bestGate mlX12_300 imX12_bestGate seX12_bestGate (by rfl) (kd_lt (by rw [(by decide : kd 0 = 10)]; decide)) (ent_10 (by decide : kd 0 = 10)) rfl rfl ⟨by decide, by decide⟩ ⟨by decide, by decide⟩ rfl dX12_assault_63 rfl (Nat.le_of_ble_eq_true rfl) (cmX12_bestGate zq) ?_
      refine g_istore_n h rfl [(3, .int vq5), (0, rv G.1 0), (1, .int x1), (2, .int x2), (4, .int x4)] (by decide) rfl dX12_assault_66 ?_
      refine g_iload_n h 0 rfl dX12_assault_67 ?_
      refine g_iconst h (-1) (v := (-1)) (by decide) dX12_assault_68 ?_
      refine g_ic_eq h 80 (by decide) zf dX12_assault_69 ?_ ?_ <;> clear zf <;> intro zf
      · refine g_sub h [1, 2, 3, 0, 4] rfl ?_
        exact kX12_assault_b80 h zE ih zf
      · refine g_iload_n h 3 rfl dX12_assault_72 ?_
        refine g_iconst h 1 (v := 1) (by decide) dX12_assault_73 ?_
        refine g_iload_n h 0 rfl dX12_assault_74 ?_
        refine g_ishl h dX12_assault_75 ?_
        refine g_iconst h (-1) (v := (-1)) (by decide) dX12_assault_76 ?_
        refine g_ixor h dX12_assault_77 ?_
        refine g_iand h dX12_assault_78 ?_
        refine g_nmI zf ?_
        clear zf; intro vq7 zf
        refine g_istore_n h rfl [(2, .int vq7), (3, .int vq5), (0, rv G.1 0), (1, .int x1), (4, .int x4)] (by decide) rfl dX12_assault_79 ?_
        refine g_sub h [2, 3, 0, 1, 4] rfl ?_
        exact kX12_assault_b80 h zE ih zf

theorem kX12_assault_e0 {G : GX} (h : OKm G cX12_assault RX12 5 (some .int) { frames := 7, cells := 4, slots := 24, locals := 181 }) (zE : OKe G) {M : Mem} {x1 : Int32} {res : (Except Nat (Int32 × Mem))} (zf : fX12_assault M x1 = some res) : GG G (QmX G (okx Pwi res) (erx res) M 4 24) 0 0 0 [(0, rv G.1 0), (1, .int x1)] [] M := by
  unfold fX12_assault at zf
  refine g_iconst h 1 (v := 1) (by decide) dX12_assault_0 ?_
  refine g_aload_n h 0 rfl dX12_assault_1 ?_
  refine gfX12_36 h (by decide : kd 0 = 10) dX12_assault_2 ?_
  refine gfX12_111 h (by decide : kd 28 = 6) dX12_assault_5 ?_
  refine g_nmR zf ?_
  clear zf; intro oq1 zf
  have zf1 := pre_ck zf
  clear zf; obtain ⟨zk_oq1, zf⟩ := zf1
  refine gfX12_165 h zk_oq1 dX12_assault_8 ?_
  refine gfX12_162 h (kf4_11 zk_oq1) dX12_assault_11 ?_
  refine g_nmI zf ?_
  clear zf; intro vq2 zf
  refine g_ishl h dX12_assault_14 ?_
  refine g_iconst h 1 (v := 1) (by decide) dX12_assault_15 ?_
  refine g_isub h dX12_assault_16 ?_
  refine g_nmI zf ?_
  clear zf; intro vq3 zf
  refine g_istore_n h rfl [(2, .int vq3), (0, rv G.1 0), (1, .int x1)] (by decide) rfl dX12_assault_17 ?_
  refine g_iload_n h 2 rfl dX12_assault_18 ?_
  refine g_iconst h (-1) (v := (-1)) (by decide) dX12_assault_19 ?_
  refine g_ic_ne h 35 (by decide) zf dX12_assault_20 ?_ ?_ <;> clear zf <;> intro zf
  · refine g_aload_n h 1 rfl dX12_assault_35 ?_
    refine g_iload_n h 2 rfl dX12_assault_36 ?_
    refine g_xneed (As := [.int x1]) (rest := []) h zE zf ceX12_needChampion mlX12_285 imX12_needChampion seX12_needChampion (by rfl) (by decide) (ent_10 (by decide)) rfl rfl ⟨by decide, by decide⟩ ⟨by decide, by decide⟩ rfl (by decide) (by decide) dX12_assault_37 rfl (Nat.le_of_ble_eq_true rfl) (fun q zq => cxX12_needChampion zE.1 zq) ?_
    clear zf; intro zf
    refine g_iconst h (-1) (v := (-1)) (by decide) dX12_assault_40 ?_
    refine g_istore_n h rfl [(3, .int (-1)), (2, .int vq3), (0, rv G.1 0), (1, .int x1)] (by decide) rfl dX12_assault_41 ?_
    refine g_iconst h 0 (v := 0) (by decide) dX12_assault_42 ?_
    refine g_istore h [(4, .int 0), (3, .int (-1)), (2, .int vq3), (0, rv G.1 0), (1, .int x1)] (by decide) rfl dX12_assault_43 ?_
    refine g_cs h (kc' := 3) (ks' := 18) (by decide) (by decide) ?_
    refine g_sub h [3, 4, 2, 1, 0] rfl ?_
    exact kX12_assault_l45 h zE _ _ _ _ _ _ _ zf
  · refine g_aload_n h 1 rfl dX12_assault_23 ?_
    refine g_iconst h 0 (v := 0) (by decide) dX12_assault_24 ?_
    have zf1 := bd_some zf
    clear zf; obtain ⟨Mq8, zq, zf⟩ := zf1
    refine g_callVwv (As := [.int 0]) (rest := []) h ceX12_fillReach mlX12_297 imX12_fillReach seX12_fillReach (by rfl) (kd_lt (by rw [(by decide : kd 0 = 10)]; decide)) (ent_10 (by decide : kd 0 = 10)) rfl rfl ⟨by decide, by decide⟩ ⟨by decide, by decide⟩ rfl dX12_assault_25 rfl (Nat.le_of_ble_eq_true rfl) (cmX12_fillReach zq) ?_
    refine g_aload_n h 1 rfl dX12_assault_28 ?_
    refine gfX12_86 h (by decide : kd 0 = 10) dX12_assault_29 ?_
    refine g_iload_n h 0 rfl dX12_assault_32 ?_
    refine g_iald h 128 (by decide : kd 102 = 20) (by decide) zf dX12_assault_33 ?_
    clear zf; intro vq9 zf
    obtain rfl := Option.some.inj zf
    refine g_ret ?_
    exact g_iret h rfl ⟨_, rfl, rfl, rfl⟩ (Nat.le_of_ble_eq_true rfl) (Nat.le_of_ble_eq_true rfl) dX12_assault_34

theorem cxX12_assault {l : Launch} (zl : l.stackTraces = false) {w : WX} {M : Mem} {x1 : Int32} {res : (Except Nat (Int32 × Mem))} (zf : fX12_assault M x1 = some res) : CX l w yX12_assault cX12_assault 5 (some .int) { frames := 7, cells := 4, slots := 24, locals := 181 } 4 24 [rv w 0, .int x1] M (okx Pwi res) (erx res) := by
  refine CX_of zl (by decide) (Nat.le_of_ble_eq_true rfl) (fun G hw hl h zE => ?_)
  subst hw
  exact kX12_assault_e0 h zE zf

-- X12_better
theorem kX12_better_b83 {G : GX} (h : OKm G cX12_better RX12 7 (some .int) { frames := 9, cells := 4, slots := 24, locals := 229 }) (zE : OKe G) {M0 : Mem} {a21 : Mem → Int32 → Int32 → Int32 → Option (Except Nat (Int32 × Mem))} (zh21 : ∀ (M : Mem) (x1 : Int32) (x2 : Int32) (x3 : Int32) (res : (Except Nat (Int32 × Mem))), a21 M x1 x2 x3 = some res → GG G (QmX G (okx Pwi res) (erx res) M0 4 24) 3 18 21 [(0, rv G.1 0), (1, .int x1), (2, .int x2), (3, .int x3)] [] M) {M : Mem} {x1 : Int32} {x3 : Int32} {s0 : Int32} {s1 : Int32} {res : (Except Nat (Int32 × Mem))} (zf : fX12_better_b83 a21 M x1 x3 s0 s1 = some res) : GG G (QmX G (okx Pwi res) (erx res) M0 4 24) 3 18 83 [(0, rv G.1 0), (1, .int x1), (3, .int x3)] [.int s0, .int s1] M := by
  unfold fX12_better_b83 at zf
  refine g_iadd h dX12_better_83 ?_
  refine g_nmI zf ?_
  clear zf; intro vq8 zf
  refine g_istore_n h rfl [(2, .int vq8), (0, rv G.1 0), (1, .int x1), (3, .int x3)] (by decide) rfl dX12_better_84 ?_
  refine g_iinc h 3 3 rfl (v := x3 + 1) (congrArg (fun z => x3 + z) (by decide : Int32.ofInt (1) = (1 : Int32))) [(3, .int (x3 + 1)), (2, .int vq8), (0, rv G.1 0), (1, .int x1)] (by decide) rfl dX12_better_85 ?_
  refine g_nmV zf ?_
  clear zf; intro vq9 zf
  refine g_goto h 21 (by decide) dX12_better_88 ?_
  refine g_sub h [2, 3, 1, 0] rfl ?_
  exact zh21 _ _ _ _ _ zf

theorem kX12_better_l21 {G : GX} (h : OKm G cX12_better RX12 7 (some .int) { frames := 9, cells := 4, slots := 24, locals := 229 }) (zE : OKe G) {M0 : Mem} : ∀ (n : Nat) (M : Mem) (x1 : Int32) (x2 : Int32) (x3 : Int32) (res : (Except Nat (Int32 × Mem))), fX12_better_l21 n M x1 x2 x3 = some res → GG G (QmX G (okx Pwi res) (erx res) M0 4 24) 3 18 21 [(0, rv G.1 0), (1, .int x1), (2, .int x2), (3, .int x3)] [] M := by
  intro n
  induction n with
  | zero => intro M x1 x2 x3 res zf; rw [fX12_better_l21] at zf; cases zf
  | succ n ih =>
    intro M x1 x2 x3 res zf
    rw [fX12_better_l21] at zf
    refine g_iload_n h 3 rfl dX12_better_21 ?_
    refine g_bipush h 60 (v := 60) (by decide) dX12_better_22 ?_
    refine g_ic_ge h 91 (by decide) zf dX12_better_24 ?_ ?_ <;> clear zf <;> intro zf
    · refine g_iload_n h 1 rfl dX12_better_91 ?_
      refine g_if_ne h 105 (by decide) zf dX12_better_92 ?_ ?_ <;> clear zf <;> intro zf
      · refine g_iload_n h 2 rfl dX12_better_105 ?_
        refine g_mabs h mlX12_363 smMathabs initMath ceMathabs (by decide) (Nat.le_of_ble_eq_true rfl) (Nat.le_of_ble_eq_true rfl) (Nat.le_of_ble_eq_true rfl) dX12_better_106 ?_
        refine g_nmI zf ?_
        clear zf; intro vq2 zf
        obtain rfl := Option.some.inj zf
        refine g_ret ?_
        exact g_iret h rfl ⟨_, rfl, rfl, rfl⟩ (Nat.le_of_ble_eq_true rfl) (Nat.le_of_ble_eq_true rfl) dX12_better_109
      · refine g_iload_n h 2 rfl dX12_better_95 ?_
        refine g_if_ge h 103 (by decide) zf dX12_better_96 ?_ ?_ <;> clear zf <;> intro zf
        · refine g_iconst h 0 (v := 0) (by decide) dX12_better_103 ?_
          obtain rfl := Option.some.inj zf
          refine g_ret ?_
          exact g_iret h rfl ⟨_, rfl, rfl, rfl⟩ (Nat.le_of_ble_eq_true rfl) (Nat.le_of_ble_eq_true rfl) dX12_better_104
        · refine g_iconst h 1 (v := 1) (by decide) dX12_better_99 ?_
          refine g_goto h 104 (by decide) dX12_better_100 ?_
          obtain rfl := Option.some.inj zf
          refine g_ret ?_
          exact g_iret h rfl ⟨_, rfl, rfl, rfl⟩ (Nat.le_of_ble_eq_true rfl) (Nat.le_of_ble_eq_true rfl) dX12_better_104
    · refine g_aload_n h 0 rfl dX12_better_27 ?_
      refine gfX12_56 h (by decide : kd 0 = 10) dX12_better_28 ?_
      refine gfX12_135 h (by decide : kd 86 = 2) dX12_better_31 ?_
      refine g_nmI zf ?_
      clear zf; intro vq3 zf
      refine g_istore h [(4, .int vq3), (0, rv G.1 0), (1, .int x1), (2, .int x2), (3, .int x3)] (by decide) rfl dX12_better_34 ?_
      refine g_aload_n h 1 rfl dX12_better_36 ?_
      refine gfX12_56 h (by decide : kd 0 = 10) dX12_better_37 ?_
      have zf1 := bd_some zf
      clear zf; obtain ⟨vq4, zq, zf⟩ := zf1
      refine g_callVri (As := []) (rest := []) h ceX3_wealth mlX12_272 imX3_wealth seX3_wealth (by rfl) (kd_lt (by rw [(by decide : kd 86 = 2)]; decide)) (ent_2 (by decide : kd 86 = 2)) rfl rfl ⟨by decide, by decide⟩ ⟨by decide, by decide⟩ rfl dX12_better_40 rfl (Nat.le_of_ble_eq_true rfl) (cmX3_wealth zq) ?_
      refine g_istore h [(5, .int vq4), (4, .int vq3), (0, rv G.1 0), (1, .int x1), (2, .int x2), (3, .int x3)] (by decide) rfl dX12_better_43 ?_
      refine g_aload_n h 2 rfl dX12_better_45 ?_
      refine gfX12_36 h (by decide : kd 0 = 10) dX12_better_46 ?_
      refine g_aload_n h 2 rfl dX12_better_49 ?_
      refine gfX12_56 h (by decide : kd 0 = 10) dX12_better_50 ?_
      refine g_iconst h 1 (v := 1) (by decide) dX12_better_53 ?_
      have zf1 := bd_some zf
      clear zf; obtain ⟨Mq5, zq, zf⟩ := zf1
      refine g_callVwv (As := [rv G.1 86, .int 1]) (rest := []) h ceX7_passMany mlX12_244 imX7_passMany seX7_passMany (by rfl) (kd_lt (by rw [(by decide : kd 28 = 6)]; decide)) (ent_6 (by decide : kd 28 = 6)) rfl rfl ⟨by decide, by decide⟩ ⟨by decide, by decide⟩ rfl dX12_better_54 rfl (Nat.le_of_ble_eq_true rfl) (cmX7_passMany zq) ?_
      refine g_aload_n h 2 rfl dX12_better_57 ?_
      refine gfX12_56 h (by decide : kd 0 = 10) dX12_better_58 ?_
      have zf1 := bd_some zf
      clear zf; obtain ⟨vq6, zq, zf⟩ := zf1
      refine g_callVri (As := []) (rest := []) h ceX3_wealth mlX12_272 imX3_wealth seX3_wealth (by rfl) (kd_lt (by rw [(by decide : kd 86 = 2)]; decide)) (ent_2 (by decide : kd 86 = 2)) rfl rfl ⟨by decide, by decide⟩ ⟨by decide, by decide⟩ rfl dX12_better_61 rfl (Nat.le_of_ble_eq_true rfl) (cmX3_wealth zq) ?_
      refine g_iload h 0 rfl dX12_better_64 ?_
      refine g_isub h dX12_better_66 ?_
      refine g_nmI zf ?_
      clear zf; intro vq7 zf
      refine g_istore h [(6, .int vq7), (5, .int vq4), (4, .int vq3), (0, rv G.1 0), (1, .int x1), (2, .int x2), (3, .int x3)] (by decide) rfl dX12_better_67 ?_
      refine g_iload_n h 5 rfl dX12_better_69 ?_
      refine g_iload h 2 rfl dX12_better_70 ?_
      refine g_if_ne h 80 (by decide) zf dX12_better_72 ?_ ?_ <;> clear zf <;> intro zf
      · refine g_iload h 0 rfl dX12_better_80 ?_
        refine g_ineg h dX12_better_82 ?_
        refine g_sub h [3, 4, 6] rfl ?_
        exact kX12_better_b83 h zE ih zf
      · refine g_iload h 0 rfl dX12_better_75 ?_
        refine g_goto h 83 (by decide) dX12_better_77 ?_
        refine g_sub h [3, 4, 6] rfl ?_
        exact kX12_better_b83 h zE ih zf

theorem kX12_better_e0 {G : GX} (h : OKm G cX12_better RX12 7 (some .int) { frames := 9, cells := 4, slots := 24, locals := 229 }) (zE : OKe G) {M : Mem} {x1 : Int32} {res : (Except Nat (Int32 × Mem))} (zf : fX12_better M x1 = some res) : GG G (QmX G (okx Pwi res) (erx res) M 4 24) 0 0 0 [(0, rv G.1 0), (1, .int x1)] [] M := by
  unfold fX12_better at zf
  refine g_aload_n h 0 rfl dX12_better_0 ?_
  refine g_iload_n h 1 rfl dX12_better_1 ?_
  refine g_iconst h 1 (v := 1) (by decide) dX12_better_2 ?_
  refine g_xneed (As := [.int x1, .int 1]) (rest := []) h zE zf ceX12_needWhat mlX12_261 imX12_needWhat seX12_needWhat (by rfl) (by decide) (ent_10 (by decide)) rfl rfl ⟨by decide, by decide⟩ ⟨by decide, by decide⟩ rfl (by decide) (by decide) dX12_better_3 rfl (Nat.le_of_ble_eq_true rfl) (fun q zq => cxX12_needWhat zE.1 zq) ?_
  clear zf; intro zf
  refine g_aload_n h 0 rfl dX12_better_6 ?_
  refine gfX12_56 h (by decide : kd 0 = 10) dX12_better_7 ?_
  refine g_aload_n h 0 rfl dX12_better_10 ?_
  refine gfX12_52 h (by decide : kd 0 = 10) dX12_better_11 ?_
  have zf1 := bd_some zf
  clear zf; obtain ⟨Mq1, zq, zf⟩ := zf1
  refine g_callVwv (As := [rv G.1 81]) (rest := []) h ceX3_become mlX12_115 imX3_become seX3_become (by rfl) (kd_lt (by rw [(by decide : kd 86 = 2)]; decide)) (ent_2 (by decide : kd 86 = 2)) rfl rfl ⟨by decide, by decide⟩ ⟨by decide, by decide⟩ rfl dX12_better_14 rfl (Nat.le_of_ble_eq_true rfl) (cmX3_become zq) ?_
  refine g_iconst h 0 (v := 0) (by decide) dX12_better_17 ?_
  refine g_istore_n h rfl [(2, .int 0), (0, rv G.1 0), (1, .int x1)] (by decide) rfl dX12_better_18 ?_
  refine g_iconst h 0 (v := 0) (by decide) dX12_better_19 ?_
  refine g_istore_n h rfl [(3, .int 0), (2, .int 0), (0, rv G.1 0), (1, .int x1)] (by decide) rfl dX12_better_20 ?_
  refine g_cs h (kc' := 3) (ks' := 18) (by decide) (by decide) ?_
  refine g_sub h [2, 3, 1, 0] rfl ?_
  exact kX12_better_l21 h zE _ _ _ _ _ _ zf

theorem cxX12_better {l : Launch} (zl : l.stackTraces = false) {w : WX} {M : Mem} {x1 : Int32} {res : (Except Nat (Int32 × Mem))} (zf : fX12_better M x1 = some res) : CX l w yX12_better cX12_better 7 (some .int) { frames := 9, cells := 4, slots := 24, locals := 229 } 4 24 [rv w 0, .int x1] M (okx Pwi res) (erx res) := by
  refine CX_of zl (by decide) (Nat.le_of_ble_eq_true rfl) (fun G hw hl h zE => ?_)
  subst hw
  exact kX12_better_e0 h zE zf

-- X12_bought
theorem kX12_bought_b122 {G : GX} (h : OKm G cX12_bought RX12 7 (some .int) { frames := 7, cells := 4, slots := 24, locals := 182 }) (zE : OKe G) {M0 : Mem} {a13 : Mem → Int32 → Int32 → Int32 → Int32 → Option (Except Nat Int32)} (zh13 : ∀ (M : Mem) (x1 : Int32) (x2 : Int32) (x3 : Int32) (x4 : Int32) (res : (Except Nat Int32)), a13 M x1 x2 x3 x4 = some res → GG G (QmX G (okx (fun zr => Pri zr M) res) (erx res) M0 4 24) 3 18 13 [(0, rv G.1 0), (1, .int x1), (2, .int x2), (3, .int x3), (4, .int x4)] [] M) {M : Mem} {x1 : Int32} {x2 : Int32} {x3 : Int32} {x4 : Int32} {res : (Except Nat Int32)} (zf : fX12_bought_b122 a13 M x1 x2 x3 x4 = some res) : GG G (QmX G (okx (fun zr => Pri zr M) res) (erx res) M0 4 24) 3 18 122 [(0, rv G.1 0), (1, .int x1), (2, .int x2), (3, .int x3), (4, .int x4)] [] M := by
  unfold fX12_bought_b122 at zf
  refine g_iinc h 4 4 rfl (v := x4 + 1) (congrArg (fun z => x4 + z) (by decide : Int32.ofInt (1) = (1 : Int32))) [(4, .int (x4 + 1)), (0, rv G.1 0), (1, .int x1), (2, .int x2), (3, .int x3)] (by decide) rfl dX12_bought_122 ?_
  refine g_nmV zf ?_
  clear zf; intro vq9 zf
  refine g_goto h 13 (by decide) dX12_bought_125 ?_
  refine g_sub h [1, 2, 3, 4, 0] rfl ?_
  exact zh13 _ _ _ _ _ _ zf

theorem kX12_bought_b110 {G : GX} (h : OKm G cX12_bought RX12 7 (some .int) { frames := 7, cells := 4, slots := 24, locals := 182 }) (zE : OKe G) {M0 : Mem} {a13 : Mem → Int32 → Int32 → Int32 → Int32 → Option (Except Nat Int32)} (zh13 : ∀ (M : Mem) (x1 : Int32) (x2 : Int32) (x3 : Int32) (x4 : Int32) (res : (Except Nat Int32)), a13 M x1 x2 x3 x4 = some res → GG G (QmX G (okx (fun zr => Pri zr M) res) (erx res) M0 4 24) 3 18 13 [(0, rv G.1 0), (1, .int x1), (2, .int x2), (3, .int x3), (4, .int x4)] [] M) {M : Mem} {x1 : Int32} {x4 : Int32} {x5 : Int32} {x6 : Int32} {res : (Except Nat Int32)} (zf : fX12_bought_b110 a13 M x1 x4 x5 x6 = some res) : GG G (QmX G (okx (fun zr => Pri zr M) res) (erx res) M0 4 24) 3 18 110 [(0, rv G.1 0), (1, .int x1), (4, .int x4), (5, .int x5), (6, .int x6)] [] M := by
  unfold fX12_bought_b110 at zf
  refine g_iload h 4 rfl dX12_bought_110 ?_
  refine g_istore_n h rfl [(2, .int x6), (0, rv G.1 0), (1, .int x1), (4, .int x4), (5, .int x5), (6, .int x6)] (by decide) rfl dX12_bought_112 ?_
  refine g_iload h 3 rfl dX12_bought_113 ?_
  refine g_bipush h 7 (v := 7) (by decide) dX12_bought_115 ?_
  refine g_ishl h dX12_bought_117 ?_
  refine g_iload h 4 rfl dX12_bought_118 ?_
  refine g_ior h dX12_bought_120 ?_
  refine g_nmI zf ?_
  clear zf; intro vq8 zf
  refine g_istore_n h rfl [(3, .int vq8), (2, .int x6), (0, rv G.1 0), (1, .int x1), (4, .int x4), (5, .int x5), (6, .int x6)] (by decide) rfl dX12_bought_121 ?_
  refine g_sub h [2, 3, 1, 0, 4] rfl ?_
  exact kX12_bought_b122 h zE zh13 zf

theorem kX12_bought_b80 {G : GX} (h : OKm G cX12_bought RX12 7 (some .int) { frames := 7, cells := 4, slots := 24, locals := 182 }) (zE : OKe G) {M0 : Mem} {a13 : Mem → Int32 → Int32 → Int32 → Int32 → Option (Except Nat Int32)} (zh13 : ∀ (M : Mem) (x1 : Int32) (x2 : Int32) (x3 : Int32) (x4 : Int32) (res : (Except Nat Int32)), a13 M x1 x2 x3 x4 = some res → GG G (QmX G (okx (fun zr => Pri zr M) res) (erx res) M0 4 24) 3 18 13 [(0, rv G.1 0), (1, .int x1), (2, .int x2), (3, .int x3), (4, .int x4)] [] M) {a39 : Mem → Int32 → Int32 → Int32 → Int32 → Int32 → Int32 → Option (Except Nat Int32)} (zh39 : ∀ (M : Mem) (x1 : Int32) (x2 : Int32) (x3 : Int32) (x4 : Int32) (x5 : Int32) (x6 : Int32) (res : (Except Nat Int32)), a39 M x1 x2 x3 x4 x5 x6 = some res → GG G (QmX G (okx (fun zr => Pri zr M) res) (erx res) M0 4 24) 3 18 39 [(0, rv G.1 0), (1, .int x1), (2, .int x2), (3, .int x3), (4, .int x4), (5, .int x5), (6, .int x6)] [] M) {M : Mem} {x1 : Int32} {x2 : Int32} {x3 : Int32} {x4 : Int32} {x5 : Int32} {x6 : Int32} {res : (Except Nat Int32)} (zf : fX12_bought_b80 a13 a39 M x1 x2 x3 x4 x5 x6 = some res) : GG G (QmX G (okx (fun zr => Pri zr M) res) (erx res) M0 4 24) 3 18 80 [(0, rv G.1 0), (1, .int x1), (2, .int x2), (3, .int x3), (4, .int x4), (5, .int x5), (6, .int x6)] [] M := by
  unfold fX12_bought_b80 at zf
  refine g_iinc h 6 6 rfl (v := x6 + 1) (congrArg (fun z => x6 + z) (by decide : Int32.ofInt (1) = (1 : Int32))) [(6, .int (x6 + 1)), (0, rv G.1 0), (1, .int x1), (2, .int x2), (3, .int x3), (4, .int x4), (5, .int x5)] (by decide) rfl dX12_bought_80 ?_
  refine g_nmV zf ?_
  clear zf; intro vq11 zf
  refine g_goto h 39 (by decide) dX12_bought_83 ?_
  refine g_sub h [1, 2, 3, 4, 5, 6, 0] rfl ?_
  exact zh39 _ _ _ _ _ _ _ _ zf

theorem kX12_bought_l39 {G : GX} (h : OKm G cX12_bought RX12 7 (some .int) { frames := 7, cells := 4, slots := 24, locals := 182 }) (zE : OKe G) {M0 : Mem} {a13 : Mem → Int32 → Int32 → Int32 → Int32 → Option (Except Nat Int32)} (zh13 : ∀ (M : Mem) (x1 : Int32) (x2 : Int32) (x3 : Int32) (x4 : Int32) (res : (Except Nat Int32)), a13 M x1 x2 x3 x4 = some res → GG G (QmX G (okx (fun zr => Pri zr M) res) (erx res) M0 4 24) 3 18 13 [(0, rv G.1 0), (1, .int x1), (2, .int x2), (3, .int x3), (4, .int x4)] [] M) : ∀ (n : Nat) (M : Mem) (x1 : Int32) (x2 : Int32) (x3 : Int32) (x4 : Int32) (x5 : Int32) (x6 : Int32) (res : (Except Nat Int32)), fX12_bought_l39 a13 n M x1 x2 x3 x4 x5 x6 = some res → GG G (QmX G (okx (fun zr => Pri zr M) res) (erx res) M0 4 24) 3 18 39 [(0, rv G.1 0), (1, .int x1), (2, .int x2), (3, .int x3), (4, .int x4), (5, .int x5), (6, .int x6)] [] M := by
  intro n
  induction n with
  | zero => intro M x1 x2 x3 x4 x5 x6 res zf; rw [fX12_bought_l39] at zf; cases zf
  | succ n ih =>
    intro M x1 x2 x3 x4 x5 x6 res zf
    rw [fX12_bought_l39] at zf
    refine g_iload h 6 rfl dX12_bought_39 ?_
    refine g_aload_n h 0 rfl dX12_bought_41 ?_
    refine gfX12_36 h (by decide : kd 0 = 10) dX12_bought_42 ?_
    refine gfX12_111 h (by decide : kd 28 = 6) dX12_bought_45 ?_
    refine g_nmR zf ?_
    clear zf; intro oq3 zf
    have zf1 := pre_ck zf
    clear zf; obtain ⟨zk_oq3, zf⟩ := zf1
    refine gfX12_158 h zk_oq3 dX12_bought_48 ?_
    refine gfX12_162 h (kf4_8 zk_oq3) dX12_bought_51 ?_
    refine g_nmI zf ?_
    clear zf; intro vq4 zf
    refine g_ic_ge h 86 (by decide) zf dX12_bought_54 ?_ ?_ <;> clear zf <;> intro zf
    · refine g_iload h 4 rfl dX12_bought_86 ?_
      have zf1 := bd_some zf
      clear zf; obtain ⟨vq5, zq, zf⟩ := zf1
      refine g_callSri (As := [.int x4]) (rest := []) h ceJ6_bitCount_0f7a4 mlX12_306 smJ6_bitCount_0f7a4 rfl rfl ⟨by decide, by decide⟩ ⟨by decide, by decide⟩ rfl dX12_bought_88 rfl (Nat.le_of_ble_eq_true rfl) (cmJ6_bitCount_0f7a4 zq) ?_
      refine g_iload h 5 rfl dX12_bought_91 ?_
      have zf1 := bd_some zf
      clear zf; obtain ⟨vq6, zq, zf⟩ := zf1
      refine g_callSri (As := [.int x5]) (rest := [.int vq5]) h ceJ6_bitCount_0f7a4 mlX12_306 smJ6_bitCount_0f7a4 rfl rfl ⟨by decide, by decide⟩ ⟨by decide, by decide⟩ rfl dX12_bought_93 rfl (Nat.le_of_ble_eq_true rfl) (cmJ6_bitCount_0f7a4 zq) ?_
      refine g_iadd h dX12_bought_96 ?_
      refine g_nmI zf ?_
      clear zf; intro vq7 zf
      refine g_istore h [(6, .int vq7), (0, rv G.1 0), (1, .int x1), (2, .int x2), (3, .int x3), (4, .int x4), (5, .int x5)] (by decide) rfl dX12_bought_97 ?_
      refine g_iload h 5 rfl dX12_bought_99 ?_
      refine g_if_eq h 110 (by decide) zf dX12_bought_101 ?_ ?_ <;> clear zf <;> intro zf
      · refine g_sub h [1, 2, 5, 6, 0] rfl ?_
        exact kX12_bought_b110 h zE zh13 zf
      · refine g_iload h 0 rfl dX12_bought_104 ?_
        refine g_iload_n h 3 rfl dX12_bought_106 ?_
        refine g_ic_ge h 122 (by decide) zf dX12_bought_107 ?_ ?_ <;> clear zf <;> intro zf
        · refine g_sub h [1, 2, 3, 4, 5] rfl ?_
          exact kX12_bought_b122 h zE zh13 zf
        · refine g_sub h [1, 2, 5, 6, 0] rfl ?_
          exact kX12_bought_b110 h zE zh13 zf
    · refine g_aload_n h 0 rfl dX12_bought_57 ?_
      refine g_iload h 6 rfl dX12_bought_58 ?_
      have zf1 := bd_some zf
      clear zf; obtain ⟨vq10, zq, zf⟩ := zf1
      refine g_callVri (As := [.int x6]) (rest := []) h ceX12_beatenBy mlX12_303 imX12_beatenBy seX12_beatenBy (by rfl) (kd_lt (by rw [(by decide : kd 0 = 10)]; decide)) (ent_10 (by decide : kd 0 = 10)) rfl rfl ⟨by decide, by decide⟩ ⟨by decide, by decide⟩ rfl dX12_bought_60 rfl (Nat.le_of_ble_eq_true rfl) (cmX12_beatenBy zq) ?_
      refine g_iload h 4 rfl dX12_bought_63 ?_
      refine g_iconst h (-1) (v := (-1)) (by decide) dX12_bought_65 ?_
      refine g_ixor h dX12_bought_66 ?_
      refine g_iand h dX12_bought_67 ?_
      refine g_if_eq h 80 (by decide) zf dX12_bought_68 ?_ ?_ <;> clear zf <;> intro zf
      · refine g_sub h [0, 1, 2, 3, 4, 5, 6] rfl ?_
        exact kX12_bought_b80 h zE zh13 ih zf
      · refine g_iload h 5 rfl dX12_bought_71 ?_
        refine g_iconst h 1 (v := 1) (by decide) dX12_bought_73 ?_
        refine g_iload h 6 rfl dX12_bought_74 ?_
        refine g_ishl h dX12_bought_76 ?_
        refine g_ior h dX12_bought_77 ?_
        refine g_nmI zf ?_
        clear zf; intro vq12 zf
        refine g_istore h [(5, .int vq12), (0, rv G.1 0), (1, .int x1), (2, .int x2), (3, .int x3), (4, .int x4), (6, .int x6)] (by decide) rfl dX12_bought_78 ?_
        refine g_sub h [1, 2, 3, 4, 5, 0, 6] rfl ?_
        exact kX12_bought_b80 h zE zh13 ih zf

theorem kX12_bought_l13 {G : GX} (h : OKm G cX12_bought RX12 7 (some .int) { frames := 7, cells := 4, slots := 24, locals := 182 }) (zE : OKe G) {M0 : Mem} : ∀ (n : Nat) (M : Mem) (x1 : Int32) (x2 : Int32) (x3 : Int32) (x4 : Int32) (res : (Except Nat Int32)), fX12_bought_l13 n M x1 x2 x3 x4 = some res → GG G (QmX G (okx (fun zr => Pri zr M) res) (erx res) M0 4 24) 3 18 13 [(0, rv G.1 0), (1, .int x1), (2, .int x2), (3, .int x3), (4, .int x4)] [] M := by
  intro n
  induction n with
  | zero => intro M x1 x2 x3 x4 res zf; rw [fX12_bought_l13] at zf; cases zf
  | succ n ih =>
    intro M x1 x2 x3 x4 res zf
    rw [fX12_bought_l13] at zf
    refine g_iload h 4 rfl dX12_bought_13 ?_
    refine g_iconst h 1 (v := 1) (by decide) dX12_bought_15 ?_
    refine g_aload_n h 0 rfl dX12_bought_16 ?_
    refine gfX12_36 h (by decide : kd 0 = 10) dX12_bought_17 ?_
    refine gfX12_111 h (by decide : kd 28 = 6) dX12_bought_20 ?_
    refine g_nmR zf ?_
    clear zf; intro oq1 zf
    have zf1 := pre_ck zf
    clear zf; obtain ⟨zk_oq1, zf⟩ := zf1
    refine gfX12_165 h zk_oq1 dX12_bought_23 ?_
    refine gfX12_162 h (kf4_11 zk_oq1) dX12_bought_26 ?_
    refine g_nmI zf ?_
    clear zf; intro vq2 zf
    refine g_ishl h dX12_bought_29 ?_
    refine g_ic_ge h 128 (by decide) zf dX12_bought_30 ?_ ?_ <;> clear zf <;> intro zf
    · refine g_iload_n h 1 rfl dX12_bought_128 ?_
      refine g_if_ne h 136 (by decide) zf dX12_bought_129 ?_ ?_ <;> clear zf <;> intro zf
      · refine g_iload_n h 3 rfl dX12_bought_136 ?_
        obtain rfl := Option.some.inj zf
        refine g_ret ?_
        exact g_iret h rfl ⟨_, rfl, rfl, rfl⟩ (Nat.le_of_ble_eq_true rfl) (Nat.le_of_ble_eq_true rfl) dX12_bought_137
      · refine g_iload_n h 2 rfl dX12_bought_132 ?_
        refine g_goto h 137 (by decide) dX12_bought_133 ?_
        obtain rfl := Option.some.inj zf
        refine g_ret ?_
        exact g_iret h rfl ⟨_, rfl, rfl, rfl⟩ (Nat.le_of_ble_eq_true rfl) (Nat.le_of_ble_eq_true rfl) dX12_bought_137
    · refine g_iconst h 0 (v := 0) (by decide) dX12_bought_33 ?_
      refine g_istore h [(5, .int 0), (0, rv G.1 0), (1, .int x1), (2, .int x2), (3, .int x3), (4, .int x4)] (by decide) rfl dX12_bought_34 ?_
      refine g_iconst h 0 (v := 0) (by decide) dX12_bought_36 ?_
      refine g_istore h [(6, .int 0), (5, .int 0), (0, rv G.1 0), (1, .int x1), (2, .int x2), (3, .int x3), (4, .int x4)] (by decide) rfl dX12_bought_37 ?_
      refine g_sub h [2, 3, 4, 5, 6, 1, 0] rfl ?_
      exact kX12_bought_l39 h zE ih _ _ _ _ _ _ _ _ _ zf

theorem kX12_bought_e0 {G : GX} (h : OKm G cX12_bought RX12 7 (some .int) { frames := 7, cells := 4, slots := 24, locals := 182 }) (zE : OKe G) {M : Mem} {x1 : Int32} {res : (Except Nat Int32)} (zf : fX12_bought M x1 = some res) : GG G (QmX G (okx (fun zr => Pri zr M) res) (erx res) M 4 24) 0 0 0 [(0, rv G.1 0), (1, .int x1)] [] M := by
  unfold fX12_bought at zf
  refine g_aload_n h 0 rfl dX12_bought_0 ?_
  refine g_iload_n h 1 rfl dX12_bought_1 ?_
  refine g_iconst h 1 (v := 1) (by decide) dX12_bought_2 ?_
  refine g_xneed (As := [.int x1, .int 1]) (rest := []) h zE zf ceX12_needWhat mlX12_261 imX12_needWhat seX12_needWhat (by rfl) (by decide) (ent_10 (by decide)) rfl rfl ⟨by decide, by decide⟩ ⟨by decide, by decide⟩ rfl (by decide) (by decide) dX12_bought_3 rfl (Nat.le_of_ble_eq_true rfl) (fun q zq => cxX12_needWhat zE.1 zq) ?_
  clear zf; intro zf
  refine g_iconst h 0 (v := 0) (by decide) dX12_bought_6 ?_
  refine g_istore_n h rfl [(2, .int 0), (0, rv G.1 0), (1, .int x1)] (by decide) rfl dX12_bought_7 ?_
  refine g_iconst h 0 (v := 0) (by decide) dX12_bought_8 ?_
  refine g_istore_n h rfl [(3, .int 0), (2, .int 0), (0, rv G.1 0), (1, .int x1)] (by decide) rfl dX12_bought_9 ?_
  refine g_iconst h 0 (v := 0) (by decide) dX12_bought_10 ?_
  refine g_istore h [(4, .int 0), (3, .int 0), (2, .int 0), (0, rv G.1 0), (1, .int x1)] (by decide) rfl dX12_bought_11 ?_
  refine g_cs h (kc' := 3) (ks' := 18) (by decide) (by decide) ?_
  refine g_sub h [3, 4, 2, 1, 0] rfl ?_
  exact kX12_bought_l13 h zE _ _ _ _ _ _ _ zf

theorem cxX12_bought {l : Launch} (zl : l.stackTraces = false) {w : WX} {M : Mem} {x1 : Int32} {res : (Except Nat Int32)} (zf : fX12_bought M x1 = some res) : CX l w yX12_bought cX12_bought 7 (some .int) { frames := 7, cells := 4, slots := 24, locals := 182 } 4 24 [rv w 0, .int x1] M (okx (fun zr => Pri zr M) res) (erx res) := by
  refine CX_of zl (by decide) (Nat.le_of_ble_eq_true rfl) (fun G hw hl h zE => ?_)
  subst hw
  exact kX12_bought_e0 h zE zf

-- X12_needBrother
theorem kX12_needBrother_e0 {G : GX} (h : OKm G cX12_needBrother RX12 2 none { frames := 6, cells := 1, slots := 6, locals := 160 }) (zE : OKe G) {M : Mem} {x1 : Int32} {res : (Except Nat Unit)} (zf : fX12_needBrother M x1 = some res) : GG G (QmX G (okx (fun _ => Pnn M) res) (erx res) M 1 6) 0 0 0 [(0, rv G.1 0), (1, .int x1)] [] M := by
  unfold fX12_needBrother at zf
  refine g_iload_n h 1 rfl dX12_needBrother_0 ?_
  refine g_if_eq h 19 (by decide) zf dX12_needBrother_1 ?_ ?_ <;> clear zf <;> intro zf
  · obtain rfl := Option.some.inj zf
    refine g_ret ?_
    exact g_vret h rfl ⟨_, rfl, rfl, rfl⟩ (Nat.le_of_ble_eq_true rfl) (Nat.le_of_ble_eq_true rfl) dX12_needBrother_19
  · refine g_iload_n h 1 rfl dX12_needBrother_4 ?_
    refine g_iconst h 1 (v := 1) (by decide) dX12_needBrother_5 ?_
    refine g_ic_eq h 19 (by decide) zf dX12_needBrother_6 ?_ ?_ <;> clear zf <;> intro zf
    · obtain rfl := Option.some.inj zf
      refine g_ret ?_
      exact g_vret h rfl ⟨_, rfl, rfl, rfl⟩ (Nat.le_of_ble_eq_true rfl) (Nat.le_of_ble_eq_true rfl) dX12_needBrother_19
    · obtain rfl := Option.some.inj zf
      exact g_throwN h zE rfl clX12_168 initNSE (by decide +kernel : (RX12, 232, "no such brother") ∈ wMs) hatX12_172 dX12_needBrother_9 dX12_needBrother_12 dX12_needBrother_13 dX12_needBrother_15 dX12_needBrother_18 (by decide) (Nat.le_of_ble_eq_true rfl) (by decide) (by decide) (by decide) (by decide)

theorem cxX12_needBrother {l : Launch} (zl : l.stackTraces = false) {w : WX} {M : Mem} {x1 : Int32} {res : (Except Nat Unit)} (zf : fX12_needBrother M x1 = some res) : CX l w yX12_needBrother cX12_needBrother 2 none { frames := 6, cells := 1, slots := 6, locals := 160 } 1 6 [rv w 0, .int x1] M (okx (fun _ => Pnn M) res) (erx res) := by
  refine CX_of zl (by decide) (Nat.le_of_ble_eq_true rfl) (fun G hw hl h zE => ?_)
  subst hw
  exact kX12_needBrother_e0 h zE zf

-- X12_brother
theorem kX12_brother_e0 {G : GX} (h : OKm G cX12_brother RX12 3 (some .int) { frames := 7, cells := 4, slots := 24, locals := 181 }) (zE : OKe G) {M : Mem} {x1 : Int32} {x2 : Int32} {res : (Except Nat (Int32 × Mem))} (zf : fX12_brother M x1 x2 = some res) : GG G (QmX G (okx Pwi res) (erx res) M 4 24) 0 0 0 [(0, rv G.1 0), (1, .int x1), (2, .int x2)] [] M := by
  unfold fX12_brother at zf
  refine g_aload_n h 0 rfl dX12_brother_0 ?_
  refine g_iload_n h 1 rfl dX12_brother_1 ?_
  refine g_xneed (As := [.int x1]) (rest := []) h zE zf ceX12_needBrother mlX12_188 imX12_needBrother seX12_needBrother (by rfl) (by decide) (ent_10 (by decide)) rfl rfl ⟨by decide, by decide⟩ ⟨by decide, by decide⟩ rfl (by decide) (by decide) dX12_brother_2 rfl (Nat.le_of_ble_eq_true rfl) (fun q zq => cxX12_needBrother zE.1 zq) ?_
  clear zf; intro zf
  refine g_iload_n h 2 rfl dX12_brother_5 ?_
  by_cases zx0 : x2 = 0
  · rw [if_pos zx0] at zf
    refine g_tabIn h (off := 38) 44 (by rw [zx0]; decide) (by rw [zx0]; decide) (by rw [zx0]; decide) (by decide) dX12_brother_6 ?_
    refine g_aload_n h 0 rfl dX12_brother_44 ?_
    refine gfX12_52 h (by decide : kd 0 = 10) dX12_brother_45 ?_
    refine gfX12_191 h (by decide : kd 81 = 2) dX12_brother_48 ?_
    change GG G _ _ _ _ _ (rv G.1 83 :: _) _
    refine g_iload_n h 1 rfl dX12_brother_51 ?_
    refine g_iald h 2 (by decide : kd 83 = 20) (by decide) zf dX12_brother_52 ?_
    clear zf; intro vq1 zf
    obtain rfl := Option.some.inj zf
    refine g_ret ?_
    exact g_iret h rfl ⟨_, rfl, rfl, rfl⟩ (Nat.le_of_ble_eq_true rfl) (Nat.le_of_ble_eq_true rfl) dX12_brother_53
  rw [if_neg zx0] at zf
  have zy0 : x2.toInt ≠ 0 := fun q => zx0 (Int32.toInt_inj.mp (by rw [q]; rfl))
  by_cases zx1 : x2 = 1
  · rw [if_pos zx1] at zf
    refine g_tabIn h (off := 48) 54 (by rw [zx1]; decide) (by rw [zx1]; decide) (by rw [zx1]; decide) (by decide) dX12_brother_6 ?_
    refine g_aload_n h 0 rfl dX12_brother_54 ?_
    refine gfX12_52 h (by decide : kd 0 = 10) dX12_brother_55 ?_
    refine gfX12_192 h (by decide : kd 81 = 2) dX12_brother_58 ?_
    change GG G _ _ _ _ _ (rv G.1 82 :: _) _
    refine g_iload_n h 1 rfl dX12_brother_61 ?_
    refine g_iald h 2 (by decide : kd 82 = 20) (by decide) zf dX12_brother_62 ?_
    clear zf; intro vq2 zf
    obtain rfl := Option.some.inj zf
    refine g_ret ?_
    exact g_iret h rfl ⟨_, rfl, rfl, rfl⟩ (Nat.le_of_ble_eq_true rfl) (Nat.le_of_ble_eq_true rfl) dX12_brother_63
  rw [if_neg zx1] at zf
  have zy1 : x2.toInt ≠ 1 := fun q => zx1 (Int32.toInt_inj.mp (by rw [q]; rfl))
  by_cases zx2 : x2 = 2
  · rw [if_pos zx2] at zf
    refine g_tabIn h (off := 58) 64 (by rw [zx2]; decide) (by rw [zx2]; decide) (by rw [zx2]; decide) (by decide) dX12_brother_6 ?_
    refine g_aload_n h 0 rfl dX12_brother_64 ?_
    refine gfX12_36 h (by decide : kd 0 = 10) dX12_brother_65 ?_
    refine gfX12_111 h (by decide : kd 28 = 6) dX12_brother_68 ?_
    refine g_nmR zf ?_
    clear zf; intro oq3 zf
    have zf1 := pre_ck zf
    clear zf; obtain ⟨zk_oq3, zf⟩ := zf1
    refine gfX12_195 h zk_oq3 dX12_brother_71 ?_
    refine g_iload_n h 1 rfl dX12_brother_74 ?_
    refine g_iald h 2 (kf4_5 zk_oq3) (lf4_5 zk_oq3) zf dX12_brother_75 ?_
    clear zf; intro vq4 zf
    obtain rfl := Option.some.inj zf
    refine g_ret ?_
    exact g_iret h rfl ⟨_, rfl, rfl, rfl⟩ (Nat.le_of_ble_eq_true rfl) (Nat.le_of_ble_eq_true rfl) dX12_brother_76
  rw [if_neg zx2] at zf
  have zy2 : x2.toInt ≠ 2 := fun q => zx2 (Int32.toInt_inj.mp (by rw [q]; rfl))
  by_cases zx3 : x2 = 3
  · rw [if_pos zx3] at zf
    refine g_tabIn h (off := 71) 77 (by rw [zx3]; decide) (by rw [zx3]; decide) (by rw [zx3]; decide) (by decide) dX12_brother_6 ?_
    refine g_aload_n h 0 rfl dX12_brother_77 ?_
    refine gfX12_36 h (by decide : kd 0 = 10) dX12_brother_78 ?_
    refine g_aload_n h 0 rfl dX12_brother_81 ?_
    refine gfX12_52 h (by decide : kd 0 = 10) dX12_brother_82 ?_
    refine g_iload_n h 1 rfl dX12_brother_85 ?_
    have zf1 := b2_some zf
    clear zf; obtain ⟨vq5, Mq6, zq, zf⟩ := zf1
    refine g_callVwi (As := [rv G.1 81, .int x1]) (rest := []) h ceX7_followers mlX12_198 imX7_followers seX7_followers (by rfl) (kd_lt (by rw [(by decide : kd 28 = 6)]; decide)) (ent_6 (by decide : kd 28 = 6)) rfl rfl ⟨by decide, by decide⟩ ⟨by decide, by decide⟩ rfl dX12_brother_86 rfl (Nat.le_of_ble_eq_true rfl) (cmX7_followers zq) ?_
    obtain rfl := Option.some.inj zf
    refine g_ret ?_
    exact g_iret h rfl ⟨_, rfl, rfl, rfl⟩ (Nat.le_of_ble_eq_true rfl) (Nat.le_of_ble_eq_true rfl) dX12_brother_89
  rw [if_neg zx3] at zf
  have zy3 : x2.toInt ≠ 3 := fun q => zx3 (Int32.toInt_inj.mp (by rw [q]; rfl))
  by_cases zx4 : x2 = 4
  · rw [if_pos zx4] at zf
    refine g_tabIn h (off := 84) 90 (by rw [zx4]; decide) (by rw [zx4]; decide) (by rw [zx4]; decide) (by decide) dX12_brother_6 ?_
    refine g_aload_n h 0 rfl dX12_brother_90 ?_
    refine gfX12_36 h (by decide : kd 0 = 10) dX12_brother_91 ?_
    refine g_aload_n h 0 rfl dX12_brother_94 ?_
    refine gfX12_36 h (by decide : kd 0 = 10) dX12_brother_95 ?_
    refine g_aload_n h 0 rfl dX12_brother_98 ?_
    refine gfX12_52 h (by decide : kd 0 = 10) dX12_brother_99 ?_
    refine g_iload_n h 1 rfl dX12_brother_102 ?_
    have zf1 := b2_some zf
    clear zf; obtain ⟨vq7, Mq8, zq, zf⟩ := zf1
    refine g_callVwi (As := [rv G.1 81, .int x1]) (rest := [rv G.1 28]) h ceX7_followers mlX12_198 imX7_followers seX7_followers (by rfl) (kd_lt (by rw [(by decide : kd 28 = 6)]; decide)) (ent_6 (by decide : kd 28 = 6)) rfl rfl ⟨by decide, by decide⟩ ⟨by decide, by decide⟩ rfl dX12_brother_103 rfl (Nat.le_of_ble_eq_true rfl) (cmX7_followers zq) ?_
    have zf1 := bd_some zf
    clear zf; obtain ⟨vq9, zq, zf⟩ := zf1
    refine g_callVri (As := [.int vq7]) (rest := []) h ceX7_menOf mlX12_202 imX7_menOf seX7_menOf (by rfl) (kd_lt (by rw [(by decide : kd 28 = 6)]; decide)) (ent_6 (by decide : kd 28 = 6)) rfl rfl ⟨by decide, by decide⟩ ⟨by decide, by decide⟩ rfl dX12_brother_106 rfl (Nat.le_of_ble_eq_true rfl) (cmX7_menOf zq) ?_
    obtain rfl := Option.some.inj zf
    refine g_ret ?_
    exact g_iret h rfl ⟨_, rfl, rfl, rfl⟩ (Nat.le_of_ble_eq_true rfl) (Nat.le_of_ble_eq_true rfl) dX12_brother_109
  rw [if_neg zx4] at zf
  have zy4 : x2.toInt ≠ 4 := fun q => zx4 (Int32.toInt_inj.mp (by rw [q]; rfl))
  by_cases zx5 : x2 = 5
  · rw [if_pos zx5] at zf
    refine g_tabIn h (off := 104) 110 (by rw [zx5]; decide) (by rw [zx5]; decide) (by rw [zx5]; decide) (by decide) dX12_brother_6 ?_
    refine g_aload_n h 0 rfl dX12_brother_110 ?_
    refine gfX12_36 h (by decide : kd 0 = 10) dX12_brother_111 ?_
    refine g_aload_n h 0 rfl dX12_brother_114 ?_
    refine gfX12_52 h (by decide : kd 0 = 10) dX12_brother_115 ?_
    refine g_iload_n h 1 rfl dX12_brother_118 ?_
    have zf1 := bd_some zf
    clear zf; obtain ⟨vq10, zq, zf⟩ := zf1
    refine g_callVri (As := [rv G.1 81, .int x1]) (rest := []) h ceX7_wayDeed mlX12_205 imX7_wayDeed seX7_wayDeed (by rfl) (kd_lt (by rw [(by decide : kd 28 = 6)]; decide)) (ent_6 (by decide : kd 28 = 6)) rfl rfl ⟨by decide, by decide⟩ ⟨by decide, by decide⟩ rfl dX12_brother_119 rfl (Nat.le_of_ble_eq_true rfl) (cmX7_wayDeed zq) ?_
    obtain rfl := Option.some.inj zf
    refine g_ret ?_
    exact g_iret h rfl ⟨_, rfl, rfl, rfl⟩ (Nat.le_of_ble_eq_true rfl) (Nat.le_of_ble_eq_true rfl) dX12_brother_122
  rw [if_neg zx5] at zf
  have zy5 : x2.toInt ≠ 5 := fun q => zx5 (Int32.toInt_inj.mp (by rw [q]; rfl))
  refine g_tabOut h 123 (by omega) (by decide) dX12_brother_6 ?_
  obtain rfl := Option.some.inj zf
  exact g_throwN h zE rfl clX12_168 initNSE (by decide +kernel : (RX12, 170, "what") ∈ wMs) hatX12_172 dX12_brother_123 dX12_brother_126 dX12_brother_127 dX12_brother_129 dX12_brother_132 (by decide) (Nat.le_of_ble_eq_true rfl) (by decide) (by decide) (by decide) (by decide)

theorem cxX12_brother {l : Launch} (zl : l.stackTraces = false) {w : WX} {M : Mem} {x1 : Int32} {x2 : Int32} {res : (Except Nat (Int32 × Mem))} (zf : fX12_brother M x1 x2 = some res) : CX l w yX12_brother cX12_brother 3 (some .int) { frames := 7, cells := 4, slots := 24, locals := 181 } 4 24 [rv w 0, .int x1, .int x2] M (okx Pwi res) (erx res) := by
  refine CX_of zl (by decide) (Nat.le_of_ble_eq_true rfl) (fun G hw hl h zE => ?_)
  subst hw
  exact kX12_brother_e0 h zE zf

-- X12_needDeed
theorem kX12_needDeed_b18 {G : GX} (h : OKm G cX12_needDeed RX12 2 none { frames := 6, cells := 1, slots := 6, locals := 160 }) (zE : OKe G) {M : Mem} {res : (Except Nat Unit)} (zf : fX12_needDeed_b18 M = some res) : GG G (QmX G (okx (fun _ => Pnn M) res) (erx res) M 1 6) 0 0 18 [] [] M := by
  unfold fX12_needDeed_b18 at zf
  obtain rfl := Option.some.inj zf
  exact g_throwN h zE rfl clX12_168 initNSE (by decide +kernel : (RX12, 230, "no such deed") ∈ wMs) hatX12_172 dX12_needDeed_18 dX12_needDeed_21 dX12_needDeed_22 dX12_needDeed_24 dX12_needDeed_27 (by decide) (Nat.le_of_ble_eq_true rfl) (by decide) (by decide) (by decide) (by decide)

theorem kX12_needDeed_e0 {G : GX} (h : OKm G cX12_needDeed RX12 2 none { frames := 6, cells := 1, slots := 6, locals := 160 }) (zE : OKe G) {M : Mem} {x1 : Int32} {res : (Except Nat Unit)} (zf : fX12_needDeed M x1 = some res) : GG G (QmX G (okx (fun _ => Pnn M) res) (erx res) M 1 6) 0 0 0 [(0, rv G.1 0), (1, .int x1)] [] M := by
  unfold fX12_needDeed at zf
  refine g_iload_n h 1 rfl dX12_needDeed_0 ?_
  refine g_if_lt h 18 (by decide) zf dX12_needDeed_1 ?_ ?_ <;> clear zf <;> intro zf
  · refine g_sub h [] rfl ?_
    exact kX12_needDeed_b18 h zE zf
  · refine g_iload_n h 1 rfl dX12_needDeed_4 ?_
    refine g_aload_n h 0 rfl dX12_needDeed_5 ?_
    refine gfX12_36 h (by decide : kd 0 = 10) dX12_needDeed_6 ?_
    refine gfX12_111 h (by decide : kd 28 = 6) dX12_needDeed_9 ?_
    refine g_nmR zf ?_
    clear zf; intro oq1 zf
    have zf1 := pre_ck zf
    clear zf; obtain ⟨zk_oq1, zf⟩ := zf1
    refine gfX12_150 h zk_oq1 dX12_needDeed_12 ?_
    refine g_nmI zf ?_
    clear zf; intro vq2 zf
    refine g_ic_lt h 28 (by decide) zf dX12_needDeed_15 ?_ ?_ <;> clear zf <;> intro zf
    · obtain rfl := Option.some.inj zf
      refine g_ret ?_
      exact g_vret h rfl ⟨_, rfl, rfl, rfl⟩ (Nat.le_of_ble_eq_true rfl) (Nat.le_of_ble_eq_true rfl) dX12_needDeed_28
    · refine g_sub h [] rfl ?_
      exact kX12_needDeed_b18 h zE zf

theorem cxX12_needDeed {l : Launch} (zl : l.stackTraces = false) {w : WX} {M : Mem} {x1 : Int32} {res : (Except Nat Unit)} (zf : fX12_needDeed M x1 = some res) : CX l w yX12_needDeed cX12_needDeed 2 none { frames := 6, cells := 1, slots := 6, locals := 160 } 1 6 [rv w 0, .int x1] M (okx (fun _ => Pnn M) res) (erx res) := by
  refine CX_of zl (by decide) (Nat.le_of_ble_eq_true rfl) (fun G hw hl h zE => ?_)
  subst hw
  exact kX12_needDeed_e0 h zE zf

-- X12_change
theorem kX12_change_e0 {G : GX} (h : OKm G cX12_change RX12 6 (some .int) { frames := 7, cells := 4, slots := 24, locals := 243 }) (zE : OKe G) {M : Mem} {x1 : Int32} {x2 : Int32} {x3 : Int32} {res : (Except Nat (Int32 × Mem))} (zf : fX12_change M x1 x2 x3 = some res) : GG G (QmX G (okx Pwi res) (erx res) M 4 24) 0 0 0 [(0, rv G.1 0), (1, .int x1), (2, .int x2), (3, .int x3)] [] M := by
  unfold fX12_change at zf
  refine g_aload_n h 0 rfl dX12_change_0 ?_
  refine g_iload_n h 1 rfl dX12_change_1 ?_
  refine g_xneed (As := [.int x1]) (rest := []) h zE zf ceX12_needBrother mlX12_188 imX12_needBrother seX12_needBrother (by rfl) (by decide) (ent_10 (by decide)) rfl rfl ⟨by decide, by decide⟩ ⟨by decide, by decide⟩ rfl (by decide) (by decide) dX12_change_2 rfl (Nat.le_of_ble_eq_true rfl) (fun q zq => cxX12_needBrother zE.1 zq) ?_
  clear zf; intro zf
  refine g_aload_n h 0 rfl dX12_change_5 ?_
  refine g_iload_n h 3 rfl dX12_change_6 ?_
  refine g_xneed (As := [.int x3]) (rest := []) h zE zf ceX12_needDeed mlX12_173 imX12_needDeed seX12_needDeed (by rfl) (by decide) (ent_10 (by decide)) rfl rfl ⟨by decide, by decide⟩ ⟨by decide, by decide⟩ rfl (by decide) (by decide) dX12_change_7 rfl (Nat.le_of_ble_eq_true rfl) (fun q zq => cxX12_needDeed zE.1 zq) ?_
  clear zf; intro zf
  refine g_aload_n h 0 rfl dX12_change_10 ?_
  refine g_iload_n h 1 rfl dX12_change_11 ?_
  refine g_iload_n h 2 rfl dX12_change_12 ?_
  have zf1 := bd_some zf
  clear zf; obtain ⟨vq1, zq, zf⟩ := zf1
  refine g_callVri (As := [.int x1, .int x2]) (rest := []) h ceX12_hasPlace mlX12_208 imX12_hasPlace seX12_hasPlace (by rfl) (kd_lt (by rw [(by decide : kd 0 = 10)]; decide)) (ent_10 (by decide : kd 0 = 10)) rfl rfl ⟨by decide, by decide⟩ ⟨by decide, by decide⟩ rfl dX12_change_13 rfl (Nat.le_of_ble_eq_true rfl) (cmX12_hasPlace zq) ?_
  refine g_if_ne h 25 (by decide) zf dX12_change_16 ?_ ?_ <;> clear zf <;> intro zf
  · refine g_aload_n h 0 rfl dX12_change_25 ?_
    refine gfX12_62 h (by decide : kd 0 = 10) dX12_change_26 ?_
    refine g_aload_n h 0 rfl dX12_change_29 ?_
    refine gfX12_52 h (by decide : kd 0 = 10) dX12_change_30 ?_
    have zf1 := bd_some zf
    clear zf; obtain ⟨Mq2, zq, zf⟩ := zf1
    refine g_callVwv (As := [rv G.1 81]) (rest := []) h ceX1_keep mlX12_241 imX1_keep seX1_keep (by rfl) (kd_lt (by rw [(by decide : kd 91 = 0)]; decide)) (ent_0 (by decide : kd 91 = 0)) rfl rfl ⟨by decide, by decide⟩ ⟨by decide, by decide⟩ rfl dX12_change_33 rfl (Nat.le_of_ble_eq_true rfl) (cmX1_keep zq) ?_
    refine g_iload_n h 1 rfl dX12_change_36 ?_
    refine g_bipush h 6 (v := 6) (by decide) dX12_change_37 ?_
    refine g_imul h dX12_change_39 ?_
    refine g_iload_n h 2 rfl dX12_change_40 ?_
    refine g_iadd h dX12_change_41 ?_
    refine g_nmI zf ?_
    clear zf; intro vq3 zf
    refine g_istore h [(4, .int vq3), (0, rv G.1 0), (1, .int x1), (2, .int x2), (3, .int x3)] (by decide) rfl dX12_change_42 ?_
    refine g_aload_n h 1 rfl dX12_change_44 ?_
    refine gfX12_52 h (by decide : kd 0 = 10) dX12_change_45 ?_
    refine gfX12_214 h (by decide : kd 81 = 2) dX12_change_48 ?_
    change GG G _ _ _ _ _ (rv G.1 84 :: _) _
    refine g_iload h 0 rfl dX12_change_51 ?_
    refine g_iald h 12 (by decide : kd 84 = 20) (by decide) zf dX12_change_53 ?_
    clear zf; intro vq4 zf
    refine g_istore h [(5, .int vq4), (4, .int vq3), (0, rv G.1 0), (1, .int x1), (2, .int x2), (3, .int x3)] (by decide) rfl dX12_change_54 ?_
    refine g_aload_n h 2 rfl dX12_change_56 ?_
    refine gfX12_52 h (by decide : kd 0 = 10) dX12_change_57 ?_
    refine gfX12_214 h (by decide : kd 81 = 2) dX12_change_60 ?_
    change GG G _ _ _ _ _ (rv G.1 84 :: _) _
    refine g_iload h 1 rfl dX12_change_63 ?_
    refine g_iload_n h 5 rfl dX12_change_65 ?_
    refine g_iast h 12 (by decide : kd 84 = 20) (by decide) zf dX12_change_66 ?_
    clear zf; intro Mq5 zf
    refine g_iload h 0 rfl dX12_change_67 ?_
    obtain rfl := Option.some.inj zf
    refine g_ret ?_
    exact g_iret h rfl ⟨_, rfl, rfl, rfl⟩ (Nat.le_of_ble_eq_true rfl) (Nat.le_of_ble_eq_true rfl) dX12_change_69
  · refine g_aload_n h 0 rfl dX12_change_19 ?_
    refine g_iconst h 1 (v := 1) (by decide) dX12_change_20 ?_
    have zf1 := b2_some zf
    clear zf; obtain ⟨vq6, Mq7, zq, zf⟩ := zf1
    refine g_callVwi (As := [.int 1]) (rest := []) h ceX12_refuse mlX12_238 imX12_refuse seX12_refuse (by rfl) (kd_lt (by rw [(by decide : kd 0 = 10)]; decide)) (ent_10 (by decide : kd 0 = 10)) rfl rfl ⟨by decide, by decide⟩ ⟨by decide, by decide⟩ rfl dX12_change_21 rfl (Nat.le_of_ble_eq_true rfl) (cmX12_refuse zq) ?_
    obtain rfl := Option.some.inj zf
    refine g_ret ?_
    exact g_iret h rfl ⟨_, rfl, rfl, rfl⟩ (Nat.le_of_ble_eq_true rfl) (Nat.le_of_ble_eq_true rfl) dX12_change_24

theorem cxX12_change {l : Launch} (zl : l.stackTraces = false) {w : WX} {M : Mem} {x1 : Int32} {x2 : Int32} {x3 : Int32} {res : (Except Nat (Int32 × Mem))} (zf : fX12_change M x1 x2 x3 = some res) : CX l w yX12_change cX12_change 6 (some .int) { frames := 7, cells := 4, slots := 24, locals := 243 } 4 24 [rv w 0, .int x1, .int x2, .int x3] M (okx Pwi res) (erx res) := by
  refine CX_of zl (by decide) (Nat.le_of_ble_eq_true rfl) (fun G hw hl h zE => ?_)
  subst hw
  exact kX12_change_e0 h zE zf

-- X12_needWithin
theorem kX12_needWithin_b10 {G : GX} (h : OKm G cX12_needWithin RX12 4 none { frames := 6, cells := 1, slots := 6, locals := 160 }) (zE : OKe G) {M : Mem} {res : (Except Nat Unit)} (zf : fX12_needWithin_b10 M = some res) : GG G (QmX G (okx (fun _ => Pnn M) res) (erx res) M 1 6) 0 0 10 [] [] M := by
  unfold fX12_needWithin_b10 at zf
  obtain rfl := Option.some.inj zf
  exact g_throwS h zE 2 rfl rfl (by decide +kernel) clX12_93 initIAE (by decide +kernel : (RX12, 236, "not within its bounds") ∈ wMs) hatX12_97 dX12_needWithin_10 dX12_needWithin_13 dX12_needWithin_14 dX12_needWithin_16 dX12_needWithin_19 (by decide) (Nat.le_of_ble_eq_true rfl) (by decide) (by decide) (by decide) (by decide)

theorem kX12_needWithin_e0 {G : GX} (h : OKm G cX12_needWithin RX12 4 none { frames := 6, cells := 1, slots := 6, locals := 160 }) (zE : OKe G) {M : Mem} {x1 : Int32} {x2 : Int32} {x3 : Int32} {res : (Except Nat Unit)} (zf : fX12_needWithin M x1 x2 x3 = some res) : GG G (QmX G (okx (fun _ => Pnn M) res) (erx res) M 1 6) 0 0 0 [(0, rv G.1 0), (1, .int x1), (2, .int x2), (3, .int x3)] [] M := by
  unfold fX12_needWithin at zf
  refine g_iload_n h 1 rfl dX12_needWithin_0 ?_
  refine g_iload_n h 2 rfl dX12_needWithin_1 ?_
  refine g_ic_lt h 10 (by decide) zf dX12_needWithin_2 ?_ ?_ <;> clear zf <;> intro zf
  · refine g_sub h [] rfl ?_
    exact kX12_needWithin_b10 h zE zf
  · refine g_iload_n h 1 rfl dX12_needWithin_5 ?_
    refine g_iload_n h 3 rfl dX12_needWithin_6 ?_
    refine g_ic_le h 20 (by decide) zf dX12_needWithin_7 ?_ ?_ <;> clear zf <;> intro zf
    · obtain rfl := Option.some.inj zf
      refine g_ret ?_
      exact g_vret h rfl ⟨_, rfl, rfl, rfl⟩ (Nat.le_of_ble_eq_true rfl) (Nat.le_of_ble_eq_true rfl) dX12_needWithin_20
    · refine g_sub h [] rfl ?_
      exact kX12_needWithin_b10 h zE zf

theorem cxX12_needWithin {l : Launch} (zl : l.stackTraces = false) {w : WX} {M : Mem} {x1 : Int32} {x2 : Int32} {x3 : Int32} {res : (Except Nat Unit)} (zf : fX12_needWithin M x1 x2 x3 = some res) : CX l w yX12_needWithin cX12_needWithin 4 none { frames := 6, cells := 1, slots := 6, locals := 160 } 1 6 [rv w 0, .int x1, .int x2, .int x3] M (okx (fun _ => Pnn M) res) (erx res) := by
  refine CX_of zl (by decide) (Nat.le_of_ble_eq_true rfl) (fun G hw hl h zE => ?_)
  subst hw
  exact kX12_needWithin_e0 h zE zf

-- X12_cities
theorem kX12_cities_b87 {G : GX} (h : OKm G cX12_cities RX12 7 (some .int) { frames := 8, cells := 4, slots := 24, locals := 221 }) (zE : OKe G) {M0 : Mem} {a31 : Mem → Int32 → Int32 → Int32 → Int32 → Option (Except Nat (Int32 × Mem))} (zh31 : ∀ (M : Mem) (x2 : Int32) (x3 : Int32) (x4 : Int32) (x5 : Int32) (res : (Except Nat (Int32 × Mem))), a31 M x2 x3 x4 x5 = some res → GG G (QmX G (okx Pwi res) (erx res) M0 4 24) 3 18 31 [(0, rv G.1 0), (2, .int x2), (3, .int x3), (4, .int x4), (5, .int x5)] [] M) {M : Mem} {x2 : Int32} {x3 : Int32} {x4 : Int32} {x5 : Int32} {x6 : Int32} {res : (Except Nat (Int32 × Mem))} (zf : fX12_cities_b87 a31 M x2 x3 x4 x5 x6 = some res) : GG G (QmX G (okx Pwi res) (erx res) M0 4 24) 3 18 87 [(0, rv G.1 0), (2, .int x2), (3, .int x3), (4, .int x4), (5, .int x5), (6, .int x6)] [] M := by
  unfold fX12_cities_b87 at zf
  refine g_aload_n h 0 rfl dX12_cities_87 ?_
  refine gfX12_36 h (by decide : kd 0 = 10) dX12_cities_88 ?_
  refine g_aload_n h 0 rfl dX12_cities_91 ?_
  refine gfX12_56 h (by decide : kd 0 = 10) dX12_cities_92 ?_
  refine g_iload h 5 rfl dX12_cities_95 ?_
  refine g_aload_n h 0 rfl dX12_cities_97 ?_
  refine gfX12_36 h (by decide : kd 0 = 10) dX12_cities_98 ?_
  refine g_aload_n h 0 rfl dX12_cities_101 ?_
  refine gfX12_56 h (by decide : kd 0 = 10) dX12_cities_102 ?_
  refine g_aload_n h 0 rfl dX12_cities_105 ?_
  refine gfX12_56 h (by decide : kd 0 = 10) dX12_cities_106 ?_
  refine gfX12_135 h (by decide : kd 86 = 2) dX12_cities_109 ?_
  refine g_nmI zf ?_
  clear zf; intro vq9 zf
  have zf1 := bd_some zf
  clear zf; obtain ⟨vq10, zq, zf⟩ := zf1
  refine g_callVri (As := [rv G.1 86, .int vq9]) (rest := [.int x6, rv G.1 86, rv G.1 28]) h ceX7_wayDeed mlX12_205 imX7_wayDeed seX7_wayDeed (by rfl) (kd_lt (by rw [(by decide : kd 28 = 6)]; decide)) (ent_6 (by decide : kd 28 = 6)) rfl rfl ⟨by decide, by decide⟩ ⟨by decide, by decide⟩ rfl dX12_cities_112 rfl (Nat.le_of_ble_eq_true rfl) (cmX7_wayDeed zq) ?_
  have zf1 := b2_some zf
  clear zf; obtain ⟨vq11, Mq12, zq, zf⟩ := zf1
  refine g_callVwi (As := [rv G.1 86, .int x6, .int vq10]) (rest := []) h ceX7_live mlX12_358 imX7_live seX7_live (by rfl) (kd_lt (by rw [(by decide : kd 28 = 6)]; decide)) (ent_6 (by decide : kd 28 = 6)) rfl rfl ⟨by decide, by decide⟩ ⟨by decide, by decide⟩ rfl dX12_cities_115 rfl (Nat.le_of_ble_eq_true rfl) (cmX7_live zq) ?_
  refine g_pop h rfl dX12_cities_118 ?_
  refine g_iinc h 5 4 rfl (v := x5 + 1) (congrArg (fun z => x5 + z) (by decide : Int32.ofInt (1) = (1 : Int32))) [(5, .int (x5 + 1)), (0, rv G.1 0), (2, .int x2), (3, .int x3), (4, .int x4), (6, .int x6)] (by decide) rfl dX12_cities_119 ?_
  refine g_nmV zf ?_
  clear zf; intro vq13 zf
  refine g_goto h 31 (by decide) dX12_cities_122 ?_
  refine g_sub h [1, 2, 3, 4, 0] rfl ?_
  exact zh31 _ _ _ _ _ _ zf

theorem kX12_cities_l31 {G : GX} (h : OKm G cX12_cities RX12 7 (some .int) { frames := 8, cells := 4, slots := 24, locals := 221 }) (zE : OKe G) {M0 : Mem} : ∀ (n : Nat) (M : Mem) (x2 : Int32) (x3 : Int32) (x4 : Int32) (x5 : Int32) (res : (Except Nat (Int32 × Mem))), fX12_cities_l31 n M x2 x3 x4 x5 = some res → GG G (QmX G (okx Pwi res) (erx res) M0 4 24) 3 18 31 [(0, rv G.1 0), (2, .int x2), (3, .int x3), (4, .int x4), (5, .int x5)] [] M := by
  intro n
  induction n with
  | zero => intro M x2 x3 x4 x5 res zf; rw [fX12_cities_l31] at zf; cases zf
  | succ n ih =>
    intro M x2 x3 x4 x5 res zf
    rw [fX12_cities_l31] at zf
    refine g_iload h 4 rfl dX12_cities_31 ?_
    refine g_iload_n h 1 rfl dX12_cities_33 ?_
    refine g_ic_ge h 125 (by decide) zf dX12_cities_34 ?_ ?_ <;> clear zf <;> intro zf
    · refine g_iload_n h 2 rfl dX12_cities_125 ?_
      by_cases zx0 : x3 = 0
      · rw [if_pos zx0] at zf
        refine g_lookup h (off := 26) 152 (by decide) (by rw [zx0]; decide) (by decide) dX12_cities_126 ?_
        refine g_aload_n h 0 rfl dX12_cities_152 ?_
        refine gfX12_56 h (by decide : kd 0 = 10) dX12_cities_153 ?_
        refine gfX12_123 h (by decide : kd 86 = 2) dX12_cities_156 ?_
        refine g_nmI zf ?_
        clear zf; intro vq2 zf
        obtain rfl := Option.some.inj zf
        refine g_ret ?_
        exact g_iret h rfl ⟨_, rfl, rfl, rfl⟩ (Nat.le_of_ble_eq_true rfl) (Nat.le_of_ble_eq_true rfl) dX12_cities_159
      rw [if_neg zx0] at zf
      have zy0 : x3.toInt ≠ 0 := fun q => zx0 (Int32.toInt_inj.mp (by rw [q]; rfl))
      by_cases zx1 : x3 = 1
      · rw [if_pos zx1] at zf
        refine g_lookup h (off := 34) 160 (by decide) (by rw [zx1]; decide) (by decide) dX12_cities_126 ?_
        refine g_aload_n h 0 rfl dX12_cities_160 ?_
        refine gfX12_56 h (by decide : kd 0 = 10) dX12_cities_161 ?_
        refine gfX12_129 h (by decide : kd 86 = 2) dX12_cities_164 ?_
        refine g_nmI zf ?_
        clear zf; intro vq3 zf
        obtain rfl := Option.some.inj zf
        refine g_ret ?_
        exact g_iret h rfl ⟨_, rfl, rfl, rfl⟩ (Nat.le_of_ble_eq_true rfl) (Nat.le_of_ble_eq_true rfl) dX12_cities_167
      rw [if_neg zx1] at zf
      have zy1 : x3.toInt ≠ 1 := fun q => zx1 (Int32.toInt_inj.mp (by rw [q]; rfl))
      refine g_lookup h (off := 42) 168 (by decide) (by simp [Op.lookupswitch.offset, Ne.symm zy0, zy0, Ne.symm zy1, zy1]) (by decide) dX12_cities_126 ?_
      refine g_aload_n h 0 rfl dX12_cities_168 ?_
      refine gfX12_56 h (by decide : kd 0 = 10) dX12_cities_169 ?_
      refine gfX12_191 h (by decide : kd 86 = 2) dX12_cities_172 ?_
      change GG G _ _ _ _ _ (rv G.1 88 :: _) _
      refine g_iconst h 0 (v := 0) (by decide) dX12_cities_175 ?_
      refine g_iald h 2 (by decide : kd 88 = 20) (by decide) zf dX12_cities_176 ?_
      clear zf; intro vq4 zf
      refine g_aload_n h 0 rfl dX12_cities_177 ?_
      refine gfX12_56 h (by decide : kd 0 = 10) dX12_cities_178 ?_
      refine gfX12_191 h (by decide : kd 86 = 2) dX12_cities_181 ?_
      change GG G _ _ _ _ _ (rv G.1 88 :: _) _
      refine g_iconst h 1 (v := 1) (by decide) dX12_cities_184 ?_
      refine g_iald h 2 (by decide : kd 88 = 20) (by decide) zf dX12_cities_185 ?_
      clear zf; intro vq5 zf
      refine g_isub h dX12_cities_186 ?_
      obtain rfl := Option.some.inj zf
      refine g_ret ?_
      exact g_iret h rfl ⟨_, rfl, rfl, rfl⟩ (Nat.le_of_ble_eq_true rfl) (Nat.le_of_ble_eq_true rfl) dX12_cities_187
    · refine g_iload h 3 rfl dX12_cities_37 ?_
      have zf1 := bd_some zf
      clear zf; obtain ⟨vq6, zq, zf⟩ := zf1
      refine g_callSri (As := [.int x4]) (rest := []) h ceX12_followingSeed mlX12_352 smX12_followingSeed rfl rfl ⟨by decide, by decide⟩ ⟨by decide, by decide⟩ rfl dX12_cities_39 rfl (Nat.le_of_ble_eq_true rfl) (cmX12_followingSeed zq) ?_
      refine g_istore h [(4, .int vq6), (0, rv G.1 0), (2, .int x2), (3, .int x3), (5, .int x5)] (by decide) rfl dX12_cities_42 ?_
      refine g_iload h 0 rfl dX12_cities_44 ?_
      refine g_bipush h 16 (v := 16) (by decide) dX12_cities_46 ?_
      refine g_iushr h dX12_cities_48 ?_
      refine g_sipush h 32767 (v := 32767) (by decide) dX12_cities_49 ?_
      refine g_iand h dX12_cities_52 ?_
      refine g_bipush h 60 (v := 60) (by decide) dX12_cities_53 ?_
      refine g_irem h (by decide) dX12_cities_55 ?_
      refine g_nmI zf ?_
      clear zf; intro vq7 zf
      refine g_istore h [(6, .int vq7), (4, .int vq6), (0, rv G.1 0), (2, .int x2), (3, .int x3), (5, .int x5)] (by decide) rfl dX12_cities_56 ?_
      refine g_iload h 1 rfl dX12_cities_58 ?_
      have zf1 := bd_some zf
      clear zf; obtain ⟨vq8, zq, zf⟩ := zf1
      refine g_callSri (As := [.int vq6]) (rest := []) h ceX12_followingSeed mlX12_352 smX12_followingSeed rfl rfl ⟨by decide, by decide⟩ ⟨by decide, by decide⟩ rfl dX12_cities_60 rfl (Nat.le_of_ble_eq_true rfl) (cmX12_followingSeed zq) ?_
      refine g_istore h [(4, .int vq8), (6, .int vq7), (0, rv G.1 0), (2, .int x2), (3, .int x3), (5, .int x5)] (by decide) rfl dX12_cities_63 ?_
      refine g_iload h 0 rfl dX12_cities_65 ?_
      refine g_bipush h 16 (v := 16) (by decide) dX12_cities_67 ?_
      refine g_iushr h dX12_cities_69 ?_
      refine g_sipush h 32767 (v := 32767) (by decide) dX12_cities_70 ?_
      refine g_iand h dX12_cities_73 ?_
      refine g_bipush h 9 (v := 9) (by decide) dX12_cities_74 ?_
      refine g_irem h (by decide) dX12_cities_76 ?_
      refine g_if_ne h 87 (by decide) zf dX12_cities_77 ?_ ?_ <;> clear zf <;> intro zf
      · refine g_sub h [2, 3, 4, 0, 5, 1] rfl ?_
        exact kX12_cities_b87 h zE ih zf
      · refine g_aload_n h 2 rfl dX12_cities_80 ?_
        refine gfX12_56 h (by decide : kd 0 = 10) dX12_cities_81 ?_
        have zf1 := bd_some zf
        clear zf; obtain ⟨Mq14, zq, zf⟩ := zf1
        refine g_callVwv (As := []) (rest := []) h ceX3_handOver mlX12_355 imX3_handOver seX3_handOver (by rfl) (kd_lt (by rw [(by decide : kd 86 = 2)]; decide)) (ent_2 (by decide : kd 86 = 2)) rfl rfl ⟨by decide, by decide⟩ ⟨by decide, by decide⟩ rfl dX12_cities_84 rfl (Nat.le_of_ble_eq_true rfl) (cmX3_handOver zq) ?_
        refine g_sub h [2, 3, 4, 0, 5, 1] rfl ?_
        exact kX12_cities_b87 h zE ih zf

theorem kX12_cities_e0 {G : GX} (h : OKm G cX12_cities RX12 7 (some .int) { frames := 8, cells := 4, slots := 24, locals := 221 }) (zE : OKe G) {M : Mem} {x1 : Int32} {x2 : Int32} {x3 : Int32} {res : (Except Nat (Int32 × Mem))} (zf : fX12_cities M x1 x2 x3 = some res) : GG G (QmX G (okx Pwi res) (erx res) M 4 24) 0 0 0 [(0, rv G.1 0), (1, .int x1), (2, .int x2), (3, .int x3)] [] M := by
  unfold fX12_cities at zf
  refine g_aload_n h 0 rfl dX12_cities_0 ?_
  refine g_iload_n h 3 rfl dX12_cities_1 ?_
  refine g_iconst h 2 (v := 2) (by decide) dX12_cities_2 ?_
  refine g_xneed (As := [.int x3, .int 2]) (rest := []) h zE zf ceX12_needWhat mlX12_261 imX12_needWhat seX12_needWhat (by rfl) (by decide) (ent_10 (by decide)) rfl rfl ⟨by decide, by decide⟩ ⟨by decide, by decide⟩ rfl (by decide) (by decide) dX12_cities_3 rfl (Nat.le_of_ble_eq_true rfl) (fun q zq => cxX12_needWhat zE.1 zq) ?_
  clear zf; intro zf
  refine g_aload_n h 0 rfl dX12_cities_6 ?_
  refine g_iload_n h 2 rfl dX12_cities_7 ?_
  refine g_iconst h 0 (v := 0) (by decide) dX12_cities_8 ?_
  refine g_bipush h 60 (v := 60) (by decide) dX12_cities_9 ?_
  refine g_xneed (As := [.int x2, .int 0, .int 60]) (rest := []) h zE zf ceX12_needWithin mlX12_265 imX12_needWithin seX12_needWithin (by rfl) (by decide) (ent_10 (by decide)) rfl rfl ⟨by decide, by decide⟩ ⟨by decide, by decide⟩ rfl (by decide) (by decide) dX12_cities_11 rfl (Nat.le_of_ble_eq_true rfl) (fun q zq => cxX12_needWithin zE.1 zq) ?_
  clear zf; intro zf
  refine g_aload_n h 0 rfl dX12_cities_14 ?_
  refine gfX12_56 h (by decide : kd 0 = 10) dX12_cities_15 ?_
  refine g_aload_n h 0 rfl dX12_cities_18 ?_
  refine gfX12_52 h (by decide : kd 0 = 10) dX12_cities_19 ?_
  have zf1 := bd_some zf
  clear zf; obtain ⟨Mq1, zq, zf⟩ := zf1
  refine g_callVwv (As := [rv G.1 81]) (rest := []) h ceX3_become mlX12_115 imX3_become seX3_become (by rfl) (kd_lt (by rw [(by decide : kd 86 = 2)]; decide)) (ent_2 (by decide : kd 86 = 2)) rfl rfl ⟨by decide, by decide⟩ ⟨by decide, by decide⟩ rfl dX12_cities_22 rfl (Nat.le_of_ble_eq_true rfl) (cmX3_become zq) ?_
  refine g_iload_n h 1 rfl dX12_cities_25 ?_
  refine g_istore h [(4, .int x1), (0, rv G.1 0), (1, .int x1), (2, .int x2), (3, .int x3)] (by decide) rfl dX12_cities_26 ?_
  refine g_iconst h 0 (v := 0) (by decide) dX12_cities_28 ?_
  refine g_istore h [(5, .int 0), (4, .int x1), (0, rv G.1 0), (1, .int x1), (2, .int x2), (3, .int x3)] (by decide) rfl dX12_cities_29 ?_
  refine g_cs h (kc' := 3) (ks' := 18) (by decide) (by decide) ?_
  refine g_sub h [2, 4, 5, 1, 0] rfl ?_
  exact kX12_cities_l31 h zE _ _ _ _ _ _ _ zf

theorem cxX12_cities {l : Launch} (zl : l.stackTraces = false) {w : WX} {M : Mem} {x1 : Int32} {x2 : Int32} {x3 : Int32} {res : (Except Nat (Int32 × Mem))} (zf : fX12_cities M x1 x2 x3 = some res) : CX l w yX12_cities cX12_cities 7 (some .int) { frames := 8, cells := 4, slots := 24, locals := 221 } 4 24 [rv w 0, .int x1, .int x2, .int x3] M (okx Pwi res) (erx res) := by
  refine CX_of zl (by decide) (Nat.le_of_ble_eq_true rfl) (fun G hw hl h zE => ?_)
  subst hw
  exact kX12_cities_e0 h zE zf

-- X12_cost
theorem kX12_cost_l52 {G : GX} (h : OKm G cX12_cost RX12 4 (some .int) { frames := 9, cells := 4, slots := 24, locals := 229 }) (zE : OKe G) {M0 : Mem} : ∀ (n : Nat) (M : Mem) (x1 : Int32) (x2 : Int32) (x3 : Int32) (res : (Except Nat (Int32 × Mem))), fX12_cost_l52 n M x1 x2 x3 = some res → GG G (QmX G (okx Pwi res) (erx res) M0 4 24) 3 18 52 [(0, rv G.1 0), (1, .int x1), (2, .int x2), (3, .int x3)] [] M := by
  intro n
  induction n with
  | zero => intro M x1 x2 x3 res zf; rw [fX12_cost_l52] at zf; cases zf
  | succ n ih =>
    intro M x1 x2 x3 res zf
    rw [fX12_cost_l52] at zf
    refine g_iload_n h 3 rfl dX12_cost_52 ?_
    refine g_iload_n h 1 rfl dX12_cost_53 ?_
    refine g_ic_ge h 74 (by decide) zf dX12_cost_54 ?_ ?_ <;> clear zf <;> intro zf
    · refine g_aload_n h 0 rfl dX12_cost_74 ?_
      refine gfX12_56 h (by decide : kd 0 = 10) dX12_cost_75 ?_
      have zf1 := bd_some zf
      clear zf; obtain ⟨vq5, zq, zf⟩ := zf1
      refine g_callVri (As := []) (rest := []) h ceX3_wealth mlX12_272 imX3_wealth seX3_wealth (by rfl) (kd_lt (by rw [(by decide : kd 86 = 2)]; decide)) (ent_2 (by decide : kd 86 = 2)) rfl rfl ⟨by decide, by decide⟩ ⟨by decide, by decide⟩ rfl dX12_cost_78 rfl (Nat.le_of_ble_eq_true rfl) (cmX3_wealth zq) ?_
      refine g_iload_n h 2 rfl dX12_cost_81 ?_
      refine g_isub h dX12_cost_82 ?_
      obtain rfl := Option.some.inj zf
      refine g_ret ?_
      exact g_iret h rfl ⟨_, rfl, rfl, rfl⟩ (Nat.le_of_ble_eq_true rfl) (Nat.le_of_ble_eq_true rfl) dX12_cost_83
    · refine g_aload_n h 0 rfl dX12_cost_57 ?_
      refine gfX12_36 h (by decide : kd 0 = 10) dX12_cost_58 ?_
      refine g_aload_n h 0 rfl dX12_cost_61 ?_
      refine gfX12_56 h (by decide : kd 0 = 10) dX12_cost_62 ?_
      have zf1 := bd_some zf
      clear zf; obtain ⟨Mq6, zq, zf⟩ := zf1
      refine g_callVwv (As := [rv G.1 86]) (rest := []) h ceX7_passAlone mlX12_276 imX7_passAlone seX7_passAlone (by rfl) (kd_lt (by rw [(by decide : kd 28 = 6)]; decide)) (ent_6 (by decide : kd 28 = 6)) rfl rfl ⟨by decide, by decide⟩ ⟨by decide, by decide⟩ rfl dX12_cost_65 rfl (Nat.le_of_ble_eq_true rfl) (cmX7_passAlone zq) ?_
      refine g_iinc h 3 3 rfl (v := x3 + 1) (congrArg (fun z => x3 + z) (by decide : Int32.ofInt (1) = (1 : Int32))) [(3, .int (x3 + 1)), (0, rv G.1 0), (1, .int x1), (2, .int x2)] (by decide) rfl dX12_cost_68 ?_
      refine g_nmV zf ?_
      clear zf; intro vq7 zf
      refine g_goto h 52 (by decide) dX12_cost_71 ?_
      refine g_sub h [1, 2, 3, 0] rfl ?_
      exact ih _ _ _ _ _ zf

theorem kX12_cost_e0 {G : GX} (h : OKm G cX12_cost RX12 4 (some .int) { frames := 9, cells := 4, slots := 24, locals := 229 }) (zE : OKe G) {M : Mem} {x1 : Int32} {res : (Except Nat (Int32 × Mem))} (zf : fX12_cost M x1 = some res) : GG G (QmX G (okx Pwi res) (erx res) M 4 24) 0 0 0 [(0, rv G.1 0), (1, .int x1)] [] M := by
  unfold fX12_cost at zf
  refine g_aload_n h 0 rfl dX12_cost_0 ?_
  refine g_iload_n h 1 rfl dX12_cost_1 ?_
  refine g_iconst h 1 (v := 1) (by decide) dX12_cost_2 ?_
  refine g_bipush h 60 (v := 60) (by decide) dX12_cost_3 ?_
  refine g_xneed (As := [.int x1, .int 1, .int 60]) (rest := []) h zE zf ceX12_needWithin mlX12_265 imX12_needWithin seX12_needWithin (by rfl) (by decide) (ent_10 (by decide)) rfl rfl ⟨by decide, by decide⟩ ⟨by decide, by decide⟩ rfl (by decide) (by decide) dX12_cost_5 rfl (Nat.le_of_ble_eq_true rfl) (fun q zq => cxX12_needWithin zE.1 zq) ?_
  clear zf; intro zf
  refine g_aload_n h 0 rfl dX12_cost_8 ?_
  refine gfX12_56 h (by decide : kd 0 = 10) dX12_cost_9 ?_
  refine g_aload_n h 0 rfl dX12_cost_12 ?_
  refine gfX12_52 h (by decide : kd 0 = 10) dX12_cost_13 ?_
  have zf1 := bd_some zf
  clear zf; obtain ⟨Mq1, zq, zf⟩ := zf1
  refine g_callVwv (As := [rv G.1 81]) (rest := []) h ceX3_become mlX12_115 imX3_become seX3_become (by rfl) (kd_lt (by rw [(by decide : kd 86 = 2)]; decide)) (ent_2 (by decide : kd 86 = 2)) rfl rfl ⟨by decide, by decide⟩ ⟨by decide, by decide⟩ rfl dX12_cost_16 rfl (Nat.le_of_ble_eq_true rfl) (cmX3_become zq) ?_
  refine g_aload_n h 0 rfl dX12_cost_19 ?_
  refine gfX12_36 h (by decide : kd 0 = 10) dX12_cost_20 ?_
  refine g_aload_n h 0 rfl dX12_cost_23 ?_
  refine gfX12_56 h (by decide : kd 0 = 10) dX12_cost_24 ?_
  refine g_iload_n h 1 rfl dX12_cost_27 ?_
  have zf1 := bd_some zf
  clear zf; obtain ⟨Mq2, zq, zf⟩ := zf1
  refine g_callVwv (As := [rv G.1 86, .int x1]) (rest := []) h ceX7_passMany mlX12_244 imX7_passMany seX7_passMany (by rfl) (kd_lt (by rw [(by decide : kd 28 = 6)]; decide)) (ent_6 (by decide : kd 28 = 6)) rfl rfl ⟨by decide, by decide⟩ ⟨by decide, by decide⟩ rfl dX12_cost_28 rfl (Nat.le_of_ble_eq_true rfl) (cmX7_passMany zq) ?_
  refine g_aload_n h 0 rfl dX12_cost_31 ?_
  refine gfX12_56 h (by decide : kd 0 = 10) dX12_cost_32 ?_
  have zf1 := bd_some zf
  clear zf; obtain ⟨vq3, zq, zf⟩ := zf1
  refine g_callVri (As := []) (rest := []) h ceX3_wealth mlX12_272 imX3_wealth seX3_wealth (by rfl) (kd_lt (by rw [(by decide : kd 86 = 2)]; decide)) (ent_2 (by decide : kd 86 = 2)) rfl rfl ⟨by decide, by decide⟩ ⟨by decide, by decide⟩ rfl dX12_cost_35 rfl (Nat.le_of_ble_eq_true rfl) (cmX3_wealth zq) ?_
  refine g_istore_n h rfl [(2, .int vq3), (0, rv G.1 0), (1, .int x1)] (by decide) rfl dX12_cost_38 ?_
  refine g_aload_n h 1 rfl dX12_cost_39 ?_
  refine gfX12_56 h (by decide : kd 0 = 10) dX12_cost_40 ?_
  refine g_aload_n h 1 rfl dX12_cost_43 ?_
  refine gfX12_52 h (by decide : kd 0 = 10) dX12_cost_44 ?_
  have zf1 := bd_some zf
  clear zf; obtain ⟨Mq4, zq, zf⟩ := zf1
  refine g_callVwv (As := [rv G.1 81]) (rest := []) h ceX3_become mlX12_115 imX3_become seX3_become (by rfl) (kd_lt (by rw [(by decide : kd 86 = 2)]; decide)) (ent_2 (by decide : kd 86 = 2)) rfl rfl ⟨by decide, by decide⟩ ⟨by decide, by decide⟩ rfl dX12_cost_47 rfl (Nat.le_of_ble_eq_true rfl) (cmX3_become zq) ?_
  refine g_iconst h 0 (v := 0) (by decide) dX12_cost_50 ?_
  refine g_istore_n h rfl [(3, .int 0), (2, .int vq3), (0, rv G.1 0), (1, .int x1)] (by decide) rfl dX12_cost_51 ?_
  refine g_cs h (kc' := 3) (ks' := 18) (by decide) (by decide) ?_
  refine g_sub h [2, 3, 1, 0] rfl ?_
  exact kX12_cost_l52 h zE _ _ _ _ _ _ zf

theorem cxX12_cost {l : Launch} (zl : l.stackTraces = false) {w : WX} {M : Mem} {x1 : Int32} {res : (Except Nat (Int32 × Mem))} (zf : fX12_cost M x1 = some res) : CX l w yX12_cost cX12_cost 4 (some .int) { frames := 9, cells := 4, slots := 24, locals := 229 } 4 24 [rv w 0, .int x1] M (okx Pwi res) (erx res) := by
  refine CX_of zl (by decide) (Nat.le_of_ble_eq_true rfl) (fun G hw hl h zE => ?_)
  subst hw
  exact kX12_cost_e0 h zE zf

-- X12_count
theorem kX12_count_e0 {G : GX} (h : OKm G cX12_count RX12 2 (some .int) { frames := 6, cells := 4, slots := 24, locals := 160 }) (zE : OKe G) {M : Mem} {x1 : Int32} {res : (Except Nat Int32)} (zf : fX12_count M x1 = some res) : GG G (QmX G (okx (fun zr => Pri zr M) res) (erx res) M 4 24) 0 0 0 [(0, rv G.1 0), (1, .int x1)] [] M := by
  unfold fX12_count at zf
  refine g_iload_n h 1 rfl dX12_count_0 ?_
  by_cases zx0 : x1 = 0
  · rw [if_pos zx0] at zf
    refine g_tabIn h (off := 91) 92 (by rw [zx0]; decide) (by rw [zx0]; decide) (by rw [zx0]; decide) (by decide) dX12_count_1 ?_
    refine g_aload_n h 0 rfl dX12_count_92 ?_
    refine gfX12_52 h (by decide : kd 0 = 10) dX12_count_93 ?_
    refine gfX12_123 h (by decide : kd 81 = 2) dX12_count_96 ?_
    refine g_nmI zf ?_
    clear zf; intro vq1 zf
    obtain rfl := Option.some.inj zf
    refine g_ret ?_
    exact g_iret h rfl ⟨_, rfl, rfl, rfl⟩ (Nat.le_of_ble_eq_true rfl) (Nat.le_of_ble_eq_true rfl) dX12_count_99
  rw [if_neg zx0] at zf
  have zy0 : x1.toInt ≠ 0 := fun q => zx0 (Int32.toInt_inj.mp (by rw [q]; rfl))
  by_cases zx1 : x1 = 1
  · rw [if_pos zx1] at zf
    refine g_tabIn h (off := 99) 100 (by rw [zx1]; decide) (by rw [zx1]; decide) (by rw [zx1]; decide) (by decide) dX12_count_1 ?_
    refine g_aload_n h 0 rfl dX12_count_100 ?_
    refine gfX12_52 h (by decide : kd 0 = 10) dX12_count_101 ?_
    refine gfX12_126 h (by decide : kd 81 = 2) dX12_count_104 ?_
    refine g_nmI zf ?_
    clear zf; intro vq2 zf
    obtain rfl := Option.some.inj zf
    refine g_ret ?_
    exact g_iret h rfl ⟨_, rfl, rfl, rfl⟩ (Nat.le_of_ble_eq_true rfl) (Nat.le_of_ble_eq_true rfl) dX12_count_107
  rw [if_neg zx1] at zf
  have zy1 : x1.toInt ≠ 1 := fun q => zx1 (Int32.toInt_inj.mp (by rw [q]; rfl))
  by_cases zx2 : x1 = 2
  · rw [if_pos zx2] at zf
    refine g_tabIn h (off := 107) 108 (by rw [zx2]; decide) (by rw [zx2]; decide) (by rw [zx2]; decide) (by decide) dX12_count_1 ?_
    refine g_aload_n h 0 rfl dX12_count_108 ?_
    refine gfX12_52 h (by decide : kd 0 = 10) dX12_count_109 ?_
    refine gfX12_129 h (by decide : kd 81 = 2) dX12_count_112 ?_
    refine g_nmI zf ?_
    clear zf; intro vq3 zf
    obtain rfl := Option.some.inj zf
    refine g_ret ?_
    exact g_iret h rfl ⟨_, rfl, rfl, rfl⟩ (Nat.le_of_ble_eq_true rfl) (Nat.le_of_ble_eq_true rfl) dX12_count_115
  rw [if_neg zx2] at zf
  have zy2 : x1.toInt ≠ 2 := fun q => zx2 (Int32.toInt_inj.mp (by rw [q]; rfl))
  by_cases zx3 : x1 = 3
  · rw [if_pos zx3] at zf
    refine g_tabIn h (off := 115) 116 (by rw [zx3]; decide) (by rw [zx3]; decide) (by rw [zx3]; decide) (by decide) dX12_count_1 ?_
    refine g_aload_n h 0 rfl dX12_count_116 ?_
    refine gfX12_52 h (by decide : kd 0 = 10) dX12_count_117 ?_
    refine gfX12_132 h (by decide : kd 81 = 2) dX12_count_120 ?_
    refine g_nmI zf ?_
    clear zf; intro vq4 zf
    obtain rfl := Option.some.inj zf
    refine g_ret ?_
    exact g_iret h rfl ⟨_, rfl, rfl, rfl⟩ (Nat.le_of_ble_eq_true rfl) (Nat.le_of_ble_eq_true rfl) dX12_count_123
  rw [if_neg zx3] at zf
  have zy3 : x1.toInt ≠ 3 := fun q => zx3 (Int32.toInt_inj.mp (by rw [q]; rfl))
  by_cases zx4 : x1 = 4
  · rw [if_pos zx4] at zf
    refine g_tabIn h (off := 123) 124 (by rw [zx4]; decide) (by rw [zx4]; decide) (by rw [zx4]; decide) (by decide) dX12_count_1 ?_
    refine g_aload_n h 0 rfl dX12_count_124 ?_
    refine gfX12_52 h (by decide : kd 0 = 10) dX12_count_125 ?_
    refine gfX12_135 h (by decide : kd 81 = 2) dX12_count_128 ?_
    refine g_nmI zf ?_
    clear zf; intro vq5 zf
    obtain rfl := Option.some.inj zf
    refine g_ret ?_
    exact g_iret h rfl ⟨_, rfl, rfl, rfl⟩ (Nat.le_of_ble_eq_true rfl) (Nat.le_of_ble_eq_true rfl) dX12_count_131
  rw [if_neg zx4] at zf
  have zy4 : x1.toInt ≠ 4 := fun q => zx4 (Int32.toInt_inj.mp (by rw [q]; rfl))
  by_cases zx5 : x1 = 5
  · rw [if_pos zx5] at zf
    refine g_tabIn h (off := 131) 132 (by rw [zx5]; decide) (by rw [zx5]; decide) (by rw [zx5]; decide) (by decide) dX12_count_1 ?_
    refine g_aload_n h 0 rfl dX12_count_132 ?_
    refine gfX12_52 h (by decide : kd 0 = 10) dX12_count_133 ?_
    refine gfX12_138 h (by decide : kd 81 = 2) dX12_count_136 ?_
    refine g_nmI zf ?_
    clear zf; intro vq6 zf
    obtain rfl := Option.some.inj zf
    refine g_ret ?_
    exact g_iret h rfl ⟨_, rfl, rfl, rfl⟩ (Nat.le_of_ble_eq_true rfl) (Nat.le_of_ble_eq_true rfl) dX12_count_139
  rw [if_neg zx5] at zf
  have zy5 : x1.toInt ≠ 5 := fun q => zx5 (Int32.toInt_inj.mp (by rw [q]; rfl))
  by_cases zx6 : x1 = 6
  · rw [if_pos zx6] at zf
    refine g_tabIn h (off := 139) 140 (by rw [zx6]; decide) (by rw [zx6]; decide) (by rw [zx6]; decide) (by decide) dX12_count_1 ?_
    refine g_aload_n h 0 rfl dX12_count_140 ?_
    refine gfX12_52 h (by decide : kd 0 = 10) dX12_count_141 ?_
    refine gfX12_141 h (by decide : kd 81 = 2) dX12_count_144 ?_
    refine g_nmI zf ?_
    clear zf; intro vq7 zf
    obtain rfl := Option.some.inj zf
    refine g_ret ?_
    exact g_iret h rfl ⟨_, rfl, rfl, rfl⟩ (Nat.le_of_ble_eq_true rfl) (Nat.le_of_ble_eq_true rfl) dX12_count_147
  rw [if_neg zx6] at zf
  have zy6 : x1.toInt ≠ 6 := fun q => zx6 (Int32.toInt_inj.mp (by rw [q]; rfl))
  by_cases zx7 : x1 = 7
  · rw [if_pos zx7] at zf
    refine g_tabIn h (off := 147) 148 (by rw [zx7]; decide) (by rw [zx7]; decide) (by rw [zx7]; decide) (by decide) dX12_count_1 ?_
    refine g_aload_n h 0 rfl dX12_count_148 ?_
    refine gfX12_52 h (by decide : kd 0 = 10) dX12_count_149 ?_
    refine gfX12_144 h (by decide : kd 81 = 2) dX12_count_152 ?_
    refine g_nmI zf ?_
    clear zf; intro vq8 zf
    obtain rfl := Option.some.inj zf
    refine g_ret ?_
    exact g_iret h rfl ⟨_, rfl, rfl, rfl⟩ (Nat.le_of_ble_eq_true rfl) (Nat.le_of_ble_eq_true rfl) dX12_count_155
  rw [if_neg zx7] at zf
  have zy7 : x1.toInt ≠ 7 := fun q => zx7 (Int32.toInt_inj.mp (by rw [q]; rfl))
  by_cases zx8 : x1 = 8
  · rw [if_pos zx8] at zf
    refine g_tabIn h (off := 155) 156 (by rw [zx8]; decide) (by rw [zx8]; decide) (by rw [zx8]; decide) (by decide) dX12_count_1 ?_
    refine g_aload_n h 0 rfl dX12_count_156 ?_
    refine gfX12_52 h (by decide : kd 0 = 10) dX12_count_157 ?_
    refine gfX12_147 h (by decide : kd 81 = 2) dX12_count_160 ?_
    refine g_nmI zf ?_
    clear zf; intro vq9 zf
    obtain rfl := Option.some.inj zf
    refine g_ret ?_
    exact g_iret h rfl ⟨_, rfl, rfl, rfl⟩ (Nat.le_of_ble_eq_true rfl) (Nat.le_of_ble_eq_true rfl) dX12_count_163
  rw [if_neg zx8] at zf
  have zy8 : x1.toInt ≠ 8 := fun q => zx8 (Int32.toInt_inj.mp (by rw [q]; rfl))
  by_cases zx9 : x1 = 9
  · rw [if_pos zx9] at zf
    refine g_tabIn h (off := 163) 164 (by rw [zx9]; decide) (by rw [zx9]; decide) (by rw [zx9]; decide) (by decide) dX12_count_1 ?_
    refine g_aload_n h 0 rfl dX12_count_164 ?_
    refine gfX12_36 h (by decide : kd 0 = 10) dX12_count_165 ?_
    refine gfX12_111 h (by decide : kd 28 = 6) dX12_count_168 ?_
    refine g_nmR zf ?_
    clear zf; intro oq10 zf
    have zf1 := pre_ck zf
    clear zf; obtain ⟨zk_oq10, zf⟩ := zf1
    refine gfX12_150 h zk_oq10 dX12_count_171 ?_
    refine g_nmI zf ?_
    clear zf; intro vq11 zf
    obtain rfl := Option.some.inj zf
    refine g_ret ?_
    exact g_iret h rfl ⟨_, rfl, rfl, rfl⟩ (Nat.le_of_ble_eq_true rfl) (Nat.le_of_ble_eq_true rfl) dX12_count_174
  rw [if_neg zx9] at zf
  have zy9 : x1.toInt ≠ 9 := fun q => zx9 (Int32.toInt_inj.mp (by rw [q]; rfl))
  by_cases zx10 : x1 = 10
  · rw [if_pos zx10] at zf
    refine g_tabIn h (off := 174) 175 (by rw [zx10]; decide) (by rw [zx10]; decide) (by rw [zx10]; decide) (by decide) dX12_count_1 ?_
    refine g_aload_n h 0 rfl dX12_count_175 ?_
    refine gfX12_36 h (by decide : kd 0 = 10) dX12_count_176 ?_
    refine gfX12_111 h (by decide : kd 28 = 6) dX12_count_179 ?_
    refine g_nmR zf ?_
    clear zf; intro oq12 zf
    have zf1 := pre_ck zf
    clear zf; obtain ⟨zk_oq12, zf⟩ := zf1
    refine gfX12_155 h zk_oq12 dX12_count_182 ?_
    refine g_nmI zf ?_
    clear zf; intro vq13 zf
    obtain rfl := Option.some.inj zf
    refine g_ret ?_
    exact g_iret h rfl ⟨_, rfl, rfl, rfl⟩ (Nat.le_of_ble_eq_true rfl) (Nat.le_of_ble_eq_true rfl) dX12_count_185
  rw [if_neg zx10] at zf
  have zy10 : x1.toInt ≠ 10 := fun q => zx10 (Int32.toInt_inj.mp (by rw [q]; rfl))
  by_cases zx11 : x1 = 11
  · rw [if_pos zx11] at zf
    refine g_tabIn h (off := 185) 186 (by rw [zx11]; decide) (by rw [zx11]; decide) (by rw [zx11]; decide) (by decide) dX12_count_1 ?_
    refine g_aload_n h 0 rfl dX12_count_186 ?_
    refine gfX12_36 h (by decide : kd 0 = 10) dX12_count_187 ?_
    refine gfX12_111 h (by decide : kd 28 = 6) dX12_count_190 ?_
    refine g_nmR zf ?_
    clear zf; intro oq14 zf
    have zf1 := pre_ck zf
    clear zf; obtain ⟨zk_oq14, zf⟩ := zf1
    refine gfX12_158 h zk_oq14 dX12_count_193 ?_
    refine gfX12_162 h (kf4_8 zk_oq14) dX12_count_196 ?_
    refine g_nmI zf ?_
    clear zf; intro vq15 zf
    obtain rfl := Option.some.inj zf
    refine g_ret ?_
    exact g_iret h rfl ⟨_, rfl, rfl, rfl⟩ (Nat.le_of_ble_eq_true rfl) (Nat.le_of_ble_eq_true rfl) dX12_count_199
  rw [if_neg zx11] at zf
  have zy11 : x1.toInt ≠ 11 := fun q => zx11 (Int32.toInt_inj.mp (by rw [q]; rfl))
  by_cases zx12 : x1 = 12
  · rw [if_pos zx12] at zf
    refine g_tabIn h (off := 199) 200 (by rw [zx12]; decide) (by rw [zx12]; decide) (by rw [zx12]; decide) (by decide) dX12_count_1 ?_
    refine g_aload_n h 0 rfl dX12_count_200 ?_
    refine gfX12_36 h (by decide : kd 0 = 10) dX12_count_201 ?_
    refine gfX12_111 h (by decide : kd 28 = 6) dX12_count_204 ?_
    refine g_nmR zf ?_
    clear zf; intro oq16 zf
    have zf1 := pre_ck zf
    clear zf; obtain ⟨zk_oq16, zf⟩ := zf1
    refine gfX12_165 h zk_oq16 dX12_count_207 ?_
    refine gfX12_162 h (kf4_11 zk_oq16) dX12_count_210 ?_
    refine g_nmI zf ?_
    clear zf; intro vq17 zf
    obtain rfl := Option.some.inj zf
    refine g_ret ?_
    exact g_iret h rfl ⟨_, rfl, rfl, rfl⟩ (Nat.le_of_ble_eq_true rfl) (Nat.le_of_ble_eq_true rfl) dX12_count_213
  rw [if_neg zx12] at zf
  have zy12 : x1.toInt ≠ 12 := fun q => zx12 (Int32.toInt_inj.mp (by rw [q]; rfl))
  by_cases zx13 : x1 = 13
  · rw [if_pos zx13] at zf
    refine g_tabIn h (off := 213) 214 (by rw [zx13]; decide) (by rw [zx13]; decide) (by rw [zx13]; decide) (by decide) dX12_count_1 ?_
    refine g_aload_n h 0 rfl dX12_count_214 ?_
    refine gfX12_62 h (by decide : kd 0 = 10) dX12_count_215 ?_
    refine gfX12_119 h (by decide : kd 91 = 0) dX12_count_218 ?_
    refine g_nmI zf ?_
    clear zf; intro vq18 zf
    obtain rfl := Option.some.inj zf
    refine g_ret ?_
    exact g_iret h rfl ⟨_, rfl, rfl, rfl⟩ (Nat.le_of_ble_eq_true rfl) (Nat.le_of_ble_eq_true rfl) dX12_count_221
  rw [if_neg zx13] at zf
  have zy13 : x1.toInt ≠ 13 := fun q => zx13 (Int32.toInt_inj.mp (by rw [q]; rfl))
  by_cases zx14 : x1 = 14
  · rw [if_pos zx14] at zf
    refine g_tabIn h (off := 221) 222 (by rw [zx14]; decide) (by rw [zx14]; decide) (by rw [zx14]; decide) (by decide) dX12_count_1 ?_
    refine g_aload_n h 0 rfl dX12_count_222 ?_
    refine gfX12_69 h (by decide : kd 0 = 10) dX12_count_223 ?_
    refine gfX12_122 h (by decide : kd 93 = 8) dX12_count_226 ?_
    refine g_nmI zf ?_
    clear zf; intro vq19 zf
    obtain rfl := Option.some.inj zf
    refine g_ret ?_
    exact g_iret h rfl ⟨_, rfl, rfl, rfl⟩ (Nat.le_of_ble_eq_true rfl) (Nat.le_of_ble_eq_true rfl) dX12_count_229
  rw [if_neg zx14] at zf
  have zy14 : x1.toInt ≠ 14 := fun q => zx14 (Int32.toInt_inj.mp (by rw [q]; rfl))
  by_cases zx15 : x1 = 15
  · rw [if_pos zx15] at zf
    refine g_tabIn h (off := 229) 230 (by rw [zx15]; decide) (by rw [zx15]; decide) (by rw [zx15]; decide) (by decide) dX12_count_1 ?_
    refine g_aload_n h 0 rfl dX12_count_230 ?_
    refine gfX12_13 h (by decide : kd 0 = 10) dX12_count_231 ?_
    refine g_nmI zf ?_
    clear zf; intro vq20 zf
    obtain rfl := Option.some.inj zf
    refine g_ret ?_
    exact g_iret h rfl ⟨_, rfl, rfl, rfl⟩ (Nat.le_of_ble_eq_true rfl) (Nat.le_of_ble_eq_true rfl) dX12_count_234
  rw [if_neg zx15] at zf
  have zy15 : x1.toInt ≠ 15 := fun q => zx15 (Int32.toInt_inj.mp (by rw [q]; rfl))
  by_cases zx16 : x1 = 16
  · rw [if_pos zx16] at zf
    refine g_tabIn h (off := 234) 235 (by rw [zx16]; decide) (by rw [zx16]; decide) (by rw [zx16]; decide) (by decide) dX12_count_1 ?_
    refine g_aload_n h 0 rfl dX12_count_235 ?_
    refine gfX12_20 h (by decide : kd 0 = 10) dX12_count_236 ?_
    refine g_iconst h 0 (v := 0) (by decide) dX12_count_239 ?_
    refine g_iald h 3 (by decide : kd 2 = 20) (by decide) zf dX12_count_240 ?_
    clear zf; intro vq21 zf
    obtain rfl := Option.some.inj zf
    refine g_ret ?_
    exact g_iret h rfl ⟨_, rfl, rfl, rfl⟩ (Nat.le_of_ble_eq_true rfl) (Nat.le_of_ble_eq_true rfl) dX12_count_241
  rw [if_neg zx16] at zf
  have zy16 : x1.toInt ≠ 16 := fun q => zx16 (Int32.toInt_inj.mp (by rw [q]; rfl))
  by_cases zx17 : x1 = 17
  · rw [if_pos zx17] at zf
    refine g_tabIn h (off := 241) 242 (by rw [zx17]; decide) (by rw [zx17]; decide) (by rw [zx17]; decide) (by decide) dX12_count_1 ?_
    refine g_aload_n h 0 rfl dX12_count_242 ?_
    refine gfX12_20 h (by decide : kd 0 = 10) dX12_count_243 ?_
    refine g_iconst h 1 (v := 1) (by decide) dX12_count_246 ?_
    refine g_iald h 3 (by decide : kd 2 = 20) (by decide) zf dX12_count_247 ?_
    clear zf; intro vq22 zf
    obtain rfl := Option.some.inj zf
    refine g_ret ?_
    exact g_iret h rfl ⟨_, rfl, rfl, rfl⟩ (Nat.le_of_ble_eq_true rfl) (Nat.le_of_ble_eq_true rfl) dX12_count_248
  rw [if_neg zx17] at zf
  have zy17 : x1.toInt ≠ 17 := fun q => zx17 (Int32.toInt_inj.mp (by rw [q]; rfl))
  by_cases zx18 : x1 = 18
  · rw [if_pos zx18] at zf
    refine g_tabIn h (off := 248) 249 (by rw [zx18]; decide) (by rw [zx18]; decide) (by rw [zx18]; decide) (by decide) dX12_count_1 ?_
    refine g_aload_n h 0 rfl dX12_count_249 ?_
    refine gfX12_20 h (by decide : kd 0 = 10) dX12_count_250 ?_
    refine g_iconst h 2 (v := 2) (by decide) dX12_count_253 ?_
    refine g_iald h 3 (by decide : kd 2 = 20) (by decide) zf dX12_count_254 ?_
    clear zf; intro vq23 zf
    obtain rfl := Option.some.inj zf
    refine g_ret ?_
    exact g_iret h rfl ⟨_, rfl, rfl, rfl⟩ (Nat.le_of_ble_eq_true rfl) (Nat.le_of_ble_eq_true rfl) dX12_count_255
  rw [if_neg zx18] at zf
  have zy18 : x1.toInt ≠ 18 := fun q => zx18 (Int32.toInt_inj.mp (by rw [q]; rfl))
  refine g_tabOut h 256 (by omega) (by decide) dX12_count_1 ?_
  obtain rfl := Option.some.inj zf
  exact g_throwN h zE rfl clX12_168 initNSE (by decide +kernel : (RX12, 170, "what") ∈ wMs) hatX12_172 dX12_count_256 dX12_count_259 dX12_count_260 dX12_count_262 dX12_count_265 (by decide) (Nat.le_of_ble_eq_true rfl) (by decide) (by decide) (by decide) (by decide)

theorem cxX12_count {l : Launch} (zl : l.stackTraces = false) {w : WX} {M : Mem} {x1 : Int32} {res : (Except Nat Int32)} (zf : fX12_count M x1 = some res) : CX l w yX12_count cX12_count 2 (some .int) { frames := 6, cells := 4, slots := 24, locals := 160 } 4 24 [rv w 0, .int x1] M (okx (fun zr => Pri zr M) res) (erx res) := by
  refine CX_of zl (by decide) (Nat.le_of_ble_eq_true rfl) (fun G hw hl h zE => ?_)
  subst hw
  exact kX12_count_e0 h zE zf

-- X12_deed
theorem kX12_deed_e0 {G : GX} (h : OKm G cX12_deed RX12 4 (some .int) { frames := 7, cells := 4, slots := 24, locals := 181 }) (zE : OKe G) {M : Mem} {x1 : Int32} {x2 : Int32} {res : (Except Nat Int32)} (zf : fX12_deed M x1 x2 = some res) : GG G (QmX G (okx (fun zr => Pri zr M) res) (erx res) M 4 24) 0 0 0 [(0, rv G.1 0), (1, .int x1), (2, .int x2)] [] M := by
  unfold fX12_deed at zf
  refine g_aload_n h 0 rfl dX12_deed_0 ?_
  refine g_iload_n h 1 rfl dX12_deed_1 ?_
  refine g_xneed (As := [.int x1]) (rest := []) h zE zf ceX12_needDeed mlX12_173 imX12_needDeed seX12_needDeed (by rfl) (by decide) (ent_10 (by decide)) rfl rfl ⟨by decide, by decide⟩ ⟨by decide, by decide⟩ rfl (by decide) (by decide) dX12_deed_2 rfl (Nat.le_of_ble_eq_true rfl) (fun q zq => cxX12_needDeed zE.1 zq) ?_
  clear zf; intro zf
  refine g_aload_n h 0 rfl dX12_deed_5 ?_
  refine gfX12_36 h (by decide : kd 0 = 10) dX12_deed_6 ?_
  refine gfX12_111 h (by decide : kd 28 = 6) dX12_deed_9 ?_
  refine g_nmR zf ?_
  clear zf; intro oq1 zf
  have zf1 := pre_ck zf
  clear zf; obtain ⟨zk_oq1, zf⟩ := zf1
  refine g_astore_n h rfl [(3, rv G.1 oq1), (0, rv G.1 0), (1, .int x1), (2, .int x2)] (by decide) rfl dX12_deed_12 ?_
  refine g_iload_n h 3 rfl dX12_deed_13 ?_
  by_cases zx0 : x2 = 0
  · rw [if_pos zx0] at zf
    refine g_tabIn h (off := 34) 48 (by rw [zx0]; decide) (by rw [zx0]; decide) (by rw [zx0]; decide) (by decide) dX12_deed_14 ?_
    refine g_aload_n h 0 rfl dX12_deed_48 ?_
    refine gfX12_176 h zk_oq1 dX12_deed_49 ?_
    refine g_iload_n h 2 rfl dX12_deed_52 ?_
    refine g_iald h 7 (kf4_1 zk_oq1) (lf4_1 zk_oq1) zf dX12_deed_53 ?_
    clear zf; intro vq2 zf
    obtain rfl := Option.some.inj zf
    refine g_ret ?_
    exact g_iret h rfl ⟨_, rfl, rfl, rfl⟩ (Nat.le_of_ble_eq_true rfl) (Nat.le_of_ble_eq_true rfl) dX12_deed_54
  rw [if_neg zx0] at zf
  have zy0 : x2.toInt ≠ 0 := fun q => zx0 (Int32.toInt_inj.mp (by rw [q]; rfl))
  by_cases zx1 : x2 = 1
  · rw [if_pos zx1] at zf
    refine g_tabIn h (off := 41) 55 (by rw [zx1]; decide) (by rw [zx1]; decide) (by rw [zx1]; decide) (by decide) dX12_deed_14 ?_
    refine g_aload_n h 0 rfl dX12_deed_55 ?_
    refine gfX12_179 h zk_oq1 dX12_deed_56 ?_
    refine g_iload_n h 2 rfl dX12_deed_59 ?_
    refine g_iald h 7 (kf4_2 zk_oq1) (lf4_2 zk_oq1) zf dX12_deed_60 ?_
    clear zf; intro vq3 zf
    obtain rfl := Option.some.inj zf
    refine g_ret ?_
    exact g_iret h rfl ⟨_, rfl, rfl, rfl⟩ (Nat.le_of_ble_eq_true rfl) (Nat.le_of_ble_eq_true rfl) dX12_deed_61
  rw [if_neg zx1] at zf
  have zy1 : x2.toInt ≠ 1 := fun q => zx1 (Int32.toInt_inj.mp (by rw [q]; rfl))
  by_cases zx2 : x2 = 2
  · rw [if_pos zx2] at zf
    refine g_tabIn h (off := 48) 62 (by rw [zx2]; decide) (by rw [zx2]; decide) (by rw [zx2]; decide) (by decide) dX12_deed_14 ?_
    refine g_aload_n h 0 rfl dX12_deed_62 ?_
    refine gfX12_182 h zk_oq1 dX12_deed_63 ?_
    refine g_iload_n h 2 rfl dX12_deed_66 ?_
    refine g_iald h 7 (kf4_3 zk_oq1) (lf4_3 zk_oq1) zf dX12_deed_67 ?_
    clear zf; intro vq4 zf
    obtain rfl := Option.some.inj zf
    refine g_ret ?_
    exact g_iret h rfl ⟨_, rfl, rfl, rfl⟩ (Nat.le_of_ble_eq_true rfl) (Nat.le_of_ble_eq_true rfl) dX12_deed_68
  rw [if_neg zx2] at zf
  have zy2 : x2.toInt ≠ 2 := fun q => zx2 (Int32.toInt_inj.mp (by rw [q]; rfl))
  by_cases zx3 : x2 = 3
  · rw [if_pos zx3] at zf
    refine g_tabIn h (off := 55) 69 (by rw [zx3]; decide) (by rw [zx3]; decide) (by rw [zx3]; decide) (by decide) dX12_deed_14 ?_
    refine g_aload_n h 0 rfl dX12_deed_69 ?_
    refine gfX12_185 h zk_oq1 dX12_deed_70 ?_
    refine g_iload_n h 2 rfl dX12_deed_73 ?_
    refine g_iald h 7 (kf4_4 zk_oq1) (lf4_4 zk_oq1) zf dX12_deed_74 ?_
    clear zf; intro vq5 zf
    obtain rfl := Option.some.inj zf
    refine g_ret ?_
    exact g_iret h rfl ⟨_, rfl, rfl, rfl⟩ (Nat.le_of_ble_eq_true rfl) (Nat.le_of_ble_eq_true rfl) dX12_deed_75
  rw [if_neg zx3] at zf
  have zy3 : x2.toInt ≠ 3 := fun q => zx3 (Int32.toInt_inj.mp (by rw [q]; rfl))
  by_cases zx4 : x2 = 4
  · rw [if_pos zx4] at zf
    refine g_tabIn h (off := 62) 76 (by rw [zx4]; decide) (by rw [zx4]; decide) (by rw [zx4]; decide) (by decide) dX12_deed_14 ?_
    refine g_aload_n h 0 rfl dX12_deed_76 ?_
    refine gfX12_176 h zk_oq1 dX12_deed_77 ?_
    refine g_iload_n h 2 rfl dX12_deed_80 ?_
    refine g_iald h 7 (kf4_1 zk_oq1) (lf4_1 zk_oq1) zf dX12_deed_81 ?_
    clear zf; intro vq6 zf
    refine g_aload_n h 1 rfl dX12_deed_82 ?_
    refine gfX12_52 h (by decide : kd 0 = 10) dX12_deed_83 ?_
    refine gfX12_123 h (by decide : kd 81 = 2) dX12_deed_86 ?_
    refine g_nmI zf ?_
    clear zf; intro vq7 zf
    refine g_ic_gt h 96 (by decide) zf dX12_deed_89 ?_ ?_ <;> clear zf <;> intro zf
    · refine g_iconst h 0 (v := 0) (by decide) dX12_deed_96 ?_
      obtain rfl := Option.some.inj zf
      refine g_ret ?_
      exact g_iret h rfl ⟨_, rfl, rfl, rfl⟩ (Nat.le_of_ble_eq_true rfl) (Nat.le_of_ble_eq_true rfl) dX12_deed_97
    · refine g_iconst h 1 (v := 1) (by decide) dX12_deed_92 ?_
      refine g_goto h 97 (by decide) dX12_deed_93 ?_
      obtain rfl := Option.some.inj zf
      refine g_ret ?_
      exact g_iret h rfl ⟨_, rfl, rfl, rfl⟩ (Nat.le_of_ble_eq_true rfl) (Nat.le_of_ble_eq_true rfl) dX12_deed_97
  rw [if_neg zx4] at zf
  have zy4 : x2.toInt ≠ 4 := fun q => zx4 (Int32.toInt_inj.mp (by rw [q]; rfl))
  refine g_tabOut h 98 (by omega) (by decide) dX12_deed_14 ?_
  obtain rfl := Option.some.inj zf
  exact g_throwN h zE rfl clX12_168 initNSE (by decide +kernel : (RX12, 170, "what") ∈ wMs) hatX12_172 dX12_deed_98 dX12_deed_101 dX12_deed_102 dX12_deed_104 dX12_deed_107 (by decide) (Nat.le_of_ble_eq_true rfl) (by decide) (by decide) (by decide) (by decide)

theorem cxX12_deed {l : Launch} (zl : l.stackTraces = false) {w : WX} {M : Mem} {x1 : Int32} {x2 : Int32} {res : (Except Nat Int32)} (zf : fX12_deed M x1 x2 = some res) : CX l w yX12_deed cX12_deed 4 (some .int) { frames := 7, cells := 4, slots := 24, locals := 181 } 4 24 [rv w 0, .int x1, .int x2] M (okx (fun zr => Pri zr M) res) (erx res) := by
  refine CX_of zl (by decide) (Nat.le_of_ble_eq_true rfl) (fun G hw hl h zE => ?_)
  subst hw
  exact kX12_deed_e0 h zE zf

-- X12_needFriend
theorem kX12_needFriend_b18 {G : GX} (h : OKm G cX12_needFriend RX12 2 none { frames := 6, cells := 1, slots := 6, locals := 160 }) (zE : OKe G) {M : Mem} {res : (Except Nat Unit)} (zf : fX12_needFriend_b18 M = some res) : GG G (QmX G (okx (fun _ => Pnn M) res) (erx res) M 1 6) 0 0 18 [] [] M := by
  unfold fX12_needFriend_b18 at zf
  obtain rfl := Option.some.inj zf
  exact g_throwN h zE rfl clX12_168 initNSE (by decide +kernel : (RX12, 234, "no such friend") ∈ wMs) hatX12_172 dX12_needFriend_18 dX12_needFriend_21 dX12_needFriend_22 dX12_needFriend_24 dX12_needFriend_27 (by decide) (Nat.le_of_ble_eq_true rfl) (by decide) (by decide) (by decide) (by decide)

theorem kX12_needFriend_e0 {G : GX} (h : OKm G cX12_needFriend RX12 2 none { frames := 6, cells := 1, slots := 6, locals := 160 }) (zE : OKe G) {M : Mem} {x1 : Int32} {res : (Except Nat Unit)} (zf : fX12_needFriend M x1 = some res) : GG G (QmX G (okx (fun _ => Pnn M) res) (erx res) M 1 6) 0 0 0 [(0, rv G.1 0), (1, .int x1)] [] M := by
  unfold fX12_needFriend at zf
  refine g_iload_n h 1 rfl dX12_needFriend_0 ?_
  refine g_if_lt h 18 (by decide) zf dX12_needFriend_1 ?_ ?_ <;> clear zf <;> intro zf
  · refine g_sub h [] rfl ?_
    exact kX12_needFriend_b18 h zE zf
  · refine g_iload_n h 1 rfl dX12_needFriend_4 ?_
    refine g_aload_n h 0 rfl dX12_needFriend_5 ?_
    refine gfX12_36 h (by decide : kd 0 = 10) dX12_needFriend_6 ?_
    refine gfX12_111 h (by decide : kd 28 = 6) dX12_needFriend_9 ?_
    refine g_nmR zf ?_
    clear zf; intro oq1 zf
    have zf1 := pre_ck zf
    clear zf; obtain ⟨zk_oq1, zf⟩ := zf1
    refine gfX12_155 h zk_oq1 dX12_needFriend_12 ?_
    refine g_nmI zf ?_
    clear zf; intro vq2 zf
    refine g_ic_lt h 28 (by decide) zf dX12_needFriend_15 ?_ ?_ <;> clear zf <;> intro zf
    · obtain rfl := Option.some.inj zf
      refine g_ret ?_
      exact g_vret h rfl ⟨_, rfl, rfl, rfl⟩ (Nat.le_of_ble_eq_true rfl) (Nat.le_of_ble_eq_true rfl) dX12_needFriend_28
    · refine g_sub h [] rfl ?_
      exact kX12_needFriend_b18 h zE zf

theorem cxX12_needFriend {l : Launch} (zl : l.stackTraces = false) {w : WX} {M : Mem} {x1 : Int32} {res : (Except Nat Unit)} (zf : fX12_needFriend M x1 = some res) : CX l w yX12_needFriend cX12_needFriend 2 none { frames := 6, cells := 1, slots := 6, locals := 160 } 1 6 [rv w 0, .int x1] M (okx (fun _ => Pnn M) res) (erx res) := by
  refine CX_of zl (by decide) (Nat.le_of_ble_eq_true rfl) (fun G hw hl h zE => ?_)
  subst hw
  exact kX12_needFriend_e0 h zE zf

-- X12_friend
theorem kX12_friend_e0 {G : GX} (h : OKm G cX12_friend RX12 3 (some .int) { frames := 7, cells := 4, slots := 24, locals := 181 }) (zE : OKe G) {M : Mem} {x1 : Int32} {x2 : Int32} {res : (Except Nat (Int32 × Mem))} (zf : fX12_friend M x1 x2 = some res) : GG G (QmX G (okx Pwi res) (erx res) M 4 24) 0 0 0 [(0, rv G.1 0), (1, .int x1), (2, .int x2)] [] M := by
  unfold fX12_friend at zf
  refine g_aload_n h 0 rfl dX12_friend_0 ?_
  refine g_iload_n h 1 rfl dX12_friend_1 ?_
  refine g_xneed (As := [.int x1]) (rest := []) h zE zf ceX12_needFriend mlX12_217 imX12_needFriend seX12_needFriend (by rfl) (by decide) (ent_10 (by decide)) rfl rfl ⟨by decide, by decide⟩ ⟨by decide, by decide⟩ rfl (by decide) (by decide) dX12_friend_2 rfl (Nat.le_of_ble_eq_true rfl) (fun q zq => cxX12_needFriend zE.1 zq) ?_
  clear zf; intro zf
  refine g_iload_n h 2 rfl dX12_friend_5 ?_
  by_cases zx0 : x2 = 0
  · rw [if_pos zx0] at zf
    refine g_tabIn h (off := 34) 40 (by rw [zx0]; decide) (by rw [zx0]; decide) (by rw [zx0]; decide) (by decide) dX12_friend_6 ?_
    refine g_aload_n h 0 rfl dX12_friend_40 ?_
    refine gfX12_52 h (by decide : kd 0 = 10) dX12_friend_41 ?_
    refine gfX12_220 h (by decide : kd 81 = 2) dX12_friend_44 ?_
    change GG G _ _ _ _ _ (rv G.1 85 :: _) _
    refine g_iload_n h 1 rfl dX12_friend_47 ?_
    refine g_iald h 6 (by decide : kd 85 = 20) (by decide) zf dX12_friend_48 ?_
    clear zf; intro vq1 zf
    obtain rfl := Option.some.inj zf
    refine g_ret ?_
    exact g_iret h rfl ⟨_, rfl, rfl, rfl⟩ (Nat.le_of_ble_eq_true rfl) (Nat.le_of_ble_eq_true rfl) dX12_friend_49
  rw [if_neg zx0] at zf
  have zy0 : x2.toInt ≠ 0 := fun q => zx0 (Int32.toInt_inj.mp (by rw [q]; rfl))
  by_cases zx1 : x2 = 1
  · rw [if_pos zx1] at zf
    refine g_tabIn h (off := 44) 50 (by rw [zx1]; decide) (by rw [zx1]; decide) (by rw [zx1]; decide) (by decide) dX12_friend_6 ?_
    refine g_aload_n h 0 rfl dX12_friend_50 ?_
    refine gfX12_36 h (by decide : kd 0 = 10) dX12_friend_51 ?_
    refine gfX12_111 h (by decide : kd 28 = 6) dX12_friend_54 ?_
    refine g_nmR zf ?_
    clear zf; intro oq2 zf
    have zf1 := pre_ck zf
    clear zf; obtain ⟨zk_oq2, zf⟩ := zf1
    refine gfX12_223 h zk_oq2 dX12_friend_57 ?_
    refine g_iload_n h 1 rfl dX12_friend_60 ?_
    refine g_iald h 6 (kf4_7 zk_oq2) (lf4_7 zk_oq2) zf dX12_friend_61 ?_
    clear zf; intro vq3 zf
    obtain rfl := Option.some.inj zf
    refine g_ret ?_
    exact g_iret h rfl ⟨_, rfl, rfl, rfl⟩ (Nat.le_of_ble_eq_true rfl) (Nat.le_of_ble_eq_true rfl) dX12_friend_62
  rw [if_neg zx1] at zf
  have zy1 : x2.toInt ≠ 1 := fun q => zx1 (Int32.toInt_inj.mp (by rw [q]; rfl))
  by_cases zx2 : x2 = 2
  · rw [if_pos zx2] at zf
    refine g_tabIn h (off := 57) 63 (by rw [zx2]; decide) (by rw [zx2]; decide) (by rw [zx2]; decide) (by decide) dX12_friend_6 ?_
    refine g_aload_n h 0 rfl dX12_friend_63 ?_
    refine gfX12_36 h (by decide : kd 0 = 10) dX12_friend_64 ?_
    refine g_aload_n h 0 rfl dX12_friend_67 ?_
    refine gfX12_52 h (by decide : kd 0 = 10) dX12_friend_68 ?_
    refine g_iconst h 1 (v := 1) (by decide) dX12_friend_71 ?_
    have zf1 := b2_some zf
    clear zf; obtain ⟨vq4, Mq5, zq, zf⟩ := zf1
    refine g_callVwi (As := [rv G.1 81, .int 1]) (rest := []) h ceX7_followers mlX12_198 imX7_followers seX7_followers (by rfl) (kd_lt (by rw [(by decide : kd 28 = 6)]; decide)) (ent_6 (by decide : kd 28 = 6)) rfl rfl ⟨by decide, by decide⟩ ⟨by decide, by decide⟩ rfl dX12_friend_72 rfl (Nat.le_of_ble_eq_true rfl) (cmX7_followers zq) ?_
    refine g_iload_n h 1 rfl dX12_friend_75 ?_
    refine g_ishr h dX12_friend_76 ?_
    refine g_iconst h 1 (v := 1) (by decide) dX12_friend_77 ?_
    refine g_iand h dX12_friend_78 ?_
    obtain rfl := Option.some.inj zf
    refine g_ret ?_
    exact g_iret h rfl ⟨_, rfl, rfl, rfl⟩ (Nat.le_of_ble_eq_true rfl) (Nat.le_of_ble_eq_true rfl) dX12_friend_79
  rw [if_neg zx2] at zf
  have zy2 : x2.toInt ≠ 2 := fun q => zx2 (Int32.toInt_inj.mp (by rw [q]; rfl))
  by_cases zx3 : x2 = 3
  · rw [if_pos zx3] at zf
    refine g_tabIn h (off := 74) 80 (by rw [zx3]; decide) (by rw [zx3]; decide) (by rw [zx3]; decide) (by decide) dX12_friend_6 ?_
    refine g_aload_n h 0 rfl dX12_friend_80 ?_
    refine gfX12_36 h (by decide : kd 0 = 10) dX12_friend_81 ?_
    refine g_aload_n h 0 rfl dX12_friend_84 ?_
    refine gfX12_52 h (by decide : kd 0 = 10) dX12_friend_85 ?_
    refine g_iload_n h 1 rfl dX12_friend_88 ?_
    refine g_iconst h 0 (v := 0) (by decide) dX12_friend_89 ?_
    have zf1 := b2_some zf
    clear zf; obtain ⟨vq6, Mq7, zq, zf⟩ := zf1
    refine g_callVwi (As := [rv G.1 81, .int x1, .int 0]) (rest := []) h ceX7_liking mlX12_226 imX7_liking seX7_liking (by rfl) (kd_lt (by rw [(by decide : kd 28 = 6)]; decide)) (ent_6 (by decide : kd 28 = 6)) rfl rfl ⟨by decide, by decide⟩ ⟨by decide, by decide⟩ rfl dX12_friend_90 rfl (Nat.le_of_ble_eq_true rfl) (cmX7_liking zq) ?_
    obtain rfl := Option.some.inj zf
    refine g_ret ?_
    exact g_iret h rfl ⟨_, rfl, rfl, rfl⟩ (Nat.le_of_ble_eq_true rfl) (Nat.le_of_ble_eq_true rfl) dX12_friend_93
  rw [if_neg zx3] at zf
  have zy3 : x2.toInt ≠ 3 := fun q => zx3 (Int32.toInt_inj.mp (by rw [q]; rfl))
  by_cases zx4 : x2 = 4
  · rw [if_pos zx4] at zf
    refine g_tabIn h (off := 88) 94 (by rw [zx4]; decide) (by rw [zx4]; decide) (by rw [zx4]; decide) (by decide) dX12_friend_6 ?_
    refine g_aload_n h 0 rfl dX12_friend_94 ?_
    refine gfX12_36 h (by decide : kd 0 = 10) dX12_friend_95 ?_
    refine g_aload_n h 0 rfl dX12_friend_98 ?_
    refine gfX12_52 h (by decide : kd 0 = 10) dX12_friend_99 ?_
    refine g_iload_n h 1 rfl dX12_friend_102 ?_
    refine g_iconst h 1 (v := 1) (by decide) dX12_friend_103 ?_
    have zf1 := b2_some zf
    clear zf; obtain ⟨vq8, Mq9, zq, zf⟩ := zf1
    refine g_callVwi (As := [rv G.1 81, .int x1, .int 1]) (rest := []) h ceX7_liking mlX12_226 imX7_liking seX7_liking (by rfl) (kd_lt (by rw [(by decide : kd 28 = 6)]; decide)) (ent_6 (by decide : kd 28 = 6)) rfl rfl ⟨by decide, by decide⟩ ⟨by decide, by decide⟩ rfl dX12_friend_104 rfl (Nat.le_of_ble_eq_true rfl) (cmX7_liking zq) ?_
    obtain rfl := Option.some.inj zf
    refine g_ret ?_
    exact g_iret h rfl ⟨_, rfl, rfl, rfl⟩ (Nat.le_of_ble_eq_true rfl) (Nat.le_of_ble_eq_true rfl) dX12_friend_107
  rw [if_neg zx4] at zf
  have zy4 : x2.toInt ≠ 4 := fun q => zx4 (Int32.toInt_inj.mp (by rw [q]; rfl))
  refine g_tabOut h 108 (by omega) (by decide) dX12_friend_6 ?_
  obtain rfl := Option.some.inj zf
  exact g_throwN h zE rfl clX12_168 initNSE (by decide +kernel : (RX12, 170, "what") ∈ wMs) hatX12_172 dX12_friend_108 dX12_friend_111 dX12_friend_112 dX12_friend_114 dX12_friend_117 (by decide) (Nat.le_of_ble_eq_true rfl) (by decide) (by decide) (by decide) (by decide)

theorem cxX12_friend {l : Launch} (zl : l.stackTraces = false) {w : WX} {M : Mem} {x1 : Int32} {x2 : Int32} {res : (Except Nat (Int32 × Mem))} (zf : fX12_friend M x1 x2 = some res) : CX l w yX12_friend cX12_friend 3 (some .int) { frames := 7, cells := 4, slots := 24, locals := 181 } 4 24 [rv w 0, .int x1, .int x2] M (okx Pwi res) (erx res) := by
  refine CX_of zl (by decide) (Nat.le_of_ble_eq_true rfl) (fun G hw hl h zE => ?_)
  subst hw
  exact kX12_friend_e0 h zE zf

-- X12_game
theorem kX12_game_b95 {G : GX} (h : OKm G cX12_game RX12 7 (some .int) { frames := 9, cells := 4, slots := 24, locals := 250 }) (zE : OKe G) {M0 : Mem} {a54 : Mem → Int32 → Int32 → Int32 → Int32 → Option (Except Nat (Int32 × Mem))} (zh54 : ∀ (M : Mem) (x3 : Int32) (x4 : Int32) (x5 : Int32) (x6 : Int32) (res : (Except Nat (Int32 × Mem))), a54 M x3 x4 x5 x6 = some res → GG G (QmX G (okx Pwi res) (erx res) M0 4 24) 3 18 54 [(0, rv G.1 0), (3, .int x3), (4, .int x4), (5, .int x5), (6, .int x6)] [] M) {M : Mem} {x3 : Int32} {x4 : Int32} {x5 : Int32} {x6 : Int32} {res : (Except Nat (Int32 × Mem))} (zf : fX12_game_b95 a54 M x3 x4 x5 x6 = some res) : GG G (QmX G (okx Pwi res) (erx res) M0 4 24) 3 18 95 [(0, rv G.1 0), (3, .int x3), (4, .int x4), (5, .int x5), (6, .int x6)] [] M := by
  unfold fX12_game_b95 at zf
  refine g_iinc h 6 4 rfl (v := x6 + 1) (congrArg (fun z => x6 + z) (by decide : Int32.ofInt (1) = (1 : Int32))) [(6, .int (x6 + 1)), (0, rv G.1 0), (3, .int x3), (4, .int x4), (5, .int x5)] (by decide) rfl dX12_game_95 ?_
  refine g_nmV zf ?_
  clear zf; intro vq3 zf
  refine g_goto h 54 (by decide) dX12_game_98 ?_
  refine g_sub h [1, 2, 3, 4, 0] rfl ?_
  exact zh54 _ _ _ _ _ _ zf

theorem kX12_game_l54 {G : GX} (h : OKm G cX12_game RX12 7 (some .int) { frames := 9, cells := 4, slots := 24, locals := 250 }) (zE : OKe G) {M0 : Mem} : ∀ (n : Nat) (M : Mem) (x3 : Int32) (x4 : Int32) (x5 : Int32) (x6 : Int32) (res : (Except Nat (Int32 × Mem))), fX12_game_l54 n M x3 x4 x5 x6 = some res → GG G (QmX G (okx Pwi res) (erx res) M0 4 24) 3 18 54 [(0, rv G.1 0), (3, .int x3), (4, .int x4), (5, .int x5), (6, .int x6)] [] M := by
  intro n
  induction n with
  | zero => intro M x3 x4 x5 x6 res zf; rw [fX12_game_l54] at zf; cases zf
  | succ n ih =>
    intro M x3 x4 x5 x6 res zf
    rw [fX12_game_l54] at zf
    refine g_iload h 4 rfl dX12_game_54 ?_
    refine g_iconst h 4 (v := 4) (by decide) dX12_game_56 ?_
    refine g_ic_ge h 101 (by decide) zf dX12_game_57 ?_ ?_ <;> clear zf <;> intro zf
    · refine g_iload_n h 1 rfl dX12_game_101 ?_
      refine g_if_ne h 110 (by decide) zf dX12_game_102 ?_ ?_ <;> clear zf <;> intro zf
      · refine g_iload h 3 rfl dX12_game_110 ?_
        obtain rfl := Option.some.inj zf
        refine g_ret ?_
        exact g_iret h rfl ⟨_, rfl, rfl, rfl⟩ (Nat.le_of_ble_eq_true rfl) (Nat.le_of_ble_eq_true rfl) dX12_game_112
      · refine g_iload h 2 rfl dX12_game_105 ?_
        refine g_goto h 112 (by decide) dX12_game_107 ?_
        obtain rfl := Option.some.inj zf
        refine g_ret ?_
        exact g_iret h rfl ⟨_, rfl, rfl, rfl⟩ (Nat.le_of_ble_eq_true rfl) (Nat.le_of_ble_eq_true rfl) dX12_game_112
    · refine g_aload_n h 0 rfl dX12_game_60 ?_
      refine gfX12_45 h (by decide : kd 0 = 10) dX12_game_61 ?_
      refine g_iload h 4 rfl dX12_game_64 ?_
      have zf1 := bd_some zf
      clear zf; obtain ⟨vq2, zq, zf⟩ := zf1
      refine g_callVri (As := [.int x6]) (rest := []) h ceX2_isAtRest mlX12_349 imX2_isAtRest seX2_isAtRest (by rfl) (kd_lt (by rw [(by decide : kd 49 = 1)]; decide)) (ent_1 (by decide : kd 49 = 1)) rfl rfl ⟨by decide, by decide⟩ ⟨by decide, by decide⟩ rfl dX12_game_66 rfl (Nat.le_of_ble_eq_true rfl) (cmX2_isAtRest zq) ?_
      refine g_if_eq h 95 (by decide) zf dX12_game_69 ?_ ?_ <;> clear zf <;> intro zf
      · refine g_sub h [0, 1, 2, 3, 4] rfl ?_
        exact kX12_game_b95 h zE ih zf
      · refine g_iinc h 4 2 rfl (v := x4 + 1) (congrArg (fun z => x4 + z) (by decide : Int32.ofInt (1) = (1 : Int32))) [(4, .int (x4 + 1)), (0, rv G.1 0), (3, .int x3), (5, .int x5), (6, .int x6)] (by decide) rfl dX12_game_72 ?_
        refine g_nmV zf ?_
        clear zf; intro vq4 zf
        refine g_iload h 3 rfl dX12_game_75 ?_
        refine g_iconst h (-1) (v := (-1)) (by decide) dX12_game_77 ?_
        refine g_ic_ne h 95 (by decide) zf dX12_game_78 ?_ ?_ <;> clear zf <;> intro zf
        · refine g_sub h [1, 2, 0, 3, 4] rfl ?_
          exact kX12_game_b95 h zE ih zf
        · refine g_bipush h 10 (v := 10) (by decide) dX12_game_81 ?_
          refine g_iload h 4 rfl dX12_game_83 ?_
          refine g_iconst h 1 (v := 1) (by decide) dX12_game_85 ?_
          refine g_ishr h dX12_game_86 ?_
          refine g_imul h dX12_game_87 ?_
          refine g_iload h 4 rfl dX12_game_88 ?_
          refine g_iconst h 1 (v := 1) (by decide) dX12_game_90 ?_
          refine g_iand h dX12_game_91 ?_
          refine g_iadd h dX12_game_92 ?_
          refine g_nmI zf ?_
          clear zf; intro vq5 zf
          refine g_istore h [(5, .int vq5), (4, .int vq4), (0, rv G.1 0), (3, .int x3), (6, .int x6)] (by decide) rfl dX12_game_93 ?_
          refine g_sub h [2, 3, 1, 0, 4] rfl ?_
          exact kX12_game_b95 h zE ih zf

theorem kX12_game_e0 {G : GX} (h : OKm G cX12_game RX12 7 (some .int) { frames := 9, cells := 4, slots := 24, locals := 250 }) (zE : OKe G) {M : Mem} {x1 : Int32} {x2 : Int32} {x3 : Int32} {res : (Except Nat (Int32 × Mem))} (zf : fX12_game M x1 x2 x3 = some res) : GG G (QmX G (okx Pwi res) (erx res) M 4 24) 0 0 0 [(0, rv G.1 0), (1, .int x1), (2, .int x2), (3, .int x3)] [] M := by
  unfold fX12_game at zf
  refine g_aload_n h 0 rfl dX12_game_0 ?_
  refine g_iload_n h 1 rfl dX12_game_1 ?_
  refine g_xneed (As := [.int x1]) (rest := []) h zE zf ceX12_needDeed mlX12_173 imX12_needDeed seX12_needDeed (by rfl) (by decide) (ent_10 (by decide)) rfl rfl ⟨by decide, by decide⟩ ⟨by decide, by decide⟩ rfl (by decide) (by decide) dX12_game_2 rfl (Nat.le_of_ble_eq_true rfl) (fun q zq => cxX12_needDeed zE.1 zq) ?_
  clear zf; intro zf
  refine g_aload_n h 0 rfl dX12_game_5 ?_
  refine g_iload_n h 2 rfl dX12_game_6 ?_
  refine g_xneed (As := [.int x2]) (rest := []) h zE zf ceX12_needDeed mlX12_173 imX12_needDeed seX12_needDeed (by rfl) (by decide) (ent_10 (by decide)) rfl rfl ⟨by decide, by decide⟩ ⟨by decide, by decide⟩ rfl (by decide) (by decide) dX12_game_7 rfl (Nat.le_of_ble_eq_true rfl) (fun q zq => cxX12_needDeed zE.1 zq) ?_
  clear zf; intro zf
  refine g_aload_n h 0 rfl dX12_game_10 ?_
  refine g_iload_n h 3 rfl dX12_game_11 ?_
  refine g_iconst h 1 (v := 1) (by decide) dX12_game_12 ?_
  refine g_xneed (As := [.int x3, .int 1]) (rest := []) h zE zf ceX12_needWhat mlX12_261 imX12_needWhat seX12_needWhat (by rfl) (by decide) (ent_10 (by decide)) rfl rfl ⟨by decide, by decide⟩ ⟨by decide, by decide⟩ rfl (by decide) (by decide) dX12_game_13 rfl (Nat.le_of_ble_eq_true rfl) (fun q zq => cxX12_needWhat zE.1 zq) ?_
  clear zf; intro zf
  refine g_iload_n h 1 rfl dX12_game_16 ?_
  refine g_iload_n h 2 rfl dX12_game_17 ?_
  refine g_ic_ne h 32 (by decide) zf dX12_game_18 ?_ ?_ <;> clear zf <;> intro zf
  · refine g_aload_n h 0 rfl dX12_game_32 ?_
    refine gfX12_45 h (by decide : kd 0 = 10) dX12_game_33 ?_
    refine g_aload_n h 0 rfl dX12_game_36 ?_
    refine gfX12_52 h (by decide : kd 0 = 10) dX12_game_37 ?_
    refine g_iload_n h 1 rfl dX12_game_40 ?_
    refine g_iload_n h 2 rfl dX12_game_41 ?_
    have zf1 := bd_some zf
    clear zf; obtain ⟨Mq1, zq, zf⟩ := zf1
    refine g_callVwv (As := [rv G.1 81, .int x1, .int x2]) (rest := []) h ceX2_playOut mlX12_345 imX2_playOut seX2_playOut (by rfl) (kd_lt (by rw [(by decide : kd 49 = 1)]; decide)) (ent_1 (by decide : kd 49 = 1)) rfl rfl ⟨by decide, by decide⟩ ⟨by decide, by decide⟩ rfl dX12_game_42 rfl (Nat.le_of_ble_eq_true rfl) (cmX2_playOut zq) ?_
    refine g_iconst h 0 (v := 0) (by decide) dX12_game_45 ?_
    refine g_istore h [(4, .int 0), (0, rv G.1 0), (1, .int x1), (2, .int x2), (3, .int x3)] (by decide) rfl dX12_game_46 ?_
    refine g_iconst h (-1) (v := (-1)) (by decide) dX12_game_48 ?_
    refine g_istore h [(5, .int (-1)), (4, .int 0), (0, rv G.1 0), (1, .int x1), (2, .int x2), (3, .int x3)] (by decide) rfl dX12_game_49 ?_
    refine g_iconst h 0 (v := 0) (by decide) dX12_game_51 ?_
    refine g_istore h [(6, .int 0), (5, .int (-1)), (4, .int 0), (0, rv G.1 0), (1, .int x1), (2, .int x2), (3, .int x3)] (by decide) rfl dX12_game_52 ?_
    refine g_sub h [3, 6, 2, 1, 0] rfl ?_
    exact kX12_game_l54 h zE _ _ _ _ _ _ _ zf
  · obtain rfl := Option.some.inj zf
    exact g_throwSW h zE 2 rfl rfl (by decide +kernel) clX12_93 initIAE (by decide +kernel : (RX12, 343, "both deeds are one") ∈ wMs) hatX12_97 dX12_game_21 dX12_game_24 dX12_game_25 dX12_game_28 dX12_game_31 (by decide) (Nat.le_of_ble_eq_true rfl) (by decide) (by decide) (by decide) (by decide)

theorem cxX12_game {l : Launch} (zl : l.stackTraces = false) {w : WX} {M : Mem} {x1 : Int32} {x2 : Int32} {x3 : Int32} {res : (Except Nat (Int32 × Mem))} (zf : fX12_game M x1 x2 x3 = some res) : CX l w yX12_game cX12_game 7 (some .int) { frames := 9, cells := 4, slots := 24, locals := 250 } 4 24 [rv w 0, .int x1, .int x2, .int x3] M (okx Pwi res) (erx res) := by
  refine CX_of zl (by decide) (Nat.le_of_ble_eq_true rfl) (fun G hw hl h zE => ?_)
  subst hw
  exact kX12_game_e0 h zE zf

-- X12_gift
theorem kX12_gift_b27 {G : GX} (h : OKm G cX12_gift RX12 4 (some .int) { frames := 7, cells := 4, slots := 24, locals := 243 }) (zE : OKe G) {M0 : Mem} {M : Mem} {res : (Except Nat (Int32 × Mem))} (zf : fX12_gift_b27 M = some res) : GG G (QmX G (okx Pwi res) (erx res) M0 4 24) 3 18 27 [(0, rv G.1 0)] [] M := by
  unfold fX12_gift_b27 at zf
  refine g_aload_n h 0 rfl dX12_gift_27 ?_
  refine g_iconst h 1 (v := 1) (by decide) dX12_gift_28 ?_
  have zf1 := b2_some zf
  clear zf; obtain ⟨vq1, Mq2, zq, zf⟩ := zf1
  refine g_callVwi (As := [.int 1]) (rest := []) h ceX12_refuse mlX12_238 imX12_refuse seX12_refuse (by rfl) (kd_lt (by rw [(by decide : kd 0 = 10)]; decide)) (ent_10 (by decide : kd 0 = 10)) rfl rfl ⟨by decide, by decide⟩ ⟨by decide, by decide⟩ rfl dX12_gift_29 rfl (Nat.le_of_ble_eq_true rfl) (cmX12_refuse zq) ?_
  obtain rfl := Option.some.inj zf
  refine g_ret ?_
  exact g_iret h rfl ⟨_, rfl, rfl, rfl⟩ (Nat.le_of_ble_eq_true rfl) (Nat.le_of_ble_eq_true rfl) dX12_gift_32

theorem kX12_gift_b83 {G : GX} (h : OKm G cX12_gift RX12 4 (some .int) { frames := 7, cells := 4, slots := 24, locals := 243 }) (zE : OKe G) {M0 : Mem} {M : Mem} {x1 : Int32} {s0 : Int32} {s1 : Int32} {res : (Except Nat (Int32 × Mem))} (zf : fX12_gift_b83 M x1 s0 s1 = some res) : GG G (QmX G (okx Pwi res) (erx res) M0 4 24) 3 18 83 [(0, rv G.1 0), (1, .int x1)] [.int s0, .int s1] M := by
  unfold fX12_gift_b83 at zf
  refine g_iadd h dX12_gift_83 ?_
  refine g_nmI zf ?_
  clear zf; intro vq9 zf
  refine g_istore_n h rfl [(3, .int vq9), (0, rv G.1 0), (1, .int x1)] (by decide) rfl dX12_gift_84 ?_
  refine g_aload_n h 1 rfl dX12_gift_85 ?_
  refine gfX12_52 h (by decide : kd 0 = 10) dX12_gift_86 ?_
  refine gfX12_220 h (by decide : kd 81 = 2) dX12_gift_89 ?_
  change GG G _ _ _ _ _ (rv G.1 85 :: _) _
  refine g_iload_n h 2 rfl dX12_gift_92 ?_
  refine g_bipush h (-9) (v := (-9)) (by decide) dX12_gift_93 ?_
  refine g_bipush h 9 (v := 9) (by decide) dX12_gift_95 ?_
  refine g_iload_n h 0 rfl dX12_gift_97 ?_
  refine g_mmin h mlX12_248 smMathmin initMath ceMathmin (by decide) (Nat.le_of_ble_eq_true rfl) (Nat.le_of_ble_eq_true rfl) (Nat.le_of_ble_eq_true rfl) dX12_gift_98 ?_
  refine g_nmI zf ?_
  clear zf; intro vq10 zf
  refine g_mmax h mlX12_254 smMathmax initMath ceMathmax (by decide) (Nat.le_of_ble_eq_true rfl) (Nat.le_of_ble_eq_true rfl) (Nat.le_of_ble_eq_true rfl) dX12_gift_101 ?_
  refine g_nmI zf ?_
  clear zf; intro vq11 zf
  refine g_iast h 6 (by decide : kd 85 = 20) (by decide) zf dX12_gift_104 ?_
  clear zf; intro Mq12 zf
  refine g_aload_n h 1 rfl dX12_gift_105 ?_
  refine gfX12_52 h (by decide : kd 0 = 10) dX12_gift_106 ?_
  refine gfX12_220 h (by decide : kd 81 = 2) dX12_gift_109 ?_
  change GG G _ _ _ _ _ (rv G.1 85 :: _) _
  refine g_iload_n h 2 rfl dX12_gift_112 ?_
  refine g_iald h 6 (by decide : kd 85 = 20) (by decide) zf dX12_gift_113 ?_
  clear zf; intro vq13 zf
  obtain rfl := Option.some.inj zf
  refine g_ret ?_
  exact g_iret h rfl ⟨_, rfl, rfl, rfl⟩ (Nat.le_of_ble_eq_true rfl) (Nat.le_of_ble_eq_true rfl) dX12_gift_114

theorem kX12_gift_e0 {G : GX} (h : OKm G cX12_gift RX12 4 (some .int) { frames := 7, cells := 4, slots := 24, locals := 243 }) (zE : OKe G) {M : Mem} {x1 : Int32} {x2 : Int32} {res : (Except Nat (Int32 × Mem))} (zf : fX12_gift M x1 x2 = some res) : GG G (QmX G (okx Pwi res) (erx res) M 4 24) 0 0 0 [(0, rv G.1 0), (1, .int x1), (2, .int x2)] [] M := by
  unfold fX12_gift at zf
  refine g_aload_n h 0 rfl dX12_gift_0 ?_
  refine g_iload_n h 1 rfl dX12_gift_1 ?_
  refine g_xneed (As := [.int x1]) (rest := []) h zE zf ceX12_needFriend mlX12_217 imX12_needFriend seX12_needFriend (by rfl) (by decide) (ent_10 (by decide)) rfl rfl ⟨by decide, by decide⟩ ⟨by decide, by decide⟩ rfl (by decide) (by decide) dX12_gift_2 rfl (Nat.le_of_ble_eq_true rfl) (fun q zq => cxX12_needFriend zE.1 zq) ?_
  clear zf; intro zf
  refine g_iload_n h 2 rfl dX12_gift_5 ?_
  refine g_iconst h 1 (v := 1) (by decide) dX12_gift_6 ?_
  refine g_ic_lt h 27 (by decide) zf dX12_gift_7 ?_ ?_ <;> clear zf <;> intro zf
  · refine g_cs h (kc' := 3) (ks' := 18) (by decide) (by decide) ?_
    refine g_sub h [0] rfl ?_
    exact kX12_gift_b27 h zE zf
  · refine g_iload_n h 2 rfl dX12_gift_10 ?_
    refine g_bipush h 9 (v := 9) (by decide) dX12_gift_11 ?_
    refine g_ic_gt h 27 (by decide) zf dX12_gift_13 ?_ ?_ <;> clear zf <;> intro zf
    · refine g_cs h (kc' := 3) (ks' := 18) (by decide) (by decide) ?_
      refine g_sub h [0] rfl ?_
      exact kX12_gift_b27 h zE zf
    · refine g_iload_n h 2 rfl dX12_gift_16 ?_
      refine g_aload_n h 0 rfl dX12_gift_17 ?_
      refine gfX12_52 h (by decide : kd 0 = 10) dX12_gift_18 ?_
      refine gfX12_123 h (by decide : kd 81 = 2) dX12_gift_21 ?_
      refine g_nmI zf ?_
      clear zf; intro vq3 zf
      refine g_ic_le h 33 (by decide) zf dX12_gift_24 ?_ ?_ <;> clear zf <;> intro zf
      · refine g_aload_n h 0 rfl dX12_gift_33 ?_
        refine gfX12_62 h (by decide : kd 0 = 10) dX12_gift_34 ?_
        refine g_aload_n h 0 rfl dX12_gift_37 ?_
        refine gfX12_52 h (by decide : kd 0 = 10) dX12_gift_38 ?_
        have zf1 := bd_some zf
        clear zf; obtain ⟨Mq4, zq, zf⟩ := zf1
        refine g_callVwv (As := [rv G.1 81]) (rest := []) h ceX1_keep mlX12_241 imX1_keep seX1_keep (by rfl) (kd_lt (by rw [(by decide : kd 91 = 0)]; decide)) (ent_0 (by decide : kd 91 = 0)) rfl rfl ⟨by decide, by decide⟩ ⟨by decide, by decide⟩ rfl dX12_gift_41 rfl (Nat.le_of_ble_eq_true rfl) (cmX1_keep zq) ?_
        refine g_aload_n h 0 rfl dX12_gift_44 ?_
        refine gfX12_52 h (by decide : kd 0 = 10) dX12_gift_45 ?_
        refine g_dup h rfl dX12_gift_48 ?_
        refine gfX12_123 h (by decide : kd 81 = 2) dX12_gift_49 ?_
        refine g_nmI zf ?_
        clear zf; intro vq5 zf
        refine g_iload_n h 2 rfl dX12_gift_52 ?_
        refine g_isub h dX12_gift_53 ?_
        refine pfX12_123 h (by decide : kd 81 = 2) dX12_gift_54 ?_
        refine g_nmM zf ?_
        clear zf; intro Mq6 zf
        refine g_aload_n h 0 rfl dX12_gift_57 ?_
        refine gfX12_52 h (by decide : kd 0 = 10) dX12_gift_58 ?_
        refine gfX12_220 h (by decide : kd 81 = 2) dX12_gift_61 ?_
        change GG G _ _ _ _ _ (rv G.1 85 :: _) _
        refine g_iload_n h 1 rfl dX12_gift_64 ?_
        refine g_iald h 6 (by decide : kd 85 = 20) (by decide) zf dX12_gift_65 ?_
        clear zf; intro vq7 zf
        refine g_aload_n h 0 rfl dX12_gift_66 ?_
        refine gfX12_52 h (by decide : kd 0 = 10) dX12_gift_67 ?_
        refine gfX12_135 h (by decide : kd 81 = 2) dX12_gift_70 ?_
        refine g_nmI zf ?_
        clear zf; intro vq8 zf
        refine g_iconst h 1 (v := 1) (by decide) dX12_gift_73 ?_
        refine g_ic_ne h 81 (by decide) zf dX12_gift_74 ?_ ?_ <;> clear zf <;> intro zf
        · refine g_iload_n h 2 rfl dX12_gift_81 ?_
          refine g_ineg h dX12_gift_82 ?_
          refine g_cs h (kc' := 3) (ks' := 18) (by decide) (by decide) ?_
          refine g_sub h [0, 1] rfl ?_
          exact kX12_gift_b83 h zE zf
        · refine g_iload_n h 2 rfl dX12_gift_77 ?_
          refine g_goto h 83 (by decide) dX12_gift_78 ?_
          refine g_cs h (kc' := 3) (ks' := 18) (by decide) (by decide) ?_
          refine g_sub h [0, 1] rfl ?_
          exact kX12_gift_b83 h zE zf
      · refine g_cs h (kc' := 3) (ks' := 18) (by decide) (by decide) ?_
        refine g_sub h [0] rfl ?_
        exact kX12_gift_b27 h zE zf

theorem cxX12_gift {l : Launch} (zl : l.stackTraces = false) {w : WX} {M : Mem} {x1 : Int32} {x2 : Int32} {res : (Except Nat (Int32 × Mem))} (zf : fX12_gift M x1 x2 = some res) : CX l w yX12_gift cX12_gift 4 (some .int) { frames := 7, cells := 4, slots := 24, locals := 243 } 4 24 [rv w 0, .int x1, .int x2] M (okx Pwi res) (erx res) := by
  refine CX_of zl (by decide) (Nat.le_of_ble_eq_true rfl) (fun G hw hl h zE => ?_)
  subst hw
  exact kX12_gift_e0 h zE zf

-- X12_needGate
theorem kX12_needGate_b21 {G : GX} (h : OKm G cX12_needGate RX12 2 none { frames := 6, cells := 1, slots := 6, locals := 160 }) (zE : OKe G) {M : Mem} {res : (Except Nat Unit)} (zf : fX12_needGate_b21 M = some res) : GG G (QmX G (okx (fun _ => Pnn M) res) (erx res) M 1 6) 0 0 21 [] [] M := by
  unfold fX12_needGate_b21 at zf
  obtain rfl := Option.some.inj zf
  exact g_throwNW h zE rfl clX12_168 initNSE (by decide +kernel : (RX12, 316, "no such gate") ∈ wMs) hatX12_172 dX12_needGate_21 dX12_needGate_24 dX12_needGate_25 dX12_needGate_28 dX12_needGate_31 (by decide) (Nat.le_of_ble_eq_true rfl) (by decide) (by decide) (by decide) (by decide)

theorem kX12_needGate_e0 {G : GX} (h : OKm G cX12_needGate RX12 2 none { frames := 6, cells := 1, slots := 6, locals := 160 }) (zE : OKe G) {M : Mem} {x1 : Int32} {res : (Except Nat Unit)} (zf : fX12_needGate M x1 = some res) : GG G (QmX G (okx (fun _ => Pnn M) res) (erx res) M 1 6) 0 0 0 [(0, rv G.1 0), (1, .int x1)] [] M := by
  unfold fX12_needGate at zf
  refine g_iload_n h 1 rfl dX12_needGate_0 ?_
  refine g_if_lt h 21 (by decide) zf dX12_needGate_1 ?_ ?_ <;> clear zf <;> intro zf
  · refine g_sub h [] rfl ?_
    exact kX12_needGate_b21 h zE zf
  · refine g_iload_n h 1 rfl dX12_needGate_4 ?_
    refine g_aload_n h 0 rfl dX12_needGate_5 ?_
    refine gfX12_36 h (by decide : kd 0 = 10) dX12_needGate_6 ?_
    refine gfX12_111 h (by decide : kd 28 = 6) dX12_needGate_9 ?_
    refine g_nmR zf ?_
    clear zf; intro oq1 zf
    have zf1 := pre_ck zf
    clear zf; obtain ⟨zk_oq1, zf⟩ := zf1
    refine gfX12_165 h zk_oq1 dX12_needGate_12 ?_
    refine gfX12_162 h (kf4_11 zk_oq1) dX12_needGate_15 ?_
    refine g_nmI zf ?_
    clear zf; intro vq2 zf
    refine g_ic_lt h 32 (by decide) zf dX12_needGate_18 ?_ ?_ <;> clear zf <;> intro zf
    · obtain rfl := Option.some.inj zf
      refine g_ret ?_
      exact g_vret h rfl ⟨_, rfl, rfl, rfl⟩ (Nat.le_of_ble_eq_true rfl) (Nat.le_of_ble_eq_true rfl) dX12_needGate_32
    · refine g_sub h [] rfl ?_
      exact kX12_needGate_b21 h zE zf

theorem cxX12_needGate {l : Launch} (zl : l.stackTraces = false) {w : WX} {M : Mem} {x1 : Int32} {res : (Except Nat Unit)} (zf : fX12_needGate M x1 = some res) : CX l w yX12_needGate cX12_needGate 2 none { frames := 6, cells := 1, slots := 6, locals := 160 } 1 6 [rv w 0, .int x1] M (okx (fun _ => Pnn M) res) (erx res) := by
  refine CX_of zl (by decide) (Nat.le_of_ble_eq_true rfl) (fun G hw hl h zE => ?_)
  subst hw
  exact kX12_needGate_e0 h zE zf

-- X12_guarded
theorem kX12_guarded_l9 {G : GX} (h : OKm G cX12_guarded RX12 4 (some .int) { frames := 7, cells := 4, slots := 24, locals := 181 }) (zE : OKe G) {M0 : Mem} : ∀ (n : Nat) (M : Mem) (x1 : Int32) (x2 : Int32) (x3 : Int32) (res : (Except Nat Int32)), fX12_guarded_l9 n M x1 x2 x3 = some res → GG G (QmX G (okx (fun zr => Pri zr M) res) (erx res) M0 4 24) 3 18 9 [(0, rv G.1 0), (1, .int x1), (2, .int x2), (3, .int x3)] [] M := by
  intro n
  induction n with
  | zero => intro M x1 x2 x3 res zf; rw [fX12_guarded_l9] at zf; cases zf
  | succ n ih =>
    intro M x1 x2 x3 res zf
    rw [fX12_guarded_l9] at zf
    refine g_iload_n h 3 rfl dX12_guarded_9 ?_
    refine g_aload_n h 0 rfl dX12_guarded_10 ?_
    refine gfX12_36 h (by decide : kd 0 = 10) dX12_guarded_11 ?_
    refine gfX12_111 h (by decide : kd 28 = 6) dX12_guarded_14 ?_
    refine g_nmR zf ?_
    clear zf; intro oq1 zf
    have zf1 := pre_ck zf
    clear zf; obtain ⟨zk_oq1, zf⟩ := zf1
    refine gfX12_158 h zk_oq1 dX12_guarded_17 ?_
    refine gfX12_162 h (kf4_8 zk_oq1) dX12_guarded_20 ?_
    refine g_nmI zf ?_
    clear zf; intro vq2 zf
    refine g_ic_ge h 43 (by decide) zf dX12_guarded_23 ?_ ?_ <;> clear zf <;> intro zf
    · refine g_iload_n h 2 rfl dX12_guarded_43 ?_
      obtain rfl := Option.some.inj zf
      refine g_ret ?_
      exact g_iret h rfl ⟨_, rfl, rfl, rfl⟩ (Nat.le_of_ble_eq_true rfl) (Nat.le_of_ble_eq_true rfl) dX12_guarded_44
    · refine g_iload_n h 2 rfl dX12_guarded_26 ?_
      refine g_aload_n h 0 rfl dX12_guarded_27 ?_
      refine g_iload_n h 3 rfl dX12_guarded_28 ?_
      refine g_iload_n h 1 rfl dX12_guarded_29 ?_
      have zf1 := bd_some zf
      clear zf; obtain ⟨vq3, zq, zf⟩ := zf1
      refine g_callVri (As := [.int x3, .int x1]) (rest := [.int x2]) h ceX12_edge mlX12_291 imX12_edge seX12_edge (by rfl) (kd_lt (by rw [(by decide : kd 0 = 10)]; decide)) (ent_10 (by decide : kd 0 = 10)) rfl rfl ⟨by decide, by decide⟩ ⟨by decide, by decide⟩ rfl dX12_guarded_30 rfl (Nat.le_of_ble_eq_true rfl) (cmX12_edge zq) ?_
      refine g_mmax h mlX12_254 smMathmax initMath ceMathmax (by decide) (Nat.le_of_ble_eq_true rfl) (Nat.le_of_ble_eq_true rfl) (Nat.le_of_ble_eq_true rfl) dX12_guarded_33 ?_
      refine g_nmI zf ?_
      clear zf; intro vq4 zf
      refine g_istore_n h rfl [(2, .int vq4), (0, rv G.1 0), (1, .int x1), (3, .int x3)] (by decide) rfl dX12_guarded_36 ?_
      refine g_iinc h 3 3 rfl (v := x3 + 1) (congrArg (fun z => x3 + z) (by decide : Int32.ofInt (1) = (1 : Int32))) [(3, .int (x3 + 1)), (2, .int vq4), (0, rv G.1 0), (1, .int x1)] (by decide) rfl dX12_guarded_37 ?_
      refine g_nmV zf ?_
      clear zf; intro vq5 zf
      refine g_goto h 9 (by decide) dX12_guarded_40 ?_
      refine g_sub h [2, 3, 1, 0] rfl ?_
      exact ih _ _ _ _ _ zf

theorem kX12_guarded_e0 {G : GX} (h : OKm G cX12_guarded RX12 4 (some .int) { frames := 7, cells := 4, slots := 24, locals := 181 }) (zE : OKe G) {M : Mem} {x1 : Int32} {res : (Except Nat Int32)} (zf : fX12_guarded M x1 = some res) : GG G (QmX G (okx (fun zr => Pri zr M) res) (erx res) M 4 24) 0 0 0 [(0, rv G.1 0), (1, .int x1)] [] M := by
  unfold fX12_guarded at zf
  refine g_aload_n h 0 rfl dX12_guarded_0 ?_
  refine g_iload_n h 1 rfl dX12_guarded_1 ?_
  refine g_xneed (As := [.int x1]) (rest := []) h zE zf ceX12_needGate mlX12_288 imX12_needGate seX12_needGate (by rfl) (by decide) (ent_10 (by decide)) rfl rfl ⟨by decide, by decide⟩ ⟨by decide, by decide⟩ rfl (by decide) (by decide) dX12_guarded_2 rfl (Nat.le_of_ble_eq_true rfl) (fun q zq => cxX12_needGate zE.1 zq) ?_
  clear zf; intro zf
  refine g_iconst h 0 (v := 0) (by decide) dX12_guarded_5 ?_
  refine g_istore_n h rfl [(2, .int 0), (0, rv G.1 0), (1, .int x1)] (by decide) rfl dX12_guarded_6 ?_
  refine g_iconst h 0 (v := 0) (by decide) dX12_guarded_7 ?_
  refine g_istore_n h rfl [(3, .int 0), (2, .int 0), (0, rv G.1 0), (1, .int x1)] (by decide) rfl dX12_guarded_8 ?_
  refine g_cs h (kc' := 3) (ks' := 18) (by decide) (by decide) ?_
  refine g_sub h [2, 3, 1, 0] rfl ?_
  exact kX12_guarded_l9 h zE _ _ _ _ _ _ zf

theorem cxX12_guarded {l : Launch} (zl : l.stackTraces = false) {w : WX} {M : Mem} {x1 : Int32} {res : (Except Nat Int32)} (zf : fX12_guarded M x1 = some res) : CX l w yX12_guarded cX12_guarded 4 (some .int) { frames := 7, cells := 4, slots := 24, locals := 181 } 4 24 [rv w 0, .int x1] M (okx (fun zr => Pri zr M) res) (erx res) := by
  refine CX_of zl (by decide) (Nat.le_of_ble_eq_true rfl) (fun G hw hl h zE => ?_)
  subst hw
  exact kX12_guarded_e0 h zE zf

-- X12_highest
theorem kX12_highest_b71 {G : GX} (h : OKm G cX12_highest RX12 5 (some .int) { frames := 9, cells := 4, slots := 24, locals := 229 }) (zE : OKe G) {M0 : Mem} {a30 : Mem → Int32 → Int32 → Int32 → Int32 → Option (Except Nat (Int32 × Mem))} (zh30 : ∀ (M : Mem) (x1 : Int32) (x2 : Int32) (x3 : Int32) (x4 : Int32) (res : (Except Nat (Int32 × Mem))), a30 M x1 x2 x3 x4 = some res → GG G (QmX G (okx Pwi res) (erx res) M0 4 24) 3 18 30 [(0, rv G.1 0), (1, .int x1), (2, .int x2), (3, .int x3), (4, .int x4)] [] M) {M : Mem} {x1 : Int32} {x2 : Int32} {x3 : Int32} {x4 : Int32} {res : (Except Nat (Int32 × Mem))} (zf : fX12_highest_b71 a30 M x1 x2 x3 x4 = some res) : GG G (QmX G (okx Pwi res) (erx res) M0 4 24) 3 18 71 [(0, rv G.1 0), (1, .int x1), (2, .int x2), (3, .int x3), (4, .int x4)] [] M := by
  unfold fX12_highest_b71 at zf
  refine g_iinc h 4 4 rfl (v := x4 + 1) (congrArg (fun z => x4 + z) (by decide : Int32.ofInt (1) = (1 : Int32))) [(4, .int (x4 + 1)), (0, rv G.1 0), (1, .int x1), (2, .int x2), (3, .int x3)] (by decide) rfl dX12_highest_71 ?_
  refine g_nmV zf ?_
  clear zf; intro vq5 zf
  refine g_goto h 30 (by decide) dX12_highest_74 ?_
  refine g_sub h [1, 2, 3, 4, 0] rfl ?_
  exact zh30 _ _ _ _ _ _ zf

theorem kX12_highest_l30 {G : GX} (h : OKm G cX12_highest RX12 5 (some .int) { frames := 9, cells := 4, slots := 24, locals := 229 }) (zE : OKe G) {M0 : Mem} : ∀ (n : Nat) (M : Mem) (x1 : Int32) (x2 : Int32) (x3 : Int32) (x4 : Int32) (res : (Except Nat (Int32 × Mem))), fX12_highest_l30 n M x1 x2 x3 x4 = some res → GG G (QmX G (okx Pwi res) (erx res) M0 4 24) 3 18 30 [(0, rv G.1 0), (1, .int x1), (2, .int x2), (3, .int x3), (4, .int x4)] [] M := by
  intro n
  induction n with
  | zero => intro M x1 x2 x3 x4 res zf; rw [fX12_highest_l30] at zf; cases zf
  | succ n ih =>
    intro M x1 x2 x3 x4 res zf
    rw [fX12_highest_l30] at zf
    refine g_iload h 4 rfl dX12_highest_30 ?_
    refine g_bipush h 60 (v := 60) (by decide) dX12_highest_32 ?_
    refine g_ic_gt h 77 (by decide) zf dX12_highest_34 ?_ ?_ <;> clear zf <;> intro zf
    · refine g_iload_n h 1 rfl dX12_highest_77 ?_
      refine g_if_ne h 85 (by decide) zf dX12_highest_78 ?_ ?_ <;> clear zf <;> intro zf
      · refine g_iload_n h 3 rfl dX12_highest_85 ?_
        obtain rfl := Option.some.inj zf
        refine g_ret ?_
        exact g_iret h rfl ⟨_, rfl, rfl, rfl⟩ (Nat.le_of_ble_eq_true rfl) (Nat.le_of_ble_eq_true rfl) dX12_highest_86
      · refine g_iload_n h 2 rfl dX12_highest_81 ?_
        refine g_goto h 86 (by decide) dX12_highest_82 ?_
        obtain rfl := Option.some.inj zf
        refine g_ret ?_
        exact g_iret h rfl ⟨_, rfl, rfl, rfl⟩ (Nat.le_of_ble_eq_true rfl) (Nat.le_of_ble_eq_true rfl) dX12_highest_86
    · refine g_aload_n h 0 rfl dX12_highest_37 ?_
      refine gfX12_36 h (by decide : kd 0 = 10) dX12_highest_38 ?_
      refine g_aload_n h 0 rfl dX12_highest_41 ?_
      refine gfX12_56 h (by decide : kd 0 = 10) dX12_highest_42 ?_
      refine g_iconst h 1 (v := 1) (by decide) dX12_highest_45 ?_
      have zf1 := bd_some zf
      clear zf; obtain ⟨Mq3, zq, zf⟩ := zf1
      refine g_callVwv (As := [rv G.1 86, .int 1]) (rest := []) h ceX7_passMany mlX12_244 imX7_passMany seX7_passMany (by rfl) (kd_lt (by rw [(by decide : kd 28 = 6)]; decide)) (ent_6 (by decide : kd 28 = 6)) rfl rfl ⟨by decide, by decide⟩ ⟨by decide, by decide⟩ rfl dX12_highest_46 rfl (Nat.le_of_ble_eq_true rfl) (cmX7_passMany zq) ?_
      refine g_aload_n h 0 rfl dX12_highest_49 ?_
      refine gfX12_56 h (by decide : kd 0 = 10) dX12_highest_50 ?_
      refine gfX12_126 h (by decide : kd 86 = 2) dX12_highest_53 ?_
      refine g_nmI zf ?_
      clear zf; intro vq4 zf
      refine g_iload_n h 3 rfl dX12_highest_56 ?_
      refine g_ic_le h 71 (by decide) zf dX12_highest_57 ?_ ?_ <;> clear zf <;> intro zf
      · refine g_sub h [0, 1, 2, 3, 4] rfl ?_
        exact kX12_highest_b71 h zE ih zf
      · refine g_iload h 4 rfl dX12_highest_60 ?_
        refine g_istore_n h rfl [(2, .int x4), (0, rv G.1 0), (1, .int x1), (3, .int x3), (4, .int x4)] (by decide) rfl dX12_highest_62 ?_
        refine g_aload_n h 1 rfl dX12_highest_63 ?_
        refine gfX12_56 h (by decide : kd 0 = 10) dX12_highest_64 ?_
        refine gfX12_126 h (by decide : kd 86 = 2) dX12_highest_67 ?_
        refine g_nmI zf ?_
        clear zf; intro vq6 zf
        refine g_istore_n h rfl [(3, .int vq6), (2, .int x4), (0, rv G.1 0), (1, .int x1), (4, .int x4)] (by decide) rfl dX12_highest_70 ?_
        refine g_sub h [2, 3, 1, 0, 4] rfl ?_
        exact kX12_highest_b71 h zE ih zf

theorem kX12_highest_e0 {G : GX} (h : OKm G cX12_highest RX12 5 (some .int) { frames := 9, cells := 4, slots := 24, locals := 229 }) (zE : OKe G) {M : Mem} {x1 : Int32} {res : (Except Nat (Int32 × Mem))} (zf : fX12_highest M x1 = some res) : GG G (QmX G (okx Pwi res) (erx res) M 4 24) 0 0 0 [(0, rv G.1 0), (1, .int x1)] [] M := by
  unfold fX12_highest at zf
  refine g_aload_n h 0 rfl dX12_highest_0 ?_
  refine g_iload_n h 1 rfl dX12_highest_1 ?_
  refine g_iconst h 1 (v := 1) (by decide) dX12_highest_2 ?_
  refine g_xneed (As := [.int x1, .int 1]) (rest := []) h zE zf ceX12_needWhat mlX12_261 imX12_needWhat seX12_needWhat (by rfl) (by decide) (ent_10 (by decide)) rfl rfl ⟨by decide, by decide⟩ ⟨by decide, by decide⟩ rfl (by decide) (by decide) dX12_highest_3 rfl (Nat.le_of_ble_eq_true rfl) (fun q zq => cxX12_needWhat zE.1 zq) ?_
  clear zf; intro zf
  refine g_aload_n h 0 rfl dX12_highest_6 ?_
  refine gfX12_56 h (by decide : kd 0 = 10) dX12_highest_7 ?_
  refine g_aload_n h 0 rfl dX12_highest_10 ?_
  refine gfX12_52 h (by decide : kd 0 = 10) dX12_highest_11 ?_
  have zf1 := bd_some zf
  clear zf; obtain ⟨Mq1, zq, zf⟩ := zf1
  refine g_callVwv (As := [rv G.1 81]) (rest := []) h ceX3_become mlX12_115 imX3_become seX3_become (by rfl) (kd_lt (by rw [(by decide : kd 86 = 2)]; decide)) (ent_2 (by decide : kd 86 = 2)) rfl rfl ⟨by decide, by decide⟩ ⟨by decide, by decide⟩ rfl dX12_highest_14 rfl (Nat.le_of_ble_eq_true rfl) (cmX3_become zq) ?_
  refine g_iconst h 0 (v := 0) (by decide) dX12_highest_17 ?_
  refine g_istore_n h rfl [(2, .int 0), (0, rv G.1 0), (1, .int x1)] (by decide) rfl dX12_highest_18 ?_
  refine g_aload_n h 1 rfl dX12_highest_19 ?_
  refine gfX12_56 h (by decide : kd 0 = 10) dX12_highest_20 ?_
  refine gfX12_126 h (by decide : kd 86 = 2) dX12_highest_23 ?_
  refine g_nmI zf ?_
  clear zf; intro vq2 zf
  refine g_istore_n h rfl [(3, .int vq2), (2, .int 0), (0, rv G.1 0), (1, .int x1)] (by decide) rfl dX12_highest_26 ?_
  refine g_iconst h 1 (v := 1) (by decide) dX12_highest_27 ?_
  refine g_istore h [(4, .int 1), (3, .int vq2), (2, .int 0), (0, rv G.1 0), (1, .int x1)] (by decide) rfl dX12_highest_28 ?_
  refine g_cs h (kc' := 3) (ks' := 18) (by decide) (by decide) ?_
  refine g_sub h [3, 4, 2, 1, 0] rfl ?_
  exact kX12_highest_l30 h zE _ _ _ _ _ _ _ zf

theorem cxX12_highest {l : Launch} (zl : l.stackTraces = false) {w : WX} {M : Mem} {x1 : Int32} {res : (Except Nat (Int32 × Mem))} (zf : fX12_highest M x1 = some res) : CX l w yX12_highest cX12_highest 5 (some .int) { frames := 9, cells := 4, slots := 24, locals := 229 } 4 24 [rv w 0, .int x1] M (okx Pwi res) (erx res) := by
  refine CX_of zl (by decide) (Nat.le_of_ble_eq_true rfl) (fun G hw hl h zE => ?_)
  subst hw
  exact kX12_highest_e0 h zE zf

-- X12_land
theorem kX12_land_b12 {G : GX} (h : OKm G cX12_land RX12 4 (some .int) { frames := 116, cells := 4, slots := 24, locals := 2798 }) (zE : OKe G) {M : Mem} {res : (Except Nat (Int32 × Mem))} (zf : fX12_land_b12 M = some res) : GG G (QmX G (okx Pwi res) (erx res) M 4 24) 3 18 12 [] [] M := by
  unfold fX12_land_b12 at zf
  obtain rfl := Option.some.inj zf
  exact g_throwS h zE 2 rfl rfl (by decide +kernel) clX12_93 initIAE (by decide +kernel : (RX12, 95, "the tape has not so many bytes") ∈ wMs) hatX12_97 dX12_land_12 dX12_land_15 dX12_land_16 dX12_land_18 dX12_land_21 (by decide) (Nat.le_of_ble_eq_true rfl) (by decide) (by decide) (by decide) (by decide)

theorem kX12_land_e0 {G : GX} (h : OKm G cX12_land RX12 4 (some .int) { frames := 116, cells := 4, slots := 24, locals := 2798 }) (zE : OKe G) {M : Mem} {x1 : Int32} {res : (Except Nat (Int32 × Mem))} (zf : fX12_land M x1 = some res) : GG G (QmX G (okx Pwi res) (erx res) M 4 24) 0 0 0 [(0, rv G.1 0), (1, .int x1)] [] M := by
  unfold fX12_land at zf
  refine g_iload_n h 1 rfl dX12_land_0 ?_
  refine g_if_lt h 12 (by decide) zf dX12_land_1 ?_ ?_ <;> clear zf <;> intro zf
  · refine g_cs h (kc' := 3) (ks' := 18) (by decide) (by decide) ?_
    refine g_sub h [] rfl ?_
    exact kX12_land_b12 h zE zf
  · refine g_iload_n h 1 rfl dX12_land_4 ?_
    refine g_aload_n h 0 rfl dX12_land_5 ?_
    refine gfX12_13 h (by decide : kd 0 = 10) dX12_land_6 ?_
    refine g_nmI zf ?_
    clear zf; intro vq1 zf
    refine g_ic_le h 22 (by decide) zf dX12_land_9 ?_ ?_ <;> clear zf <;> intro zf
    · refine g_aload_n h 0 rfl dX12_land_22 ?_
      refine g_iconst h 0 (v := 0) (by decide) dX12_land_23 ?_
      refine pfX12_13 h (by decide : kd 0 = 10) dX12_land_24 ?_
      refine g_nmM zf ?_
      clear zf; intro Mq2 zf
      refine g_aload_n h 0 rfl dX12_land_27 ?_
      refine gfX12_29 h (by decide : kd 0 = 10) dX12_land_28 ?_
      refine g_iload_n h 1 rfl dX12_land_31 ?_
      have zf1 := b2_some zf
      clear zf; obtain ⟨vq3, Mq4, zq, zf⟩ := zf1
      refine g_callVwi (As := [.int x1]) (rest := []) h ceX6_parse mlX12_100 imX6_parse seX6_parse (by rfl) (kd_lt (by rw [(by decide : kd 3 = 5)]; decide)) (ent_5 (by decide : kd 3 = 5)) rfl rfl ⟨by decide, by decide⟩ ⟨by decide, by decide⟩ rfl dX12_land_32 rfl (Nat.le_of_ble_eq_true rfl) (cmX6_parse zq) ?_
      refine g_istore_n h rfl [(2, .int vq3), (0, rv G.1 0), (1, .int x1)] (by decide) rfl dX12_land_35 ?_
      refine g_iload_n h 0 rfl dX12_land_36 ?_
      refine g_if_eq h 63 (by decide) zf dX12_land_37 ?_ ?_ <;> clear zf <;> intro zf
      · refine g_aload_n h 1 rfl dX12_land_63 ?_
        refine g_iconst h (-1) (v := (-1)) (by decide) dX12_land_64 ?_
        refine pfX12_17 h (by decide : kd 0 = 10) dX12_land_65 ?_
        refine g_nmM zf ?_
        clear zf; intro Mq5 zf
        refine g_aload_n h 1 rfl dX12_land_68 ?_
        refine gfX12_29 h (by decide : kd 0 = 10) dX12_land_69 ?_
        refine gfX12_107 h (by decide : kd 3 = 5) dX12_land_72 ?_
        refine g_nmR zf ?_
        clear zf; intro oq6 zf
        have zf1 := pre_ck zf
        clear zf; obtain ⟨zk_oq6, zf⟩ := zf1
        refine g_astore_n h rfl [(3, rv G.1 oq6), (2, .int vq3), (0, rv G.1 0), (1, .int x1)] (by decide) rfl dX12_land_75 ?_
        refine g_aload_n h 2 rfl dX12_land_76 ?_
        refine gfX12_29 h (by decide : kd 0 = 10) dX12_land_77 ?_
        refine g_aload_n h 2 rfl dX12_land_80 ?_
        refine gfX12_36 h (by decide : kd 0 = 10) dX12_land_81 ?_
        refine gfX12_111 h (by decide : kd 28 = 6) dX12_land_84 ?_
        refine g_nmR zf ?_
        clear zf; intro oq7 zf
        have zf1 := pre_ck zf
        clear zf; obtain ⟨zk_oq7, zf⟩ := zf1
        refine pfX12_107 h (by decide : kd 3 = 5) dX12_land_87 ?_
        refine g_nmM zf ?_
        clear zf; intro Mq8 zf
        refine g_aload_n h 2 rfl dX12_land_90 ?_
        refine gfX12_36 h (by decide : kd 0 = 10) dX12_land_91 ?_
        refine g_aload_n h 0 rfl dX12_land_94 ?_
        refine pfX12_111 h (by decide : kd 28 = 6) dX12_land_95 ?_
        refine g_nmM zf ?_
        clear zf; intro Mq9 zf
        refine g_aload_n h 2 rfl dX12_land_98 ?_
        refine gfX12_52 h (by decide : kd 0 = 10) dX12_land_99 ?_
        refine g_aload_n h 2 rfl dX12_land_102 ?_
        refine gfX12_29 h (by decide : kd 0 = 10) dX12_land_103 ?_
        refine gfX12_112 h (by decide : kd 3 = 5) dX12_land_106 ?_
        have zf1 := bd_some zf
        clear zf; obtain ⟨Mq10, zq, zf⟩ := zf1
        refine g_callVwv (As := [rv G.1 21]) (rest := []) h ceX3_become mlX12_115 imX3_become seX3_become (by rfl) (kd_lt (by rw [(by decide : kd 81 = 2)]; decide)) (ent_2 (by decide : kd 81 = 2)) rfl rfl ⟨by decide, by decide⟩ ⟨by decide, by decide⟩ rfl dX12_land_109 rfl (Nat.le_of_ble_eq_true rfl) (cmX3_become zq) ?_
        refine g_aload_n h 2 rfl dX12_land_112 ?_
        refine gfX12_62 h (by decide : kd 0 = 10) dX12_land_113 ?_
        refine g_iconst h 0 (v := 0) (by decide) dX12_land_116 ?_
        refine pfX12_119 h (by decide : kd 91 = 0) dX12_land_117 ?_
        refine g_nmM zf ?_
        clear zf; intro Mq11 zf
        refine g_aload_n h 2 rfl dX12_land_120 ?_
        refine gfX12_69 h (by decide : kd 0 = 10) dX12_land_121 ?_
        refine g_iconst h 0 (v := 0) (by decide) dX12_land_124 ?_
        refine pfX12_122 h (by decide : kd 93 = 8) dX12_land_125 ?_
        refine g_nmM zf ?_
        clear zf; intro Mq12 zf
        refine g_aload_n h 2 rfl dX12_land_128 ?_
        refine g_iconst h 0 (v := 0) (by decide) dX12_land_129 ?_
        refine pfX12_73 h (by decide : kd 0 = 10) (by decide) dX12_land_130 ?_
        refine g_nmM zf ?_
        clear zf; intro Mq13 zf
        refine g_iconst h 0 (v := 0) (by decide) dX12_land_133 ?_
        obtain rfl := Option.some.inj zf
        refine g_ret ?_
        exact g_iret h rfl ⟨_, rfl, rfl, rfl⟩ (Nat.le_of_ble_eq_true rfl) (Nat.le_of_ble_eq_true rfl) dX12_land_134
      · refine g_aload_n h 1 rfl dX12_land_40 ?_
        refine g_aload_n h 1 rfl dX12_land_41 ?_
        refine gfX12_29 h (by decide : kd 0 = 10) dX12_land_42 ?_
        refine gfX12_104 h (by decide : kd 3 = 5) dX12_land_45 ?_
        refine g_nmI zf ?_
        clear zf; intro vq14 zf
        refine pfX12_17 h (by decide : kd 0 = 10) dX12_land_48 ?_
        refine g_nmM zf ?_
        clear zf; intro Mq15 zf
        refine g_aload_n h 1 rfl dX12_land_51 ?_
        refine gfX12_20 h (by decide : kd 0 = 10) dX12_land_52 ?_
        refine g_iconst h 0 (v := 0) (by decide) dX12_land_55 ?_
        refine g_dup2 h rfl rfl dX12_land_56 ?_
        refine g_iald h 3 (by decide : kd 2 = 20) (by decide) zf dX12_land_57 ?_
        clear zf; intro vq16 zf
        refine g_iconst h 1 (v := 1) (by decide) dX12_land_58 ?_
        refine g_iadd h dX12_land_59 ?_
        refine g_iast h 3 (by decide : kd 2 = 20) (by decide) zf dX12_land_60 ?_
        clear zf; intro Mq17 zf
        refine g_iload_n h 0 rfl dX12_land_61 ?_
        obtain rfl := Option.some.inj zf
        refine g_ret ?_
        exact g_iret h rfl ⟨_, rfl, rfl, rfl⟩ (Nat.le_of_ble_eq_true rfl) (Nat.le_of_ble_eq_true rfl) dX12_land_62
    · refine g_cs h (kc' := 3) (ks' := 18) (by decide) (by decide) ?_
      refine g_sub h [] rfl ?_
      exact kX12_land_b12 h zE zf

theorem cxX12_land {l : Launch} (zl : l.stackTraces = false) {w : WX} {M : Mem} {x1 : Int32} {res : (Except Nat (Int32 × Mem))} (zf : fX12_land M x1 = some res) : CX l w yX12_land cX12_land 4 (some .int) { frames := 116, cells := 4, slots := 24, locals := 2798 } 4 24 [rv w 0, .int x1] M (okx Pwi res) (erx res) := by
  refine CX_of zl (by decide) (Nat.le_of_ble_eq_true rfl) (fun G hw hl h zE => ?_)
  subst hw
  exact kX12_land_e0 h zE zf

-- X12_moved
theorem kX12_moved_e0 {G : GX} (h : OKm G cX12_moved RX12 3 (some .int) { frames := 7, cells := 4, slots := 24, locals := 221 }) (zE : OKe G) {M : Mem} {x1 : Int32} {x2 : Int32} {res : (Except Nat (Int32 × Mem))} (zf : fX12_moved M x1 x2 = some res) : GG G (QmX G (okx Pwi res) (erx res) M 4 24) 0 0 0 [(0, rv G.1 0), (1, .int x1), (2, .int x2)] [] M := by
  unfold fX12_moved at zf
  refine g_aload_n h 0 rfl dX12_moved_0 ?_
  refine g_iload_n h 1 rfl dX12_moved_1 ?_
  refine g_xneed (As := [.int x1]) (rest := []) h zE zf ceX12_needBrother mlX12_188 imX12_needBrother seX12_needBrother (by rfl) (by decide) (ent_10 (by decide)) rfl rfl ⟨by decide, by decide⟩ ⟨by decide, by decide⟩ rfl (by decide) (by decide) dX12_moved_2 rfl (Nat.le_of_ble_eq_true rfl) (fun q zq => cxX12_needBrother zE.1 zq) ?_
  clear zf; intro zf
  refine g_aload_n h 0 rfl dX12_moved_5 ?_
  refine g_iload_n h 2 rfl dX12_moved_6 ?_
  refine g_iconst h 1 (v := 1) (by decide) dX12_moved_7 ?_
  refine g_bipush h 99 (v := 99) (by decide) dX12_moved_8 ?_
  refine g_xneed (As := [.int x2, .int 1, .int 99]) (rest := []) h zE zf ceX12_needWithin mlX12_265 imX12_needWithin seX12_needWithin (by rfl) (by decide) (ent_10 (by decide)) rfl rfl ⟨by decide, by decide⟩ ⟨by decide, by decide⟩ rfl (by decide) (by decide) dX12_moved_10 rfl (Nat.le_of_ble_eq_true rfl) (fun q zq => cxX12_needWithin zE.1 zq) ?_
  clear zf; intro zf
  refine g_aload_n h 0 rfl dX12_moved_13 ?_
  refine gfX12_56 h (by decide : kd 0 = 10) dX12_moved_14 ?_
  refine g_aload_n h 0 rfl dX12_moved_17 ?_
  refine gfX12_52 h (by decide : kd 0 = 10) dX12_moved_18 ?_
  have zf1 := bd_some zf
  clear zf; obtain ⟨Mq1, zq, zf⟩ := zf1
  refine g_callVwv (As := [rv G.1 81]) (rest := []) h ceX3_become mlX12_115 imX3_become seX3_become (by rfl) (kd_lt (by rw [(by decide : kd 86 = 2)]; decide)) (ent_2 (by decide : kd 86 = 2)) rfl rfl ⟨by decide, by decide⟩ ⟨by decide, by decide⟩ rfl dX12_moved_21 rfl (Nat.le_of_ble_eq_true rfl) (cmX3_become zq) ?_
  refine g_aload_n h 0 rfl dX12_moved_24 ?_
  refine gfX12_56 h (by decide : kd 0 = 10) dX12_moved_25 ?_
  refine gfX12_191 h (by decide : kd 86 = 2) dX12_moved_28 ?_
  change GG G _ _ _ _ _ (rv G.1 88 :: _) _
  refine g_iload_n h 1 rfl dX12_moved_31 ?_
  refine g_dup2 h rfl rfl dX12_moved_32 ?_
  refine g_iald h 2 (by decide : kd 88 = 20) (by decide) zf dX12_moved_33 ?_
  clear zf; intro vq2 zf
  refine g_iload_n h 2 rfl dX12_moved_34 ?_
  refine g_iadd h dX12_moved_35 ?_
  refine g_iast h 2 (by decide : kd 88 = 20) (by decide) zf dX12_moved_36 ?_
  clear zf; intro Mq3 zf
  refine g_aload_n h 0 rfl dX12_moved_37 ?_
  refine gfX12_36 h (by decide : kd 0 = 10) dX12_moved_38 ?_
  refine g_aload_n h 0 rfl dX12_moved_41 ?_
  refine gfX12_56 h (by decide : kd 0 = 10) dX12_moved_42 ?_
  refine g_iload_n h 1 rfl dX12_moved_45 ?_
  have zf1 := b2_some zf
  clear zf; obtain ⟨vq4, Mq5, zq, zf⟩ := zf1
  refine g_callVwi (As := [rv G.1 86, .int x1]) (rest := []) h ceX7_followers mlX12_198 imX7_followers seX7_followers (by rfl) (kd_lt (by rw [(by decide : kd 28 = 6)]; decide)) (ent_6 (by decide : kd 28 = 6)) rfl rfl ⟨by decide, by decide⟩ ⟨by decide, by decide⟩ rfl dX12_moved_46 rfl (Nat.le_of_ble_eq_true rfl) (cmX7_followers zq) ?_
  refine g_aload_n h 0 rfl dX12_moved_49 ?_
  refine gfX12_36 h (by decide : kd 0 = 10) dX12_moved_50 ?_
  refine g_aload_n h 0 rfl dX12_moved_53 ?_
  refine gfX12_52 h (by decide : kd 0 = 10) dX12_moved_54 ?_
  refine g_iload_n h 1 rfl dX12_moved_57 ?_
  have zf1 := b2_some zf
  clear zf; obtain ⟨vq6, Mq7, zq, zf⟩ := zf1
  refine g_callVwi (As := [rv G.1 81, .int x1]) (rest := [.int vq4]) h ceX7_followers mlX12_198 imX7_followers seX7_followers (by rfl) (kd_lt (by rw [(by decide : kd 28 = 6)]; decide)) (ent_6 (by decide : kd 28 = 6)) rfl rfl ⟨by decide, by decide⟩ ⟨by decide, by decide⟩ rfl dX12_moved_58 rfl (Nat.le_of_ble_eq_true rfl) (cmX7_followers zq) ?_
  refine g_iconst h (-1) (v := (-1)) (by decide) dX12_moved_61 ?_
  refine g_ixor h dX12_moved_62 ?_
  refine g_iand h dX12_moved_63 ?_
  obtain rfl := Option.some.inj zf
  refine g_ret ?_
  exact g_iret h rfl ⟨_, rfl, rfl, rfl⟩ (Nat.le_of_ble_eq_true rfl) (Nat.le_of_ble_eq_true rfl) dX12_moved_64

theorem cxX12_moved {l : Launch} (zl : l.stackTraces = false) {w : WX} {M : Mem} {x1 : Int32} {x2 : Int32} {res : (Except Nat (Int32 × Mem))} (zf : fX12_moved M x1 x2 = some res) : CX l w yX12_moved cX12_moved 3 (some .int) { frames := 7, cells := 4, slots := 24, locals := 221 } 4 24 [rv w 0, .int x1, .int x2] M (okx Pwi res) (erx res) := by
  refine CX_of zl (by decide) (Nat.le_of_ble_eq_true rfl) (fun G hw hl h zE => ?_)
  subst hw
  exact kX12_moved_e0 h zE zf

-- X12_next
theorem kX12_next_b67 {G : GX} (h : OKm G cX12_next RX12 5 (some .int) { frames := 10, cells := 4, slots := 24, locals := 272 }) (zE : OKe G) {M0 : Mem} {a28 : Mem → Int32 → Int32 → Int32 → Int32 → Option (Except Nat (Int32 × Mem))} (zh28 : ∀ (M : Mem) (x1 : Int32) (x2 : Int32) (x3 : Int32) (x4 : Int32) (res : (Except Nat (Int32 × Mem))), a28 M x1 x2 x3 x4 = some res → GG G (QmX G (okx Pwi res) (erx res) M0 4 24) 3 18 28 [(0, rv G.1 0), (1, .int x1), (2, .int x2), (3, .int x3), (4, .int x4)] [] M) {M : Mem} {x1 : Int32} {x2 : Int32} {x3 : Int32} {x4 : Int32} {res : (Except Nat (Int32 × Mem))} (zf : fX12_next_b67 a28 M x1 x2 x3 x4 = some res) : GG G (QmX G (okx Pwi res) (erx res) M0 4 24) 3 18 67 [(0, rv G.1 0), (1, .int x1), (2, .int x2), (3, .int x3), (4, .int x4)] [] M := by
  unfold fX12_next_b67 at zf
  refine g_iinc h 4 4 rfl (v := x4 + 1) (congrArg (fun z => x4 + z) (by decide : Int32.ofInt (1) = (1 : Int32))) [(4, .int (x4 + 1)), (0, rv G.1 0), (1, .int x1), (2, .int x2), (3, .int x3)] (by decide) rfl dX12_next_67 ?_
  refine g_nmV zf ?_
  clear zf; intro vq3 zf
  refine g_goto h 28 (by decide) dX12_next_70 ?_
  refine g_sub h [1, 2, 3, 4, 0] rfl ?_
  exact zh28 _ _ _ _ _ _ zf

theorem kX12_next_l28 {G : GX} (h : OKm G cX12_next RX12 5 (some .int) { frames := 10, cells := 4, slots := 24, locals := 272 }) (zE : OKe G) {M0 : Mem} : ∀ (n : Nat) (M : Mem) (x1 : Int32) (x2 : Int32) (x3 : Int32) (x4 : Int32) (res : (Except Nat (Int32 × Mem))), fX12_next_l28 n M x1 x2 x3 x4 = some res → GG G (QmX G (okx Pwi res) (erx res) M0 4 24) 3 18 28 [(0, rv G.1 0), (1, .int x1), (2, .int x2), (3, .int x3), (4, .int x4)] [] M := by
  intro n
  induction n with
  | zero => intro M x1 x2 x3 x4 res zf; rw [fX12_next_l28] at zf; cases zf
  | succ n ih =>
    intro M x1 x2 x3 x4 res zf
    rw [fX12_next_l28] at zf
    refine g_iload h 4 rfl dX12_next_28 ?_
    refine g_bipush h 30 (v := 30) (by decide) dX12_next_30 ?_
    refine g_ic_gt h 73 (by decide) zf dX12_next_32 ?_ ?_ <;> clear zf <;> intro zf
    · refine g_iload_n h 1 rfl dX12_next_73 ?_
      refine g_if_ne h 81 (by decide) zf dX12_next_74 ?_ ?_ <;> clear zf <;> intro zf
      · refine g_iload_n h 3 rfl dX12_next_81 ?_
        obtain rfl := Option.some.inj zf
        refine g_ret ?_
        exact g_iret h rfl ⟨_, rfl, rfl, rfl⟩ (Nat.le_of_ble_eq_true rfl) (Nat.le_of_ble_eq_true rfl) dX12_next_82
      · refine g_iload_n h 2 rfl dX12_next_77 ?_
        refine g_goto h 82 (by decide) dX12_next_78 ?_
        obtain rfl := Option.some.inj zf
        refine g_ret ?_
        exact g_iret h rfl ⟨_, rfl, rfl, rfl⟩ (Nat.le_of_ble_eq_true rfl) (Nat.le_of_ble_eq_true rfl) dX12_next_82
    · refine g_aload_n h 0 rfl dX12_next_35 ?_
      refine gfX12_45 h (by decide : kd 0 = 10) dX12_next_36 ?_
      refine gfX12_340 h (by decide : kd 49 = 1) dX12_next_39 ?_
      refine g_iload h 4 rfl dX12_next_42 ?_
      refine g_iconst h 1 (v := 1) (by decide) dX12_next_44 ?_
      refine g_isub h dX12_next_45 ?_
      refine g_iald h 30 (by decide : kd 58 = 20) (by decide) zf dX12_next_46 ?_
      clear zf; intro vq2 zf
      refine g_iload_n h 3 rfl dX12_next_47 ?_
      refine g_ic_le h 67 (by decide) zf dX12_next_48 ?_ ?_ <;> clear zf <;> intro zf
      · refine g_sub h [0, 1, 2, 3, 4] rfl ?_
        exact kX12_next_b67 h zE ih zf
      · refine g_aload_n h 0 rfl dX12_next_51 ?_
        refine gfX12_45 h (by decide : kd 0 = 10) dX12_next_52 ?_
        refine gfX12_340 h (by decide : kd 49 = 1) dX12_next_55 ?_
        refine g_iload h 4 rfl dX12_next_58 ?_
        refine g_iconst h 1 (v := 1) (by decide) dX12_next_60 ?_
        refine g_isub h dX12_next_61 ?_
        refine g_iald h 30 (by decide : kd 58 = 20) (by decide) zf dX12_next_62 ?_
        clear zf; intro vq4 zf
        refine g_istore_n h rfl [(3, .int vq4), (0, rv G.1 0), (1, .int x1), (2, .int x2), (4, .int x4)] (by decide) rfl dX12_next_63 ?_
        refine g_iload h 4 rfl dX12_next_64 ?_
        refine g_istore_n h rfl [(2, .int x4), (3, .int vq4), (0, rv G.1 0), (1, .int x1), (4, .int x4)] (by decide) rfl dX12_next_66 ?_
        refine g_sub h [2, 3, 0, 1, 4] rfl ?_
        exact kX12_next_b67 h zE ih zf

theorem kX12_next_e0 {G : GX} (h : OKm G cX12_next RX12 5 (some .int) { frames := 10, cells := 4, slots := 24, locals := 272 }) (zE : OKe G) {M : Mem} {x1 : Int32} {res : (Except Nat (Int32 × Mem))} (zf : fX12_next M x1 = some res) : GG G (QmX G (okx Pwi res) (erx res) M 4 24) 0 0 0 [(0, rv G.1 0), (1, .int x1)] [] M := by
  unfold fX12_next at zf
  refine g_aload_n h 0 rfl dX12_next_0 ?_
  refine g_iload_n h 1 rfl dX12_next_1 ?_
  refine g_iconst h 1 (v := 1) (by decide) dX12_next_2 ?_
  refine g_xneed (As := [.int x1, .int 1]) (rest := []) h zE zf ceX12_needWhat mlX12_261 imX12_needWhat seX12_needWhat (by rfl) (by decide) (ent_10 (by decide)) rfl rfl ⟨by decide, by decide⟩ ⟨by decide, by decide⟩ rfl (by decide) (by decide) dX12_next_3 rfl (Nat.le_of_ble_eq_true rfl) (fun q zq => cxX12_needWhat zE.1 zq) ?_
  clear zf; intro zf
  refine g_aload_n h 0 rfl dX12_next_6 ?_
  refine gfX12_45 h (by decide : kd 0 = 10) dX12_next_7 ?_
  refine g_aload_n h 0 rfl dX12_next_10 ?_
  refine gfX12_52 h (by decide : kd 0 = 10) dX12_next_11 ?_
  refine g_aload_n h 0 rfl dX12_next_14 ?_
  refine gfX12_69 h (by decide : kd 0 = 10) dX12_next_15 ?_
  have zf1 := bd_some zf
  clear zf; obtain ⟨Mq1, zq, zf⟩ := zf1
  refine g_callVwv (As := [rv G.1 81, rv G.1 93]) (rest := []) h ceX2_survey mlX12_336 imX2_survey seX2_survey (by rfl) (kd_lt (by rw [(by decide : kd 49 = 1)]; decide)) (ent_1 (by decide : kd 49 = 1)) rfl rfl ⟨by decide, by decide⟩ ⟨by decide, by decide⟩ rfl dX12_next_18 rfl (Nat.le_of_ble_eq_true rfl) (cmX2_survey zq) ?_
  refine g_iconst h (-1) (v := (-1)) (by decide) dX12_next_21 ?_
  refine g_istore_n h rfl [(2, .int (-1)), (0, rv G.1 0), (1, .int x1)] (by decide) rfl dX12_next_22 ?_
  refine g_iconst h 0 (v := 0) (by decide) dX12_next_23 ?_
  refine g_istore_n h rfl [(3, .int 0), (2, .int (-1)), (0, rv G.1 0), (1, .int x1)] (by decide) rfl dX12_next_24 ?_
  refine g_iconst h 1 (v := 1) (by decide) dX12_next_25 ?_
  refine g_istore h [(4, .int 1), (3, .int 0), (2, .int (-1)), (0, rv G.1 0), (1, .int x1)] (by decide) rfl dX12_next_26 ?_
  refine g_cs h (kc' := 3) (ks' := 18) (by decide) (by decide) ?_
  refine g_sub h [3, 4, 2, 1, 0] rfl ?_
  exact kX12_next_l28 h zE _ _ _ _ _ _ _ zf

theorem cxX12_next {l : Launch} (zl : l.stackTraces = false) {w : WX} {M : Mem} {x1 : Int32} {res : (Except Nat (Int32 × Mem))} (zf : fX12_next M x1 = some res) : CX l w yX12_next cX12_next 5 (some .int) { frames := 10, cells := 4, slots := 24, locals := 272 } 4 24 [rv w 0, .int x1] M (okx Pwi res) (erx res) := by
  refine CX_of zl (by decide) (Nat.le_of_ble_eq_true rfl) (fun G hw hl h zE => ?_)
  subst hw
  exact kX12_next_e0 h zE zf

-- X12_odds
theorem kX12_odds_b85 {G : GX} (h : OKm G cX12_odds RX12 7 (some .int) { frames := 7, cells := 4, slots := 24, locals := 183 }) (zE : OKe G) {M0 : Mem} {a41 : Mem → Int32 → Int32 → Int32 → Int32 → Int32 → Option (Except Nat (Int32 × Mem))} (zh41 : ∀ (M : Mem) (x2 : Int32) (x3 : Int32) (x4 : Int32) (x5 : Int32) (x6 : Int32) (res : (Except Nat (Int32 × Mem))), a41 M x2 x3 x4 x5 x6 = some res → GG G (QmX G (okx Pwi res) (erx res) M0 4 24) 3 18 41 [(0, rv G.1 0), (2, .int x2), (3, .int x3), (4, .int x4), (5, .int x5), (6, .int x6)] [] M) {M : Mem} {x2 : Int32} {x3 : Int32} {x4 : Int32} {x5 : Int32} {x6 : Int32} {res : (Except Nat (Int32 × Mem))} (zf : fX12_odds_b85 a41 M x2 x3 x4 x5 x6 = some res) : GG G (QmX G (okx Pwi res) (erx res) M0 4 24) 3 18 85 [(0, rv G.1 0), (2, .int x2), (3, .int x3), (4, .int x4), (5, .int x5), (6, .int x6)] [] M := by
  unfold fX12_odds_b85 at zf
  refine g_iinc h 6 5 rfl (v := x6 + 1) (congrArg (fun z => x6 + z) (by decide : Int32.ofInt (1) = (1 : Int32))) [(6, .int (x6 + 1)), (0, rv G.1 0), (2, .int x2), (3, .int x3), (4, .int x4), (5, .int x5)] (by decide) rfl dX12_odds_85 ?_
  refine g_nmV zf ?_
  clear zf; intro vq3 zf
  refine g_goto h 41 (by decide) dX12_odds_88 ?_
  refine g_sub h [1, 2, 3, 4, 5, 0] rfl ?_
  exact zh41 _ _ _ _ _ _ _ zf

theorem kX12_odds_l41 {G : GX} (h : OKm G cX12_odds RX12 7 (some .int) { frames := 7, cells := 4, slots := 24, locals := 183 }) (zE : OKe G) {M0 : Mem} : ∀ (n : Nat) (M : Mem) (x2 : Int32) (x3 : Int32) (x4 : Int32) (x5 : Int32) (x6 : Int32) (res : (Except Nat (Int32 × Mem))), fX12_odds_l41 n M x2 x3 x4 x5 x6 = some res → GG G (QmX G (okx Pwi res) (erx res) M0 4 24) 3 18 41 [(0, rv G.1 0), (2, .int x2), (3, .int x3), (4, .int x4), (5, .int x5), (6, .int x6)] [] M := by
  intro n
  induction n with
  | zero => intro M x2 x3 x4 x5 x6 res zf; rw [fX12_odds_l41] at zf; cases zf
  | succ n ih =>
    intro M x2 x3 x4 x5 x6 res zf
    rw [fX12_odds_l41] at zf
    refine g_iload h 5 rfl dX12_odds_41 ?_
    refine g_bipush h 64 (v := 64) (by decide) dX12_odds_43 ?_
    refine g_ic_ge h 91 (by decide) zf dX12_odds_45 ?_ ?_ <;> clear zf <;> intro zf
    · refine g_iload h 4 rfl dX12_odds_91 ?_
      obtain rfl := Option.some.inj zf
      refine g_ret ?_
      exact g_iret h rfl ⟨_, rfl, rfl, rfl⟩ (Nat.le_of_ble_eq_true rfl) (Nat.le_of_ble_eq_true rfl) dX12_odds_93
    · refine g_iload h 5 rfl dX12_odds_48 ?_
      refine g_iload h 3 rfl dX12_odds_50 ?_
      refine g_iconst h (-1) (v := (-1)) (by decide) dX12_odds_52 ?_
      refine g_ixor h dX12_odds_53 ?_
      refine g_iand h dX12_odds_54 ?_
      refine g_if_ne h 85 (by decide) zf dX12_odds_55 ?_ ?_ <;> clear zf <;> intro zf
      · refine g_sub h [0, 1, 2, 3, 4, 5] rfl ?_
        exact kX12_odds_b85 h zE ih zf
      · refine g_aload_n h 0 rfl dX12_odds_58 ?_
        refine gfX12_36 h (by decide : kd 0 = 10) dX12_odds_59 ?_
        refine g_iload h 5 rfl dX12_odds_62 ?_
        have zf1 := bd_some zf
        clear zf; obtain ⟨vq4, zq, zf⟩ := zf1
        refine g_callVri (As := [.int x6]) (rest := []) h ceX7_menOf mlX12_202 imX7_menOf seX7_menOf (by rfl) (kd_lt (by rw [(by decide : kd 28 = 6)]; decide)) (ent_6 (by decide : kd 28 = 6)) rfl rfl ⟨by decide, by decide⟩ ⟨by decide, by decide⟩ rfl dX12_odds_64 rfl (Nat.le_of_ble_eq_true rfl) (cmX7_menOf zq) ?_
        refine g_iload_n h 2 rfl dX12_odds_67 ?_
        refine g_ic_lt h 85 (by decide) zf dX12_odds_68 ?_ ?_ <;> clear zf <;> intro zf
        · refine g_sub h [0, 1, 2, 3, 4, 5] rfl ?_
          exact kX12_odds_b85 h zE ih zf
        · refine g_iload h 4 rfl dX12_odds_71 ?_
          refine g_aload_n h 0 rfl dX12_odds_73 ?_
          refine g_iload h 3 rfl dX12_odds_74 ?_
          refine g_iload h 5 rfl dX12_odds_76 ?_
          refine g_iload_n h 1 rfl dX12_odds_78 ?_
          have zf1 := bd_some zf
          clear zf; obtain ⟨vq5, zq, zf⟩ := zf1
          refine g_callVri (As := [.int x4, .int x6, .int x2]) (rest := [.int x5]) h ceX12_chances mlX12_318 imX12_chances seX12_chances (by rfl) (kd_lt (by rw [(by decide : kd 0 = 10)]; decide)) (ent_10 (by decide : kd 0 = 10)) rfl rfl ⟨by decide, by decide⟩ ⟨by decide, by decide⟩ rfl dX12_odds_79 rfl (Nat.le_of_ble_eq_true rfl) (cmX12_chances zq) ?_
          refine g_iadd h dX12_odds_82 ?_
          refine g_nmI zf ?_
          clear zf; intro vq6 zf
          refine g_istore h [(5, .int vq6), (0, rv G.1 0), (2, .int x2), (3, .int x3), (4, .int x4), (6, .int x6)] (by decide) rfl dX12_odds_83 ?_
          refine g_sub h [1, 2, 3, 4, 0, 5] rfl ?_
          exact kX12_odds_b85 h zE ih zf

theorem kX12_odds_e0 {G : GX} (h : OKm G cX12_odds RX12 7 (some .int) { frames := 7, cells := 4, slots := 24, locals := 183 }) (zE : OKe G) {M : Mem} {x1 : Int32} {x2 : Int32} {x3 : Int32} {res : (Except Nat (Int32 × Mem))} (zf : fX12_odds M x1 x2 x3 = some res) : GG G (QmX G (okx Pwi res) (erx res) M 4 24) 0 0 0 [(0, rv G.1 0), (1, .int x1), (2, .int x2), (3, .int x3)] [] M := by
  unfold fX12_odds at zf
  refine g_aload_n h 0 rfl dX12_odds_0 ?_
  refine g_iload_n h 1 rfl dX12_odds_1 ?_
  refine g_xneed (As := [.int x1]) (rest := []) h zE zf ceX12_needBrother mlX12_188 imX12_needBrother seX12_needBrother (by rfl) (by decide) (ent_10 (by decide)) rfl rfl ⟨by decide, by decide⟩ ⟨by decide, by decide⟩ rfl (by decide) (by decide) dX12_odds_2 rfl (Nat.le_of_ble_eq_true rfl) (fun q zq => cxX12_needBrother zE.1 zq) ?_
  clear zf; intro zf
  refine g_aload_n h 0 rfl dX12_odds_5 ?_
  refine g_iload_n h 2 rfl dX12_odds_6 ?_
  refine g_iconst h 1 (v := 1) (by decide) dX12_odds_7 ?_
  refine g_bipush h 9 (v := 9) (by decide) dX12_odds_8 ?_
  refine g_xneed (As := [.int x2, .int 1, .int 9]) (rest := []) h zE zf ceX12_needWithin mlX12_265 imX12_needWithin seX12_needWithin (by rfl) (by decide) (ent_10 (by decide)) rfl rfl ⟨by decide, by decide⟩ ⟨by decide, by decide⟩ rfl (by decide) (by decide) dX12_odds_10 rfl (Nat.le_of_ble_eq_true rfl) (fun q zq => cxX12_needWithin zE.1 zq) ?_
  clear zf; intro zf
  refine g_aload_n h 0 rfl dX12_odds_13 ?_
  refine g_iload_n h 3 rfl dX12_odds_14 ?_
  refine g_iconst h 0 (v := 0) (by decide) dX12_odds_15 ?_
  refine g_bipush h 54 (v := 54) (by decide) dX12_odds_16 ?_
  refine g_xneed (As := [.int x3, .int 0, .int 54]) (rest := []) h zE zf ceX12_needWithin mlX12_265 imX12_needWithin seX12_needWithin (by rfl) (by decide) (ent_10 (by decide)) rfl rfl ⟨by decide, by decide⟩ ⟨by decide, by decide⟩ rfl (by decide) (by decide) dX12_odds_18 rfl (Nat.le_of_ble_eq_true rfl) (fun q zq => cxX12_needWithin zE.1 zq) ?_
  clear zf; intro zf
  refine g_aload_n h 0 rfl dX12_odds_21 ?_
  refine gfX12_36 h (by decide : kd 0 = 10) dX12_odds_22 ?_
  refine g_aload_n h 0 rfl dX12_odds_25 ?_
  refine gfX12_52 h (by decide : kd 0 = 10) dX12_odds_26 ?_
  refine g_iload_n h 1 rfl dX12_odds_29 ?_
  have zf1 := b2_some zf
  clear zf; obtain ⟨vq1, Mq2, zq, zf⟩ := zf1
  refine g_callVwi (As := [rv G.1 81, .int x1]) (rest := []) h ceX7_followers mlX12_198 imX7_followers seX7_followers (by rfl) (kd_lt (by rw [(by decide : kd 28 = 6)]; decide)) (ent_6 (by decide : kd 28 = 6)) rfl rfl ⟨by decide, by decide⟩ ⟨by decide, by decide⟩ rfl dX12_odds_30 rfl (Nat.le_of_ble_eq_true rfl) (cmX7_followers zq) ?_
  refine g_istore h [(4, .int vq1), (0, rv G.1 0), (1, .int x1), (2, .int x2), (3, .int x3)] (by decide) rfl dX12_odds_33 ?_
  refine g_iconst h 0 (v := 0) (by decide) dX12_odds_35 ?_
  refine g_istore h [(5, .int 0), (4, .int vq1), (0, rv G.1 0), (1, .int x1), (2, .int x2), (3, .int x3)] (by decide) rfl dX12_odds_36 ?_
  refine g_iconst h 0 (v := 0) (by decide) dX12_odds_38 ?_
  refine g_istore h [(6, .int 0), (5, .int 0), (4, .int vq1), (0, rv G.1 0), (1, .int x1), (2, .int x2), (3, .int x3)] (by decide) rfl dX12_odds_39 ?_
  refine g_sub h [3, 5, 6, 2, 1, 0] rfl ?_
  exact kX12_odds_l41 h zE _ _ _ _ _ _ _ _ zf

theorem cxX12_odds {l : Launch} (zl : l.stackTraces = false) {w : WX} {M : Mem} {x1 : Int32} {x2 : Int32} {x3 : Int32} {res : (Except Nat (Int32 × Mem))} (zf : fX12_odds M x1 x2 x3 = some res) : CX l w yX12_odds cX12_odds 7 (some .int) { frames := 7, cells := 4, slots := 24, locals := 183 } 4 24 [rv w 0, .int x1, .int x2, .int x3] M (okx Pwi res) (erx res) := by
  refine CX_of zl (by decide) (Nat.le_of_ble_eq_true rfl) (fun G hw hl h zE => ?_)
  subst hw
  exact kX12_odds_e0 h zE zf

-- X12_parties
theorem kX12_parties_b50 {G : GX} (h : OKm G cX12_parties RX12 5 (some .int) { frames := 7, cells := 4, slots := 24, locals := 182 }) (zE : OKe G) {M0 : Mem} {a13 : Mem → Int32 → Int32 → Int32 → Int32 → Option (Except Nat Int32)} (zh13 : ∀ (M : Mem) (x1 : Int32) (x2 : Int32) (x3 : Int32) (x4 : Int32) (res : (Except Nat Int32)), a13 M x1 x2 x3 x4 = some res → GG G (QmX G (okx (fun zr => Pri zr M) res) (erx res) M0 4 24) 3 18 13 [(0, rv G.1 0), (1, .int x1), (2, .int x2), (3, .int x3), (4, .int x4)] [] M) {M : Mem} {x1 : Int32} {x2 : Int32} {x3 : Int32} {x4 : Int32} {res : (Except Nat Int32)} (zf : fX12_parties_b50 a13 M x1 x2 x3 x4 = some res) : GG G (QmX G (okx (fun zr => Pri zr M) res) (erx res) M0 4 24) 3 18 50 [(0, rv G.1 0), (1, .int x1), (2, .int x2), (3, .int x3), (4, .int x4)] [] M := by
  unfold fX12_parties_b50 at zf
  refine g_iinc h 4 4 rfl (v := x4 + 1) (congrArg (fun z => x4 + z) (by decide : Int32.ofInt (1) = (1 : Int32))) [(4, .int (x4 + 1)), (0, rv G.1 0), (1, .int x1), (2, .int x2), (3, .int x3)] (by decide) rfl dX12_parties_50 ?_
  refine g_nmV zf ?_
  clear zf; intro vq4 zf
  refine g_goto h 13 (by decide) dX12_parties_53 ?_
  refine g_sub h [1, 2, 3, 4, 0] rfl ?_
  exact zh13 _ _ _ _ _ _ zf

theorem kX12_parties_l13 {G : GX} (h : OKm G cX12_parties RX12 5 (some .int) { frames := 7, cells := 4, slots := 24, locals := 182 }) (zE : OKe G) {M0 : Mem} : ∀ (n : Nat) (M : Mem) (x1 : Int32) (x2 : Int32) (x3 : Int32) (x4 : Int32) (res : (Except Nat Int32)), fX12_parties_l13 n M x1 x2 x3 x4 = some res → GG G (QmX G (okx (fun zr => Pri zr M) res) (erx res) M0 4 24) 3 18 13 [(0, rv G.1 0), (1, .int x1), (2, .int x2), (3, .int x3), (4, .int x4)] [] M := by
  intro n
  induction n with
  | zero => intro M x1 x2 x3 x4 res zf; rw [fX12_parties_l13] at zf; cases zf
  | succ n ih =>
    intro M x1 x2 x3 x4 res zf
    rw [fX12_parties_l13] at zf
    refine g_iload h 4 rfl dX12_parties_13 ?_
    refine g_iconst h 1 (v := 1) (by decide) dX12_parties_15 ?_
    refine g_aload_n h 0 rfl dX12_parties_16 ?_
    refine gfX12_36 h (by decide : kd 0 = 10) dX12_parties_17 ?_
    refine gfX12_111 h (by decide : kd 28 = 6) dX12_parties_20 ?_
    refine g_nmR zf ?_
    clear zf; intro oq1 zf
    have zf1 := pre_ck zf
    clear zf; obtain ⟨zk_oq1, zf⟩ := zf1
    refine gfX12_155 h zk_oq1 dX12_parties_23 ?_
    refine g_nmI zf ?_
    clear zf; intro vq2 zf
    refine g_ishl h dX12_parties_26 ?_
    refine g_ic_ge h 56 (by decide) zf dX12_parties_27 ?_ ?_ <;> clear zf <;> intro zf
    · refine g_iload_n h 1 rfl dX12_parties_56 ?_
      refine g_if_ne h 64 (by decide) zf dX12_parties_57 ?_ ?_ <;> clear zf <;> intro zf
      · refine g_iload_n h 3 rfl dX12_parties_64 ?_
        obtain rfl := Option.some.inj zf
        refine g_ret ?_
        exact g_iret h rfl ⟨_, rfl, rfl, rfl⟩ (Nat.le_of_ble_eq_true rfl) (Nat.le_of_ble_eq_true rfl) dX12_parties_65
      · refine g_iload_n h 2 rfl dX12_parties_60 ?_
        refine g_goto h 65 (by decide) dX12_parties_61 ?_
        obtain rfl := Option.some.inj zf
        refine g_ret ?_
        exact g_iret h rfl ⟨_, rfl, rfl, rfl⟩ (Nat.le_of_ble_eq_true rfl) (Nat.le_of_ble_eq_true rfl) dX12_parties_65
    · refine g_aload_n h 0 rfl dX12_parties_30 ?_
      refine g_iload h 4 rfl dX12_parties_31 ?_
      have zf1 := bd_some zf
      clear zf; obtain ⟨vq3, zq, zf⟩ := zf1
      refine g_callVri (As := [.int x4]) (rest := []) h ceX12_rests mlX12_322 imX12_rests seX12_rests (by rfl) (kd_lt (by rw [(by decide : kd 0 = 10)]; decide)) (ent_10 (by decide : kd 0 = 10)) rfl rfl ⟨by decide, by decide⟩ ⟨by decide, by decide⟩ rfl dX12_parties_33 rfl (Nat.le_of_ble_eq_true rfl) (cmX12_rests zq) ?_
      refine g_if_eq h 50 (by decide) zf dX12_parties_36 ?_ ?_ <;> clear zf <;> intro zf
      · refine g_sub h [0, 1, 2, 3, 4] rfl ?_
        exact kX12_parties_b50 h zE ih zf
      · refine g_iinc h 2 2 rfl (v := x2 + 1) (congrArg (fun z => x2 + z) (by decide : Int32.ofInt (1) = (1 : Int32))) [(2, .int (x2 + 1)), (0, rv G.1 0), (1, .int x1), (3, .int x3), (4, .int x4)] (by decide) rfl dX12_parties_39 ?_
        refine g_nmV zf ?_
        clear zf; intro vq5 zf
        refine g_iload_n h 3 rfl dX12_parties_42 ?_
        refine g_iconst h (-1) (v := (-1)) (by decide) dX12_parties_43 ?_
        refine g_ic_ne h 50 (by decide) zf dX12_parties_44 ?_ ?_ <;> clear zf <;> intro zf
        · refine g_sub h [1, 2, 0, 3, 4] rfl ?_
          exact kX12_parties_b50 h zE ih zf
        · refine g_iload h 4 rfl dX12_parties_47 ?_
          refine g_istore_n h rfl [(3, .int x4), (2, .int vq5), (0, rv G.1 0), (1, .int x1), (4, .int x4)] (by decide) rfl dX12_parties_49 ?_
          refine g_sub h [2, 3, 1, 0, 4] rfl ?_
          exact kX12_parties_b50 h zE ih zf

theorem kX12_parties_e0 {G : GX} (h : OKm G cX12_parties RX12 5 (some .int) { frames := 7, cells := 4, slots := 24, locals := 182 }) (zE : OKe G) {M : Mem} {x1 : Int32} {res : (Except Nat Int32)} (zf : fX12_parties M x1 = some res) : GG G (QmX G (okx (fun zr => Pri zr M) res) (erx res) M 4 24) 0 0 0 [(0, rv G.1 0), (1, .int x1)] [] M := by
  unfold fX12_parties at zf
  refine g_aload_n h 0 rfl dX12_parties_0 ?_
  refine g_iload_n h 1 rfl dX12_parties_1 ?_
  refine g_iconst h 1 (v := 1) (by decide) dX12_parties_2 ?_
  refine g_xneed (As := [.int x1, .int 1]) (rest := []) h zE zf ceX12_needWhat mlX12_261 imX12_needWhat seX12_needWhat (by rfl) (by decide) (ent_10 (by decide)) rfl rfl ⟨by decide, by decide⟩ ⟨by decide, by decide⟩ rfl (by decide) (by decide) dX12_parties_3 rfl (Nat.le_of_ble_eq_true rfl) (fun q zq => cxX12_needWhat zE.1 zq) ?_
  clear zf; intro zf
  refine g_iconst h 0 (v := 0) (by decide) dX12_parties_6 ?_
  refine g_istore_n h rfl [(2, .int 0), (0, rv G.1 0), (1, .int x1)] (by decide) rfl dX12_parties_7 ?_
  refine g_iconst h (-1) (v := (-1)) (by decide) dX12_parties_8 ?_
  refine g_istore_n h rfl [(3, .int (-1)), (2, .int 0), (0, rv G.1 0), (1, .int x1)] (by decide) rfl dX12_parties_9 ?_
  refine g_iconst h 0 (v := 0) (by decide) dX12_parties_10 ?_
  refine g_istore h [(4, .int 0), (3, .int (-1)), (2, .int 0), (0, rv G.1 0), (1, .int x1)] (by decide) rfl dX12_parties_11 ?_
  refine g_cs h (kc' := 3) (ks' := 18) (by decide) (by decide) ?_
  refine g_sub h [3, 4, 2, 1, 0] rfl ?_
  exact kX12_parties_l13 h zE _ _ _ _ _ _ _ zf

theorem cxX12_parties {l : Launch} (zl : l.stackTraces = false) {w : WX} {M : Mem} {x1 : Int32} {res : (Except Nat Int32)} (zf : fX12_parties M x1 = some res) : CX l w yX12_parties cX12_parties 5 (some .int) { frames := 7, cells := 4, slots := 24, locals := 182 } 4 24 [rv w 0, .int x1] M (okx (fun zr => Pri zr M) res) (erx res) := by
  refine CX_of zl (by decide) (Nat.le_of_ble_eq_true rfl) (fun G hw hl h zE => ?_)
  subst hw
  exact kX12_parties_e0 h zE zf

-- X12_plan
theorem kX12_plan_e0 {G : GX} (h : OKm G cX12_plan RX12 4 (some .int) { frames := 42, cells := 4, slots := 24, locals := 1292 }) (zE : OKe G) {M : Mem} {x1 : Int32} {x2 : Int32} {res : (Except Nat (Int32 × Mem))} (zf : fX12_plan M x1 x2 = some res) : GG G (QmX G (okx Pwi res) (erx res) M 4 24) 0 0 0 [(0, rv G.1 0), (1, .int x1), (2, .int x2)] [] M := by
  unfold fX12_plan at zf
  refine g_aload_n h 0 rfl dX12_plan_0 ?_
  refine g_iload_n h 2 rfl dX12_plan_1 ?_
  refine g_iconst h 1 (v := 1) (by decide) dX12_plan_2 ?_
  refine g_xneed (As := [.int x2, .int 1]) (rest := []) h zE zf ceX12_needWhat mlX12_261 imX12_needWhat seX12_needWhat (by rfl) (by decide) (ent_10 (by decide)) rfl rfl ⟨by decide, by decide⟩ ⟨by decide, by decide⟩ rfl (by decide) (by decide) dX12_plan_3 rfl (Nat.le_of_ble_eq_true rfl) (fun q zq => cxX12_needWhat zE.1 zq) ?_
  clear zf; intro zf
  refine g_aload_n h 0 rfl dX12_plan_6 ?_
  refine g_iload_n h 1 rfl dX12_plan_7 ?_
  refine g_iconst h 1 (v := 1) (by decide) dX12_plan_8 ?_
  refine g_iconst h 4 (v := 4) (by decide) dX12_plan_9 ?_
  refine g_xneed (As := [.int x1, .int 1, .int 4]) (rest := []) h zE zf ceX12_needWithin mlX12_265 imX12_needWithin seX12_needWithin (by rfl) (by decide) (ent_10 (by decide)) rfl rfl ⟨by decide, by decide⟩ ⟨by decide, by decide⟩ rfl (by decide) (by decide) dX12_plan_10 rfl (Nat.le_of_ble_eq_true rfl) (fun q zq => cxX12_needWithin zE.1 zq) ?_
  clear zf; intro zf
  refine g_aload_n h 0 rfl dX12_plan_13 ?_
  refine gfX12_45 h (by decide : kd 0 = 10) dX12_plan_14 ?_
  refine g_aload_n h 0 rfl dX12_plan_17 ?_
  refine gfX12_52 h (by decide : kd 0 = 10) dX12_plan_18 ?_
  refine g_iload_n h 1 rfl dX12_plan_21 ?_
  have zf1 := b2_some zf
  clear zf; obtain ⟨vq1, Mq2, zq, zf⟩ := zf1
  refine g_callVwi (As := [rv G.1 81, .int x1]) (rest := []) h ceX2_planned mlX12_279 imX2_planned seX2_planned (by rfl) (kd_lt (by rw [(by decide : kd 49 = 1)]; decide)) (ent_1 (by decide : kd 49 = 1)) rfl rfl ⟨by decide, by decide⟩ ⟨by decide, by decide⟩ rfl dX12_plan_22 rfl (Nat.le_of_ble_eq_true rfl) (cmX2_planned zq) ?_
  refine g_istore_n h rfl [(3, .int vq1), (0, rv G.1 0), (1, .int x1), (2, .int x2)] (by decide) rfl dX12_plan_25 ?_
  refine g_iload_n h 3 rfl dX12_plan_26 ?_
  refine g_if_ne h 34 (by decide) zf dX12_plan_27 ?_ ?_ <;> clear zf <;> intro zf
  · refine g_aload_n h 1 rfl dX12_plan_34 ?_
    refine gfX12_45 h (by decide : kd 0 = 10) dX12_plan_35 ?_
    refine gfX12_282 h (by decide : kd 49 = 1) dX12_plan_38 ?_
    refine g_nmI zf ?_
    clear zf; intro vq3 zf
    obtain rfl := Option.some.inj zf
    refine g_ret ?_
    exact g_iret h rfl ⟨_, rfl, rfl, rfl⟩ (Nat.le_of_ble_eq_true rfl) (Nat.le_of_ble_eq_true rfl) dX12_plan_41
  · refine g_iload_n h 0 rfl dX12_plan_30 ?_
    refine g_goto h 41 (by decide) dX12_plan_31 ?_
    obtain rfl := Option.some.inj zf
    refine g_ret ?_
    exact g_iret h rfl ⟨_, rfl, rfl, rfl⟩ (Nat.le_of_ble_eq_true rfl) (Nat.le_of_ble_eq_true rfl) dX12_plan_41

theorem cxX12_plan {l : Launch} (zl : l.stackTraces = false) {w : WX} {M : Mem} {x1 : Int32} {x2 : Int32} {res : (Except Nat (Int32 × Mem))} (zf : fX12_plan M x1 x2 = some res) : CX l w yX12_plan cX12_plan 4 (some .int) { frames := 42, cells := 4, slots := 24, locals := 1292 } 4 24 [rv w 0, .int x1, .int x2] M (okx Pwi res) (erx res) := by
  refine CX_of zl (by decide) (Nat.le_of_ble_eq_true rfl) (fun G hw hl h zE => ?_)
  subst hw
  exact kX12_plan_e0 h zE zf

-- X12_stays
theorem kX12_stays_l19 {G : GX} (h : OKm G cX12_stays RX12 3 (some .int) { frames := 9, cells := 4, slots := 24, locals := 229 }) (zE : OKe G) {M0 : Mem} : ∀ (n : Nat) (M : Mem) (x1 : Int32) (x2 : Int32) (res : (Except Nat (Int32 × Mem))), fX12_stays_l19 n M x1 x2 = some res → GG G (QmX G (okx Pwi res) (erx res) M0 4 24) 3 18 19 [(0, rv G.1 0), (1, .int x1), (2, .int x2)] [] M := by
  intro n
  induction n with
  | zero => intro M x1 x2 res zf; rw [fX12_stays_l19] at zf; cases zf
  | succ n ih =>
    intro M x1 x2 res zf
    rw [fX12_stays_l19] at zf
    refine g_iload_n h 2 rfl dX12_stays_19 ?_
    refine g_bipush h 60 (v := 60) (by decide) dX12_stays_20 ?_
    refine g_ic_gt h 76 (by decide) zf dX12_stays_22 ?_ ?_ <;> clear zf <;> intro zf
    · refine g_iconst h (-1) (v := (-1)) (by decide) dX12_stays_76 ?_
      obtain rfl := Option.some.inj zf
      refine g_ret ?_
      exact g_iret h rfl ⟨_, rfl, rfl, rfl⟩ (Nat.le_of_ble_eq_true rfl) (Nat.le_of_ble_eq_true rfl) dX12_stays_77
    · refine g_aload_n h 0 rfl dX12_stays_25 ?_
      refine gfX12_36 h (by decide : kd 0 = 10) dX12_stays_26 ?_
      refine g_aload_n h 0 rfl dX12_stays_29 ?_
      refine gfX12_56 h (by decide : kd 0 = 10) dX12_stays_30 ?_
      refine g_iconst h 1 (v := 1) (by decide) dX12_stays_33 ?_
      have zf1 := bd_some zf
      clear zf; obtain ⟨Mq2, zq, zf⟩ := zf1
      refine g_callVwv (As := [rv G.1 86, .int 1]) (rest := []) h ceX7_passMany mlX12_244 imX7_passMany seX7_passMany (by rfl) (kd_lt (by rw [(by decide : kd 28 = 6)]; decide)) (ent_6 (by decide : kd 28 = 6)) rfl rfl ⟨by decide, by decide⟩ ⟨by decide, by decide⟩ rfl dX12_stays_34 rfl (Nat.le_of_ble_eq_true rfl) (cmX7_passMany zq) ?_
      refine g_aload_n h 0 rfl dX12_stays_37 ?_
      refine gfX12_56 h (by decide : kd 0 = 10) dX12_stays_38 ?_
      refine gfX12_147 h (by decide : kd 86 = 2) dX12_stays_41 ?_
      refine g_nmI zf ?_
      clear zf; intro vq3 zf
      refine g_aload_n h 0 rfl dX12_stays_44 ?_
      refine gfX12_52 h (by decide : kd 0 = 10) dX12_stays_45 ?_
      refine gfX12_147 h (by decide : kd 81 = 2) dX12_stays_48 ?_
      refine g_nmI zf ?_
      clear zf; intro vq4 zf
      refine g_ic_le h 70 (by decide) zf dX12_stays_51 ?_ ?_ <;> clear zf <;> intro zf
      · refine g_iinc h 2 2 rfl (v := x2 + 1) (congrArg (fun z => x2 + z) (by decide : Int32.ofInt (1) = (1 : Int32))) [(2, .int (x2 + 1)), (0, rv G.1 0), (1, .int x1)] (by decide) rfl dX12_stays_70 ?_
        refine g_nmV zf ?_
        clear zf; intro vq5 zf
        refine g_goto h 19 (by decide) dX12_stays_73 ?_
        refine g_sub h [1, 2, 0] rfl ?_
        exact ih _ _ _ _ zf
      · refine g_iload_n h 1 rfl dX12_stays_54 ?_
        refine g_if_ne h 62 (by decide) zf dX12_stays_55 ?_ ?_ <;> clear zf <;> intro zf
        · refine g_aload_n h 0 rfl dX12_stays_62 ?_
          refine gfX12_56 h (by decide : kd 0 = 10) dX12_stays_63 ?_
          refine gfX12_135 h (by decide : kd 86 = 2) dX12_stays_66 ?_
          refine g_nmI zf ?_
          clear zf; intro vq6 zf
          obtain rfl := Option.some.inj zf
          refine g_ret ?_
          exact g_iret h rfl ⟨_, rfl, rfl, rfl⟩ (Nat.le_of_ble_eq_true rfl) (Nat.le_of_ble_eq_true rfl) dX12_stays_69
        · refine g_iload_n h 2 rfl dX12_stays_58 ?_
          refine g_goto h 69 (by decide) dX12_stays_59 ?_
          obtain rfl := Option.some.inj zf
          refine g_ret ?_
          exact g_iret h rfl ⟨_, rfl, rfl, rfl⟩ (Nat.le_of_ble_eq_true rfl) (Nat.le_of_ble_eq_true rfl) dX12_stays_69

theorem kX12_stays_e0 {G : GX} (h : OKm G cX12_stays RX12 3 (some .int) { frames := 9, cells := 4, slots := 24, locals := 229 }) (zE : OKe G) {M : Mem} {x1 : Int32} {res : (Except Nat (Int32 × Mem))} (zf : fX12_stays M x1 = some res) : GG G (QmX G (okx Pwi res) (erx res) M 4 24) 0 0 0 [(0, rv G.1 0), (1, .int x1)] [] M := by
  unfold fX12_stays at zf
  refine g_aload_n h 0 rfl dX12_stays_0 ?_
  refine g_iload_n h 1 rfl dX12_stays_1 ?_
  refine g_iconst h 1 (v := 1) (by decide) dX12_stays_2 ?_
  refine g_xneed (As := [.int x1, .int 1]) (rest := []) h zE zf ceX12_needWhat mlX12_261 imX12_needWhat seX12_needWhat (by rfl) (by decide) (ent_10 (by decide)) rfl rfl ⟨by decide, by decide⟩ ⟨by decide, by decide⟩ rfl (by decide) (by decide) dX12_stays_3 rfl (Nat.le_of_ble_eq_true rfl) (fun q zq => cxX12_needWhat zE.1 zq) ?_
  clear zf; intro zf
  refine g_aload_n h 0 rfl dX12_stays_6 ?_
  refine gfX12_56 h (by decide : kd 0 = 10) dX12_stays_7 ?_
  refine g_aload_n h 0 rfl dX12_stays_10 ?_
  refine gfX12_52 h (by decide : kd 0 = 10) dX12_stays_11 ?_
  have zf1 := bd_some zf
  clear zf; obtain ⟨Mq1, zq, zf⟩ := zf1
  refine g_callVwv (As := [rv G.1 81]) (rest := []) h ceX3_become mlX12_115 imX3_become seX3_become (by rfl) (kd_lt (by rw [(by decide : kd 86 = 2)]; decide)) (ent_2 (by decide : kd 86 = 2)) rfl rfl ⟨by decide, by decide⟩ ⟨by decide, by decide⟩ rfl dX12_stays_14 rfl (Nat.le_of_ble_eq_true rfl) (cmX3_become zq) ?_
  refine g_iconst h 1 (v := 1) (by decide) dX12_stays_17 ?_
  refine g_istore_n h rfl [(2, .int 1), (0, rv G.1 0), (1, .int x1)] (by decide) rfl dX12_stays_18 ?_
  refine g_cs h (kc' := 3) (ks' := 18) (by decide) (by decide) ?_
  refine g_sub h [1, 2, 0] rfl ?_
  exact kX12_stays_l19 h zE _ _ _ _ _ zf

theorem cxX12_stays {l : Launch} (zl : l.stackTraces = false) {w : WX} {M : Mem} {x1 : Int32} {res : (Except Nat (Int32 × Mem))} (zf : fX12_stays M x1 = some res) : CX l w yX12_stays cX12_stays 3 (some .int) { frames := 9, cells := 4, slots := 24, locals := 229 } 4 24 [rv w 0, .int x1] M (okx Pwi res) (erx res) := by
  refine CX_of zl (by decide) (Nat.le_of_ble_eq_true rfl) (fun G hw hl h zE => ?_)
  subst hw
  exact kX12_stays_e0 h zE zf

-- X12_swap
theorem kX12_swap_b80 {G : GX} (h : OKm G cX12_swap RX12 8 (some .int) { frames := 10, cells := 4, slots := 24, locals := 253 }) (zE : OKe G) {M0 : Mem} {a32 : Mem → Int32 → Int32 → Int32 → Int32 → Int32 → Option (Except Nat (Int32 × Mem))} (zh32 : ∀ (M : Mem) (x1 : Int32) (x2 : Int32) (x3 : Int32) (x4 : Int32) (x5 : Int32) (res : (Except Nat (Int32 × Mem))), a32 M x1 x2 x3 x4 x5 = some res → GG G (QmX G (okx Pwi res) (erx res) M0 4 24) 3 18 32 [(0, rv G.1 0), (1, .int x1), (2, .int x2), (3, .int x3), (4, .int x4), (5, .int x5)] [] M) {a44 : Mem → Int32 → Int32 → Int32 → Int32 → Int32 → Int32 → Option (Except Nat (Int32 × Mem))} (zh44 : ∀ (M : Mem) (x1 : Int32) (x2 : Int32) (x3 : Int32) (x4 : Int32) (x5 : Int32) (x6 : Int32) (res : (Except Nat (Int32 × Mem))), a44 M x1 x2 x3 x4 x5 x6 = some res → GG G (QmX G (okx Pwi res) (erx res) M0 4 24) 3 18 44 [(0, rv G.1 0), (1, .int x1), (2, .int x2), (3, .int x3), (4, .int x4), (5, .int x5), (6, .int x6)] [] M) {M : Mem} {x1 : Int32} {x2 : Int32} {x3 : Int32} {x4 : Int32} {x5 : Int32} {x6 : Int32} {res : (Except Nat (Int32 × Mem))} (zf : fX12_swap_b80 a32 a44 M x1 x2 x3 x4 x5 x6 = some res) : GG G (QmX G (okx Pwi res) (erx res) M0 4 24) 3 18 80 [(0, rv G.1 0), (1, .int x1), (2, .int x2), (3, .int x3), (4, .int x4), (5, .int x5), (6, .int x6)] [] M := by
  unfold fX12_swap_b80 at zf
  refine g_iinc h 6 6 rfl (v := x6 + 1) (congrArg (fun z => x6 + z) (by decide : Int32.ofInt (1) = (1 : Int32))) [(6, .int (x6 + 1)), (0, rv G.1 0), (1, .int x1), (2, .int x2), (3, .int x3), (4, .int x4), (5, .int x5)] (by decide) rfl dX12_swap_80 ?_
  refine g_nmV zf ?_
  clear zf; intro vq9 zf
  refine g_goto h 44 (by decide) dX12_swap_83 ?_
  refine g_sub h [1, 2, 3, 4, 5, 6, 0] rfl ?_
  exact zh44 _ _ _ _ _ _ _ _ zf

theorem kX12_swap_l44 {G : GX} (h : OKm G cX12_swap RX12 8 (some .int) { frames := 10, cells := 4, slots := 24, locals := 253 }) (zE : OKe G) {M0 : Mem} {a32 : Mem → Int32 → Int32 → Int32 → Int32 → Int32 → Option (Except Nat (Int32 × Mem))} (zh32 : ∀ (M : Mem) (x1 : Int32) (x2 : Int32) (x3 : Int32) (x4 : Int32) (x5 : Int32) (res : (Except Nat (Int32 × Mem))), a32 M x1 x2 x3 x4 x5 = some res → GG G (QmX G (okx Pwi res) (erx res) M0 4 24) 3 18 32 [(0, rv G.1 0), (1, .int x1), (2, .int x2), (3, .int x3), (4, .int x4), (5, .int x5)] [] M) : ∀ (n : Nat) (M : Mem) (x1 : Int32) (x2 : Int32) (x3 : Int32) (x4 : Int32) (x5 : Int32) (x6 : Int32) (res : (Except Nat (Int32 × Mem))), fX12_swap_l44 a32 n M x1 x2 x3 x4 x5 x6 = some res → GG G (QmX G (okx Pwi res) (erx res) M0 4 24) 3 18 44 [(0, rv G.1 0), (1, .int x1), (2, .int x2), (3, .int x3), (4, .int x4), (5, .int x5), (6, .int x6)] [] M := by
  intro n
  induction n with
  | zero => intro M x1 x2 x3 x4 x5 x6 res zf; rw [fX12_swap_l44] at zf; cases zf
  | succ n ih =>
    intro M x1 x2 x3 x4 x5 x6 res zf
    rw [fX12_swap_l44] at zf
    refine g_iload h 6 rfl dX12_swap_44 ?_
    refine g_iload_n h 2 rfl dX12_swap_46 ?_
    refine g_ic_ge h 86 (by decide) zf dX12_swap_47 ?_ ?_ <;> clear zf <;> intro zf
    · refine g_iinc h 5 5 rfl (v := x5 + 1) (congrArg (fun z => x5 + z) (by decide : Int32.ofInt (1) = (1 : Int32))) [(5, .int (x5 + 1)), (0, rv G.1 0), (1, .int x1), (2, .int x2), (3, .int x3), (4, .int x4), (6, .int x6)] (by decide) rfl dX12_swap_86 ?_
      refine g_nmV zf ?_
      clear zf; intro vq6 zf
      refine g_goto h 32 (by decide) dX12_swap_89 ?_
      refine g_sub h [1, 2, 3, 4, 5, 0] rfl ?_
      exact zh32 _ _ _ _ _ _ _ zf
    · refine g_aload_n h 0 rfl dX12_swap_50 ?_
      refine g_iload_n h 1 rfl dX12_swap_51 ?_
      refine g_iload h 5 rfl dX12_swap_52 ?_
      refine g_iload h 6 rfl dX12_swap_54 ?_
      have zf1 := b2_some zf
      clear zf; obtain ⟨vq7, Mq8, zq, zf⟩ := zf1
      refine g_callVwi (As := [.int x1, .int x5, .int x6]) (rest := []) h ceX12_gloryWithSwap mlX12_366 imX12_gloryWithSwap seX12_gloryWithSwap (by rfl) (kd_lt (by rw [(by decide : kd 0 = 10)]; decide)) (ent_10 (by decide : kd 0 = 10)) rfl rfl ⟨by decide, by decide⟩ ⟨by decide, by decide⟩ rfl dX12_swap_56 rfl (Nat.le_of_ble_eq_true rfl) (cmX12_gloryWithSwap zq) ?_
      refine g_istore h [(7, .int vq7), (0, rv G.1 0), (1, .int x1), (2, .int x2), (3, .int x3), (4, .int x4), (5, .int x5), (6, .int x6)] (by decide) rfl dX12_swap_59 ?_
      refine g_iload h 0 rfl dX12_swap_61 ?_
      refine g_iload_n h 4 rfl dX12_swap_63 ?_
      refine g_ic_le h 80 (by decide) zf dX12_swap_64 ?_ ?_ <;> clear zf <;> intro zf
      · refine g_sub h [1, 2, 3, 4, 5, 6, 7] rfl ?_
        exact kX12_swap_b80 h zE zh32 ih zf
      · refine g_iload h 0 rfl dX12_swap_67 ?_
        refine g_istore_n h rfl [(3, .int vq7), (7, .int vq7), (0, rv G.1 0), (1, .int x1), (2, .int x2), (4, .int x4), (5, .int x5), (6, .int x6)] (by decide) rfl dX12_swap_69 ?_
        refine g_bipush h 10 (v := 10) (by decide) dX12_swap_70 ?_
        refine g_iload h 6 rfl dX12_swap_72 ?_
        refine g_imul h dX12_swap_74 ?_
        refine g_iload h 7 rfl dX12_swap_75 ?_
        refine g_iadd h dX12_swap_77 ?_
        refine g_nmI zf ?_
        clear zf; intro vq10 zf
        refine g_istore h [(4, .int vq10), (3, .int vq7), (7, .int vq7), (0, rv G.1 0), (1, .int x1), (2, .int x2), (5, .int x5), (6, .int x6)] (by decide) rfl dX12_swap_78 ?_
        refine g_sub h [3, 4, 5, 1, 0, 6, 7] rfl ?_
        exact kX12_swap_b80 h zE zh32 ih zf

theorem kX12_swap_l32 {G : GX} (h : OKm G cX12_swap RX12 8 (some .int) { frames := 10, cells := 4, slots := 24, locals := 253 }) (zE : OKe G) {M0 : Mem} : ∀ (n : Nat) (M : Mem) (x1 : Int32) (x2 : Int32) (x3 : Int32) (x4 : Int32) (x5 : Int32) (res : (Except Nat (Int32 × Mem))), fX12_swap_l32 n M x1 x2 x3 x4 x5 = some res → GG G (QmX G (okx Pwi res) (erx res) M0 4 24) 3 18 32 [(0, rv G.1 0), (1, .int x1), (2, .int x2), (3, .int x3), (4, .int x4), (5, .int x5)] [] M := by
  intro n
  induction n with
  | zero => intro M x1 x2 x3 x4 x5 res zf; rw [fX12_swap_l32] at zf; cases zf
  | succ n ih =>
    intro M x1 x2 x3 x4 x5 res zf
    rw [fX12_swap_l32] at zf
    refine g_iload h 5 rfl dX12_swap_32 ?_
    refine g_iload_n h 2 rfl dX12_swap_34 ?_
    refine g_ic_ge h 92 (by decide) zf dX12_swap_35 ?_ ?_ <;> clear zf <;> intro zf
    · refine g_iload h 4 rfl dX12_swap_92 ?_
      obtain rfl := Option.some.inj zf
      refine g_ret ?_
      exact g_iret h rfl ⟨_, rfl, rfl, rfl⟩ (Nat.le_of_ble_eq_true rfl) (Nat.le_of_ble_eq_true rfl) dX12_swap_94
    · refine g_iload h 5 rfl dX12_swap_38 ?_
      refine g_iconst h 1 (v := 1) (by decide) dX12_swap_40 ?_
      refine g_iadd h dX12_swap_41 ?_
      refine g_nmI zf ?_
      clear zf; intro vq5 zf
      refine g_istore h [(6, .int vq5), (0, rv G.1 0), (1, .int x1), (2, .int x2), (3, .int x3), (4, .int x4), (5, .int x5)] (by decide) rfl dX12_swap_42 ?_
      refine g_sub h [1, 2, 3, 4, 5, 6, 0] rfl ?_
      exact kX12_swap_l44 h zE ih _ _ _ _ _ _ _ _ _ zf

theorem kX12_swap_e0 {G : GX} (h : OKm G cX12_swap RX12 8 (some .int) { frames := 10, cells := 4, slots := 24, locals := 253 }) (zE : OKe G) {M : Mem} {x1 : Int32} {res : (Except Nat (Int32 × Mem))} (zf : fX12_swap M x1 = some res) : GG G (QmX G (okx Pwi res) (erx res) M 4 24) 0 0 0 [(0, rv G.1 0), (1, .int x1)] [] M := by
  unfold fX12_swap at zf
  refine g_aload_n h 0 rfl dX12_swap_0 ?_
  refine g_iload_n h 1 rfl dX12_swap_1 ?_
  refine g_xneed (As := [.int x1]) (rest := []) h zE zf ceX12_needBrother mlX12_188 imX12_needBrother seX12_needBrother (by rfl) (by decide) (ent_10 (by decide)) rfl rfl ⟨by decide, by decide⟩ ⟨by decide, by decide⟩ rfl (by decide) (by decide) dX12_swap_2 rfl (Nat.le_of_ble_eq_true rfl) (fun q zq => cxX12_needBrother zE.1 zq) ?_
  clear zf; intro zf
  refine g_aload_n h 0 rfl dX12_swap_5 ?_
  refine gfX12_36 h (by decide : kd 0 = 10) dX12_swap_6 ?_
  refine gfX12_111 h (by decide : kd 28 = 6) dX12_swap_9 ?_
  refine g_nmR zf ?_
  clear zf; intro oq1 zf
  have zf1 := pre_ck zf
  clear zf; obtain ⟨zk_oq1, zf⟩ := zf1
  refine gfX12_195 h zk_oq1 dX12_swap_12 ?_
  refine g_iload_n h 1 rfl dX12_swap_15 ?_
  refine g_iald h 2 (kf4_5 zk_oq1) (lf4_5 zk_oq1) zf dX12_swap_16 ?_
  clear zf; intro vq2 zf
  refine g_istore_n h rfl [(2, .int vq2), (0, rv G.1 0), (1, .int x1)] (by decide) rfl dX12_swap_17 ?_
  refine g_aload_n h 1 rfl dX12_swap_18 ?_
  refine g_iload_n h 2 rfl dX12_swap_19 ?_
  refine g_iconst h 0 (v := 0) (by decide) dX12_swap_20 ?_
  refine g_iconst h 0 (v := 0) (by decide) dX12_swap_21 ?_
  have zf1 := b2_some zf
  clear zf; obtain ⟨vq3, Mq4, zq, zf⟩ := zf1
  refine g_callVwi (As := [.int x1, .int 0, .int 0]) (rest := []) h ceX12_gloryWithSwap mlX12_366 imX12_gloryWithSwap seX12_gloryWithSwap (by rfl) (kd_lt (by rw [(by decide : kd 0 = 10)]; decide)) (ent_10 (by decide : kd 0 = 10)) rfl rfl ⟨by decide, by decide⟩ ⟨by decide, by decide⟩ rfl dX12_swap_22 rfl (Nat.le_of_ble_eq_true rfl) (cmX12_gloryWithSwap zq) ?_
  refine g_istore_n h rfl [(3, .int vq3), (2, .int vq2), (0, rv G.1 0), (1, .int x1)] (by decide) rfl dX12_swap_25 ?_
  refine g_iconst h (-1) (v := (-1)) (by decide) dX12_swap_26 ?_
  refine g_istore h [(4, .int (-1)), (3, .int vq3), (2, .int vq2), (0, rv G.1 0), (1, .int x1)] (by decide) rfl dX12_swap_27 ?_
  refine g_iconst h 0 (v := 0) (by decide) dX12_swap_29 ?_
  refine g_istore h [(5, .int 0), (4, .int (-1)), (3, .int vq3), (2, .int vq2), (0, rv G.1 0), (1, .int x1)] (by decide) rfl dX12_swap_30 ?_
  refine g_cs h (kc' := 3) (ks' := 18) (by decide) (by decide) ?_
  refine g_sub h [4, 5, 3, 2, 1, 0] rfl ?_
  exact kX12_swap_l32 h zE _ _ _ _ _ _ _ _ zf

theorem cxX12_swap {l : Launch} (zl : l.stackTraces = false) {w : WX} {M : Mem} {x1 : Int32} {res : (Except Nat (Int32 × Mem))} (zf : fX12_swap M x1 = some res) : CX l w yX12_swap cX12_swap 8 (some .int) { frames := 10, cells := 4, slots := 24, locals := 253 } 4 24 [rv w 0, .int x1] M (okx Pwi res) (erx res) := by
  refine CX_of zl (by decide) (Nat.le_of_ble_eq_true rfl) (fun G hw hl h zE => ?_)
  subst hw
  exact kX12_swap_e0 h zE zf

-- X12_then
theorem kX12_then_e0 {G : GX} (h : OKm G cX12_then RX12 3 (some .int) { frames := 9, cells := 4, slots := 24, locals := 229 }) (zE : OKe G) {M : Mem} {x1 : Int32} {x2 : Int32} {res : (Except Nat (Int32 × Mem))} (zf : fX12_then M x1 x2 = some res) : GG G (QmX G (okx Pwi res) (erx res) M 4 24) 0 0 0 [(0, rv G.1 0), (1, .int x1), (2, .int x2)] [] M := by
  unfold fX12_then at zf
  refine g_aload_n h 0 rfl dX12_then_0 ?_
  refine g_iload_n h 2 rfl dX12_then_1 ?_
  refine g_bipush h 6 (v := 6) (by decide) dX12_then_2 ?_
  refine g_xneed (As := [.int x2, .int 6]) (rest := []) h zE zf ceX12_needWhat mlX12_261 imX12_needWhat seX12_needWhat (by rfl) (by decide) (ent_10 (by decide)) rfl rfl ⟨by decide, by decide⟩ ⟨by decide, by decide⟩ rfl (by decide) (by decide) dX12_then_4 rfl (Nat.le_of_ble_eq_true rfl) (fun q zq => cxX12_needWhat zE.1 zq) ?_
  clear zf; intro zf
  refine g_aload_n h 0 rfl dX12_then_7 ?_
  refine g_iload_n h 1 rfl dX12_then_8 ?_
  refine g_iconst h 0 (v := 0) (by decide) dX12_then_9 ?_
  refine g_bipush h 60 (v := 60) (by decide) dX12_then_10 ?_
  refine g_xneed (As := [.int x1, .int 0, .int 60]) (rest := []) h zE zf ceX12_needWithin mlX12_265 imX12_needWithin seX12_needWithin (by rfl) (by decide) (ent_10 (by decide)) rfl rfl ⟨by decide, by decide⟩ ⟨by decide, by decide⟩ rfl (by decide) (by decide) dX12_then_12 rfl (Nat.le_of_ble_eq_true rfl) (fun q zq => cxX12_needWithin zE.1 zq) ?_
  clear zf; intro zf
  refine g_aload_n h 0 rfl dX12_then_15 ?_
  refine gfX12_56 h (by decide : kd 0 = 10) dX12_then_16 ?_
  refine g_aload_n h 0 rfl dX12_then_19 ?_
  refine gfX12_52 h (by decide : kd 0 = 10) dX12_then_20 ?_
  have zf1 := bd_some zf
  clear zf; obtain ⟨Mq1, zq, zf⟩ := zf1
  refine g_callVwv (As := [rv G.1 81]) (rest := []) h ceX3_become mlX12_115 imX3_become seX3_become (by rfl) (kd_lt (by rw [(by decide : kd 86 = 2)]; decide)) (ent_2 (by decide : kd 86 = 2)) rfl rfl ⟨by decide, by decide⟩ ⟨by decide, by decide⟩ rfl dX12_then_23 rfl (Nat.le_of_ble_eq_true rfl) (cmX3_become zq) ?_
  refine g_aload_n h 0 rfl dX12_then_26 ?_
  refine gfX12_36 h (by decide : kd 0 = 10) dX12_then_27 ?_
  refine g_aload_n h 0 rfl dX12_then_30 ?_
  refine gfX12_56 h (by decide : kd 0 = 10) dX12_then_31 ?_
  refine g_iload_n h 1 rfl dX12_then_34 ?_
  have zf1 := bd_some zf
  clear zf; obtain ⟨Mq2, zq, zf⟩ := zf1
  refine g_callVwv (As := [rv G.1 86, .int x1]) (rest := []) h ceX7_passMany mlX12_244 imX7_passMany seX7_passMany (by rfl) (kd_lt (by rw [(by decide : kd 28 = 6)]; decide)) (ent_6 (by decide : kd 28 = 6)) rfl rfl ⟨by decide, by decide⟩ ⟨by decide, by decide⟩ rfl dX12_then_35 rfl (Nat.le_of_ble_eq_true rfl) (cmX7_passMany zq) ?_
  refine g_iload_n h 2 rfl dX12_then_38 ?_
  by_cases zx0 : x2 = 0
  · rw [if_pos zx0] at zf
    refine g_tabIn h (off := 37) 76 (by rw [zx0]; decide) (by rw [zx0]; decide) (by rw [zx0]; decide) (by decide) dX12_then_39 ?_
    refine g_aload_n h 0 rfl dX12_then_76 ?_
    refine gfX12_56 h (by decide : kd 0 = 10) dX12_then_77 ?_
    refine gfX12_123 h (by decide : kd 86 = 2) dX12_then_80 ?_
    refine g_nmI zf ?_
    clear zf; intro vq3 zf
    obtain rfl := Option.some.inj zf
    refine g_ret ?_
    exact g_iret h rfl ⟨_, rfl, rfl, rfl⟩ (Nat.le_of_ble_eq_true rfl) (Nat.le_of_ble_eq_true rfl) dX12_then_83
  rw [if_neg zx0] at zf
  have zy0 : x2.toInt ≠ 0 := fun q => zx0 (Int32.toInt_inj.mp (by rw [q]; rfl))
  by_cases zx1 : x2 = 1
  · rw [if_pos zx1] at zf
    refine g_tabIn h (off := 45) 84 (by rw [zx1]; decide) (by rw [zx1]; decide) (by rw [zx1]; decide) (by decide) dX12_then_39 ?_
    refine g_aload_n h 0 rfl dX12_then_84 ?_
    refine gfX12_56 h (by decide : kd 0 = 10) dX12_then_85 ?_
    refine gfX12_126 h (by decide : kd 86 = 2) dX12_then_88 ?_
    refine g_nmI zf ?_
    clear zf; intro vq4 zf
    obtain rfl := Option.some.inj zf
    refine g_ret ?_
    exact g_iret h rfl ⟨_, rfl, rfl, rfl⟩ (Nat.le_of_ble_eq_true rfl) (Nat.le_of_ble_eq_true rfl) dX12_then_91
  rw [if_neg zx1] at zf
  have zy1 : x2.toInt ≠ 1 := fun q => zx1 (Int32.toInt_inj.mp (by rw [q]; rfl))
  by_cases zx2 : x2 = 2
  · rw [if_pos zx2] at zf
    refine g_tabIn h (off := 53) 92 (by rw [zx2]; decide) (by rw [zx2]; decide) (by rw [zx2]; decide) (by decide) dX12_then_39 ?_
    refine g_aload_n h 0 rfl dX12_then_92 ?_
    refine gfX12_56 h (by decide : kd 0 = 10) dX12_then_93 ?_
    refine gfX12_129 h (by decide : kd 86 = 2) dX12_then_96 ?_
    refine g_nmI zf ?_
    clear zf; intro vq5 zf
    obtain rfl := Option.some.inj zf
    refine g_ret ?_
    exact g_iret h rfl ⟨_, rfl, rfl, rfl⟩ (Nat.le_of_ble_eq_true rfl) (Nat.le_of_ble_eq_true rfl) dX12_then_99
  rw [if_neg zx2] at zf
  have zy2 : x2.toInt ≠ 2 := fun q => zx2 (Int32.toInt_inj.mp (by rw [q]; rfl))
  by_cases zx3 : x2 = 3
  · rw [if_pos zx3] at zf
    refine g_tabIn h (off := 61) 100 (by rw [zx3]; decide) (by rw [zx3]; decide) (by rw [zx3]; decide) (by decide) dX12_then_39 ?_
    refine g_aload_n h 0 rfl dX12_then_100 ?_
    refine gfX12_56 h (by decide : kd 0 = 10) dX12_then_101 ?_
    refine gfX12_191 h (by decide : kd 86 = 2) dX12_then_104 ?_
    change GG G _ _ _ _ _ (rv G.1 88 :: _) _
    refine g_iconst h 0 (v := 0) (by decide) dX12_then_107 ?_
    refine g_iald h 2 (by decide : kd 88 = 20) (by decide) zf dX12_then_108 ?_
    clear zf; intro vq6 zf
    obtain rfl := Option.some.inj zf
    refine g_ret ?_
    exact g_iret h rfl ⟨_, rfl, rfl, rfl⟩ (Nat.le_of_ble_eq_true rfl) (Nat.le_of_ble_eq_true rfl) dX12_then_109
  rw [if_neg zx3] at zf
  have zy3 : x2.toInt ≠ 3 := fun q => zx3 (Int32.toInt_inj.mp (by rw [q]; rfl))
  by_cases zx4 : x2 = 4
  · rw [if_pos zx4] at zf
    refine g_tabIn h (off := 71) 110 (by rw [zx4]; decide) (by rw [zx4]; decide) (by rw [zx4]; decide) (by decide) dX12_then_39 ?_
    refine g_aload_n h 0 rfl dX12_then_110 ?_
    refine gfX12_56 h (by decide : kd 0 = 10) dX12_then_111 ?_
    refine gfX12_191 h (by decide : kd 86 = 2) dX12_then_114 ?_
    change GG G _ _ _ _ _ (rv G.1 88 :: _) _
    refine g_iconst h 1 (v := 1) (by decide) dX12_then_117 ?_
    refine g_iald h 2 (by decide : kd 88 = 20) (by decide) zf dX12_then_118 ?_
    clear zf; intro vq7 zf
    obtain rfl := Option.some.inj zf
    refine g_ret ?_
    exact g_iret h rfl ⟨_, rfl, rfl, rfl⟩ (Nat.le_of_ble_eq_true rfl) (Nat.le_of_ble_eq_true rfl) dX12_then_119
  rw [if_neg zx4] at zf
  have zy4 : x2.toInt ≠ 4 := fun q => zx4 (Int32.toInt_inj.mp (by rw [q]; rfl))
  by_cases zx5 : x2 = 5
  · rw [if_pos zx5] at zf
    refine g_tabIn h (off := 81) 120 (by rw [zx5]; decide) (by rw [zx5]; decide) (by rw [zx5]; decide) (by decide) dX12_then_39 ?_
    refine g_aload_n h 0 rfl dX12_then_120 ?_
    refine gfX12_56 h (by decide : kd 0 = 10) dX12_then_121 ?_
    refine gfX12_135 h (by decide : kd 86 = 2) dX12_then_124 ?_
    refine g_nmI zf ?_
    clear zf; intro vq8 zf
    obtain rfl := Option.some.inj zf
    refine g_ret ?_
    exact g_iret h rfl ⟨_, rfl, rfl, rfl⟩ (Nat.le_of_ble_eq_true rfl) (Nat.le_of_ble_eq_true rfl) dX12_then_127
  rw [if_neg zx5] at zf
  have zy5 : x2.toInt ≠ 5 := fun q => zx5 (Int32.toInt_inj.mp (by rw [q]; rfl))
  refine g_tabOut h 128 (by omega) (by decide) dX12_then_39 ?_
  refine g_aload_n h 0 rfl dX12_then_128 ?_
  refine gfX12_56 h (by decide : kd 0 = 10) dX12_then_129 ?_
  refine gfX12_144 h (by decide : kd 86 = 2) dX12_then_132 ?_
  refine g_nmI zf ?_
  clear zf; intro vq9 zf
  obtain rfl := Option.some.inj zf
  refine g_ret ?_
  exact g_iret h rfl ⟨_, rfl, rfl, rfl⟩ (Nat.le_of_ble_eq_true rfl) (Nat.le_of_ble_eq_true rfl) dX12_then_135

theorem cxX12_then {l : Launch} (zl : l.stackTraces = false) {w : WX} {M : Mem} {x1 : Int32} {x2 : Int32} {res : (Except Nat (Int32 × Mem))} (zf : fX12_then M x1 x2 = some res) : CX l w yX12_then cX12_then 3 (some .int) { frames := 9, cells := 4, slots := 24, locals := 229 } 4 24 [rv w 0, .int x1, .int x2] M (okx Pwi res) (erx res) := by
  refine CX_of zl (by decide) (Nat.le_of_ble_eq_true rfl) (fun G hw hl h zE => ?_)
  subst hw
  exact kX12_then_e0 h zE zf

-- X12_way
theorem kX12_way_e0 {G : GX} (h : OKm G cX12_way RX12 3 (some .int) { frames := 7, cells := 4, slots := 24, locals := 181 }) (zE : OKe G) {M : Mem} {x1 : Int32} {x2 : Int32} {res : (Except Nat Int32)} (zf : fX12_way M x1 x2 = some res) : GG G (QmX G (okx (fun zr => Pri zr M) res) (erx res) M 4 24) 0 0 0 [(0, rv G.1 0), (1, .int x1), (2, .int x2)] [] M := by
  unfold fX12_way at zf
  refine g_aload_n h 0 rfl dX12_way_0 ?_
  refine g_iload_n h 1 rfl dX12_way_1 ?_
  refine g_xneed (As := [.int x1]) (rest := []) h zE zf ceX12_needBrother mlX12_188 imX12_needBrother seX12_needBrother (by rfl) (by decide) (ent_10 (by decide)) rfl rfl ⟨by decide, by decide⟩ ⟨by decide, by decide⟩ rfl (by decide) (by decide) dX12_way_2 rfl (Nat.le_of_ble_eq_true rfl) (fun q zq => cxX12_needBrother zE.1 zq) ?_
  clear zf; intro zf
  refine g_aload_n h 0 rfl dX12_way_5 ?_
  refine g_iload_n h 1 rfl dX12_way_6 ?_
  refine g_iload_n h 2 rfl dX12_way_7 ?_
  have zf1 := bd_some zf
  clear zf; obtain ⟨vq1, zq, zf⟩ := zf1
  refine g_callVri (As := [.int x1, .int x2]) (rest := []) h ceX12_hasPlace mlX12_208 imX12_hasPlace seX12_hasPlace (by rfl) (kd_lt (by rw [(by decide : kd 0 = 10)]; decide)) (ent_10 (by decide : kd 0 = 10)) rfl rfl ⟨by decide, by decide⟩ ⟨by decide, by decide⟩ rfl dX12_way_8 rfl (Nat.le_of_ble_eq_true rfl) (cmX12_hasPlace zq) ?_
  refine g_if_ne h 24 (by decide) zf dX12_way_11 ?_ ?_ <;> clear zf <;> intro zf
  · refine g_aload_n h 0 rfl dX12_way_24 ?_
    refine gfX12_52 h (by decide : kd 0 = 10) dX12_way_25 ?_
    refine gfX12_214 h (by decide : kd 81 = 2) dX12_way_28 ?_
    change GG G _ _ _ _ _ (rv G.1 84 :: _) _
    refine g_iload_n h 1 rfl dX12_way_31 ?_
    refine g_bipush h 6 (v := 6) (by decide) dX12_way_32 ?_
    refine g_imul h dX12_way_34 ?_
    refine g_iload_n h 2 rfl dX12_way_35 ?_
    refine g_iadd h dX12_way_36 ?_
    refine g_iald h 12 (by decide : kd 84 = 20) (by decide) zf dX12_way_37 ?_
    clear zf; intro vq2 zf
    obtain rfl := Option.some.inj zf
    refine g_ret ?_
    exact g_iret h rfl ⟨_, rfl, rfl, rfl⟩ (Nat.le_of_ble_eq_true rfl) (Nat.le_of_ble_eq_true rfl) dX12_way_38
  · obtain rfl := Option.some.inj zf
    exact g_throwN h zE rfl clX12_168 initNSE (by decide +kernel : (RX12, 212, "no such place in the way") ∈ wMs) hatX12_172 dX12_way_14 dX12_way_17 dX12_way_18 dX12_way_20 dX12_way_23 (by decide) (Nat.le_of_ble_eq_true rfl) (by decide) (by decide) (by decide) (by decide)

theorem cxX12_way {l : Launch} (zl : l.stackTraces = false) {w : WX} {M : Mem} {x1 : Int32} {x2 : Int32} {res : (Except Nat Int32)} (zf : fX12_way M x1 x2 = some res) : CX l w yX12_way cX12_way 3 (some .int) { frames := 7, cells := 4, slots := 24, locals := 181 } 4 24 [rv w 0, .int x1, .int x2] M (okx (fun zr => Pri zr M) res) (erx res) := by
  refine CX_of zl (by decide) (Nat.le_of_ble_eq_true rfl) (fun G hw hl h zE => ?_)
  subst hw
  exact kX12_way_e0 h zE zf

-- X12_wins
theorem kX12_wins_e0 {G : GX} (h : OKm G cX12_wins RX12 3 (some .boolean) { frames := 7, cells := 4, slots := 24, locals := 181 }) (zE : OKe G) {M : Mem} {x1 : Int32} {x2 : Int32} {res : (Except Nat Int32)} (zf : fX12_wins M x1 x2 = some res) : GG G (QmX G (okx (fun zr => Pri zr M) res) (erx res) M 4 24) 0 0 0 [(0, rv G.1 0), (1, .int x1), (2, .int x2)] [] M := by
  unfold fX12_wins at zf
  refine g_aload_n h 0 rfl dX12_wins_0 ?_
  refine g_iload_n h 1 rfl dX12_wins_1 ?_
  refine g_xneed (As := [.int x1]) (rest := []) h zE zf ceX12_needChampion mlX12_285 imX12_needChampion seX12_needChampion (by rfl) (by decide) (ent_10 (by decide)) rfl rfl ⟨by decide, by decide⟩ ⟨by decide, by decide⟩ rfl (by decide) (by decide) dX12_wins_2 rfl (Nat.le_of_ble_eq_true rfl) (fun q zq => cxX12_needChampion zE.1 zq) ?_
  clear zf; intro zf
  refine g_aload_n h 0 rfl dX12_wins_5 ?_
  refine g_iload_n h 2 rfl dX12_wins_6 ?_
  refine g_xneed (As := [.int x2]) (rest := []) h zE zf ceX12_needGate mlX12_288 imX12_needGate seX12_needGate (by rfl) (by decide) (ent_10 (by decide)) rfl rfl ⟨by decide, by decide⟩ ⟨by decide, by decide⟩ rfl (by decide) (by decide) dX12_wins_7 rfl (Nat.le_of_ble_eq_true rfl) (fun q zq => cxX12_needGate zE.1 zq) ?_
  clear zf; intro zf
  refine g_aload_n h 0 rfl dX12_wins_10 ?_
  refine g_iload_n h 1 rfl dX12_wins_11 ?_
  refine g_iload_n h 2 rfl dX12_wins_12 ?_
  have zf1 := bd_some zf
  clear zf; obtain ⟨vq1, zq, zf⟩ := zf1
  refine g_callVri (As := [.int x1, .int x2]) (rest := []) h ceX12_edge mlX12_291 imX12_edge seX12_edge (by rfl) (kd_lt (by rw [(by decide : kd 0 = 10)]; decide)) (ent_10 (by decide : kd 0 = 10)) rfl rfl ⟨by decide, by decide⟩ ⟨by decide, by decide⟩ rfl dX12_wins_13 rfl (Nat.le_of_ble_eq_true rfl) (cmX12_edge zq) ?_
  refine g_aload_n h 0 rfl dX12_wins_16 ?_
  refine gfX12_36 h (by decide : kd 0 = 10) dX12_wins_17 ?_
  refine gfX12_111 h (by decide : kd 28 = 6) dX12_wins_20 ?_
  refine g_nmR zf ?_
  clear zf; intro oq2 zf
  have zf1 := pre_ck zf
  clear zf; obtain ⟨zk_oq2, zf⟩ := zf1
  refine gfX12_165 h zk_oq2 dX12_wins_23 ?_
  refine gfX12_294 h (kf4_11 zk_oq2) dX12_wins_26 ?_
  refine g_iload_n h 2 rfl dX12_wins_29 ?_
  refine g_iald h 7 (kf3_1 (kf4_11 zk_oq2)) (lf3_1 (kf4_11 zk_oq2)) zf dX12_wins_30 ?_
  clear zf; intro vq3 zf
  refine g_ic_le h 38 (by decide) zf dX12_wins_31 ?_ ?_ <;> clear zf <;> intro zf
  · refine g_iconst h 0 (v := 0) (by decide) dX12_wins_38 ?_
    obtain rfl := Option.some.inj zf
    refine g_ret ?_
    exact g_zret h (by decide) rfl ⟨_, rfl, rfl, rfl⟩ (Nat.le_of_ble_eq_true rfl) (Nat.le_of_ble_eq_true rfl) dX12_wins_39
  · refine g_iconst h 1 (v := 1) (by decide) dX12_wins_34 ?_
    refine g_goto h 39 (by decide) dX12_wins_35 ?_
    obtain rfl := Option.some.inj zf
    refine g_ret ?_
    exact g_zret h (by decide) rfl ⟨_, rfl, rfl, rfl⟩ (Nat.le_of_ble_eq_true rfl) (Nat.le_of_ble_eq_true rfl) dX12_wins_39

theorem cxX12_wins {l : Launch} (zl : l.stackTraces = false) {w : WX} {M : Mem} {x1 : Int32} {x2 : Int32} {res : (Except Nat Int32)} (zf : fX12_wins M x1 x2 = some res) : CX l w yX12_wins cX12_wins 3 (some .boolean) { frames := 7, cells := 4, slots := 24, locals := 181 } 4 24 [rv w 0, .int x1, .int x2] M (okx (fun zr => Pri zr M) res) (erx res) := by
  refine CX_of zl (by decide) (Nat.le_of_ble_eq_true rfl) (fun G hw hl h zE => ?_)
  subst hw
  exact kX12_wins_e0 h zE zf
