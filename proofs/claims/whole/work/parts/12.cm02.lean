-- X13_isSign
theorem kX13_isSign_e0 {G : GX} (h : OKm G cX13_isSign RX13 2 (some .boolean) { frames := 0, cells := 0, slots := 0, locals := 0 }) {M : Mem} {x1 : Int32} {res : Int32} (hf : fX13_isSign M x1 = some res) : GG G (Qm G (Pri res M) 0 0) 0 0 0 [(0, rv G.1 103), (1, .int x1)] [] M := by
  unfold fX13_isSign at hf
  refine g_aload_n h 0 rfl dX13_isSign_0 ?_
  refine gfX13_174 h (by decide : kd 103 = 11) dX13_isSign_1 ?_
  refine g_nmI hf (fun v1 hf => ?_)
  refine g_iconst h 3 (v := 3) (by decide) dX13_isSign_4 ?_
  refine g_ic_ne h 20 (by decide) hf dX13_isSign_5 (fun hf => ?_) (fun hf => ?_)
  · refine g_iconst h 0 (v := 0) (by decide) dX13_isSign_20 ?_
    cases hf
    exact g_zret h (by decide) rfl ⟨rfl, rfl⟩ (Nat.le_refl _) (Nat.le_refl _) dX13_isSign_21
  · refine g_aload_n h 0 rfl dX13_isSign_8 ?_
    refine gfX13_171 h (by decide : kd 103 = 11) dX13_isSign_9 ?_
    refine g_nmI hf (fun v2 hf => ?_)
    refine g_iload_n h 1 rfl dX13_isSign_12 ?_
    refine g_ic_ne h 20 (by decide) hf dX13_isSign_13 (fun hf => ?_) (fun hf => ?_)
    · refine g_iconst h 0 (v := 0) (by decide) dX13_isSign_20 ?_
      cases hf
      exact g_zret h (by decide) rfl ⟨rfl, rfl⟩ (Nat.le_refl _) (Nat.le_refl _) dX13_isSign_21
    · refine g_iconst h 1 (v := 1) (by decide) dX13_isSign_16 ?_
      refine g_goto h 21 (by decide) dX13_isSign_17 ?_
      cases hf
      exact g_zret h (by decide) rfl ⟨rfl, rfl⟩ (Nat.le_refl _) (Nat.le_refl _) dX13_isSign_21

theorem cmX13_isSign {l : Launch} {w : WX} {M : Mem} {x1 : Int32} {res : Int32} (hf : fX13_isSign M x1 = some res) : CM l w yX13_isSign cX13_isSign 2 (some .boolean) { frames := 0, cells := 0, slots := 0, locals := 0 } 0 0 [rv w 103, .int x1] M (Pri res M) := by
  refine CM_of (by decide) (by decide) (fun G hw hl h => ?_)
  subst hw
  exact kX13_isSign_e0 h hf

-- X13_deeper
theorem kX13_deeper_b61 {G : GX} (h : OKm G cX13_deeper RX13 1 none { frames := 1, cells := 0, slots := 0, locals := 21 }) {M : Mem} {s0 : Int32} {res : Mem} (hf : fX13_deeper_b61 M s0 = some res) : GG G (Qm G (Pwv res) 0 0) 0 0 61 [] [.int s0, rv G.1 103] M := by
  unfold fX13_deeper_b61 at hf
  obtain ⟨M3, hq, hf⟩ := bd_some hf
  refine g_callVwv (As := [.int s0]) (rest := []) h ceX13_wrong mlX13_207 imX13_wrong seX13_wrong (by rfl) (kd_lt (by rw [(by decide : kd 103 = 11)]; decide)) (ent_11 (by decide : kd 103 = 11)) rfl rfl ⟨by decide, by decide⟩ ⟨by decide, by decide⟩ rfl dX13_deeper_61 rfl (Nat.le_of_ble_eq_true rfl) (cmX13_wrong hq) ?_
  cases hf
  exact g_vret h rfl ⟨rfl, rfl⟩ (Nat.le_refl _) (Nat.le_refl _) dX13_deeper_64

theorem kX13_deeper_b56 {G : GX} (h : OKm G cX13_deeper RX13 1 none { frames := 1, cells := 0, slots := 0, locals := 21 }) {M : Mem} {res : Mem} (hf : fX13_deeper_b56 M = some res) : GG G (Qm G (Pwv res) 0 0) 0 0 56 [] [rv G.1 103] M := by
  unfold fX13_deeper_b56 at hf
  refine g_iconst h 2 (v := 2) (by decide) dX13_deeper_56 ?_
  refine g_goto h 61 (by decide) dX13_deeper_57 ?_
  refine g_sub [] rfl ?_
  exact kX13_deeper_b61 h hf

theorem kX13_deeper_e0 {G : GX} (h : OKm G cX13_deeper RX13 1 none { frames := 1, cells := 0, slots := 0, locals := 21 }) {M : Mem} {res : Mem} (hf : fX13_deeper M = some res) : GG G (Qm G (Pwv res) 0 0) 0 0 0 [(0, rv G.1 103)] [] M := by
  unfold fX13_deeper at hf
  refine g_aload_n h 0 rfl dX13_deeper_0 ?_
  refine gfX13_242 h (by decide : kd 103 = 11) dX13_deeper_1 ?_
  refine g_nmI hf (fun v1 hf => ?_)
  refine g_bipush h 6 (v := 6) (by decide) dX13_deeper_4 ?_
  refine g_ic_ge h 30 (by decide) hf dX13_deeper_6 (fun hf => ?_) (fun hf => ?_)
  · refine g_aload_n h 0 rfl dX13_deeper_30 ?_
    refine g_aload_n h 0 rfl dX13_deeper_31 ?_
    refine gfX13_174 h (by decide : kd 103 = 11) dX13_deeper_32 ?_
    refine g_nmI hf (fun v2 hf => ?_)
    refine g_iconst h 2 (v := 2) (by decide) dX13_deeper_35 ?_
    refine g_ic_eq h 56 (by decide) hf dX13_deeper_36 (fun hf => ?_) (fun hf => ?_)
    · refine g_sub [] rfl ?_
      exact kX13_deeper_b56 h hf
    · refine g_aload_n h 0 rfl dX13_deeper_39 ?_
      refine gfX13_174 h (by decide : kd 103 = 11) dX13_deeper_40 ?_
      refine g_nmI hf (fun v4 hf => ?_)
      refine g_iconst h 1 (v := 1) (by decide) dX13_deeper_43 ?_
      refine g_ic_eq h 56 (by decide) hf dX13_deeper_44 (fun hf => ?_) (fun hf => ?_)
      · refine g_sub [] rfl ?_
        exact kX13_deeper_b56 h hf
      · refine g_aload_n h 0 rfl dX13_deeper_47 ?_
        refine g_bipush h 40 (v := 40) (by decide) dX13_deeper_48 ?_
        obtain ⟨v5, hq, hf⟩ := bd_some hf
        refine g_callVri (As := [.int 40]) (rest := [rv G.1 103]) h ceX13_isSign mlX13_210 imX13_isSign seX13_isSign (by rfl) (kd_lt (by rw [(by decide : kd 103 = 11)]; decide)) (ent_11 (by decide : kd 103 = 11)) rfl rfl ⟨by decide, by decide⟩ ⟨by decide, by decide⟩ rfl dX13_deeper_50 rfl (Nat.le_of_ble_eq_true rfl) (cmX13_isSign hq) ?_
        refine g_if_eq h 60 (by decide) hf dX13_deeper_53 (fun hf => ?_) (fun hf => ?_)
        · refine g_iconst h 1 (v := 1) (by decide) dX13_deeper_60 ?_
          refine g_sub [] rfl ?_
          exact kX13_deeper_b61 h hf
        · refine g_sub [] rfl ?_
          exact kX13_deeper_b56 h hf
  · refine g_aload_n h 0 rfl dX13_deeper_9 ?_
    refine g_dup h rfl dX13_deeper_10 ?_
    refine gfX13_242 h (by decide : kd 103 = 11) dX13_deeper_11 ?_
    refine g_nmI hf (fun v6 hf => ?_)
    refine g_iconst h 1 (v := 1) (by decide) dX13_deeper_14 ?_
    refine g_iadd h dX13_deeper_15 ?_
    refine pfX13_242 h (by decide : kd 103 = 11) dX13_deeper_16 ?_
    refine g_nmM hf (fun M7 hf => ?_)
    refine g_aload_n h 0 rfl dX13_deeper_19 ?_
    refine gfX13_104 h (by decide : kd 103 = 11) dX13_deeper_20 ?_
    refine g_aload_n h 0 rfl dX13_deeper_23 ?_
    refine gfX13_242 h (by decide : kd 103 = 11) dX13_deeper_24 ?_
    refine g_nmI hf (fun v8 hf => ?_)
    refine g_iconst h 0 (v := 0) (by decide) dX13_deeper_27 ?_
    refine g_zast h 9 (by decide : kd 132 = 23) (by decide) hf dX13_deeper_28 (fun M9 hf => ?_)
    cases hf
    exact g_vret h rfl ⟨rfl, rfl⟩ (Nat.le_refl _) (Nat.le_refl _) dX13_deeper_29

theorem cmX13_deeper {l : Launch} {w : WX} {M : Mem} {res : Mem} (hf : fX13_deeper M = some res) : CM l w yX13_deeper cX13_deeper 1 none { frames := 1, cells := 0, slots := 0, locals := 21 } 0 0 [rv w 103] M (Pwv res) := by
  refine CM_of (by decide) (by decide) (fun G hw hl h => ?_)
  subst hw
  exact kX13_deeper_e0 h hf

-- X13_spelled
theorem kX13_spelled_b102 {G : GX} (h : OKm G cX13_spelled RX13 10 (some .long) { frames := 0, cells := 0, slots := 0, locals := 0 }) {M : Mem} {x7 : Int32} {x8 : Int64} {res : Int64} (hf : fX13_spelled_b102 x7 x8 = some res) : GG G (Qm G (Prl res M) 0 0) 0 0 102 [(7, .int x7), (8, .long x8)] [] M := by
  unfold fX13_spelled_b102 at hf
  refine g_iload h 0 rfl dX13_spelled_102 ?_
  refine g_if_eq h 120 (by decide) hf dX13_spelled_104 (fun hf => ?_) (fun hf => ?_)
  · refine g_lload h 1 rfl dX13_spelled_120 ?_
    cases hf
    exact g_lret h rfl ⟨rfl, rfl⟩ (Nat.le_refl _) (Nat.le_refl _) dX13_spelled_122
  · refine g_lload h 1 rfl dX13_spelled_107 ?_
    refine g_iconst h 5 (v := 5) (by decide) dX13_spelled_109 ?_
    refine g_lshl h dX13_spelled_110 ?_
    refine g_iload h 0 rfl dX13_spelled_111 ?_
    refine g_bipush h 96 (v := 96) (by decide) dX13_spelled_113 ?_
    refine g_isub h dX13_spelled_115 ?_
    refine g_i2l h dX13_spelled_116 ?_
    refine g_lor h dX13_spelled_117 ?_
    refine g_nmL hf (fun v2 hf => ?_)
    refine g_lstore h [(8, .long v2), (7, .int x7)] (by decide) rfl dX13_spelled_118 ?_
    refine g_lload h 0 rfl dX13_spelled_120 ?_
    cases hf
    exact g_lret h rfl ⟨rfl, rfl⟩ (Nat.le_refl _) (Nat.le_refl _) dX13_spelled_122

theorem kX13_spelled_b84 {G : GX} (h : OKm G cX13_spelled RX13 10 (some .long) { frames := 0, cells := 0, slots := 0, locals := 0 }) {M : Mem} {x6 : Int32} {x7 : Int32} {x8 : Int64} {res : Int64} (hf : fX13_spelled_b84 x6 x7 x8 = some res) : GG G (Qm G (Prl res M) 0 0) 0 0 84 [(6, .int x6), (7, .int x7), (8, .long x8)] [] M := by
  unfold fX13_spelled_b84 at hf
  refine g_iload h 0 rfl dX13_spelled_84 ?_
  refine g_if_eq h 102 (by decide) hf dX13_spelled_86 (fun hf => ?_) (fun hf => ?_)
  · refine g_sub [1, 2] rfl ?_
    exact kX13_spelled_b102 h hf
  · refine g_lload h 2 rfl dX13_spelled_89 ?_
    refine g_iconst h 5 (v := 5) (by decide) dX13_spelled_91 ?_
    refine g_lshl h dX13_spelled_92 ?_
    refine g_iload h 0 rfl dX13_spelled_93 ?_
    refine g_bipush h 96 (v := 96) (by decide) dX13_spelled_95 ?_
    refine g_isub h dX13_spelled_97 ?_
    refine g_i2l h dX13_spelled_98 ?_
    refine g_lor h dX13_spelled_99 ?_
    refine g_nmL hf (fun v3 hf => ?_)
    refine g_lstore h [(8, .long v3), (6, .int x6), (7, .int x7)] (by decide) rfl dX13_spelled_100 ?_
    refine g_sub [2, 0] rfl ?_
    exact kX13_spelled_b102 h hf

theorem kX13_spelled_b66 {G : GX} (h : OKm G cX13_spelled RX13 10 (some .long) { frames := 0, cells := 0, slots := 0, locals := 0 }) {M : Mem} {x5 : Int32} {x6 : Int32} {x7 : Int32} {x8 : Int64} {res : Int64} (hf : fX13_spelled_b66 x5 x6 x7 x8 = some res) : GG G (Qm G (Prl res M) 0 0) 0 0 66 [(5, .int x5), (6, .int x6), (7, .int x7), (8, .long x8)] [] M := by
  unfold fX13_spelled_b66 at hf
  refine g_iload h 0 rfl dX13_spelled_66 ?_
  refine g_if_eq h 84 (by decide) hf dX13_spelled_68 (fun hf => ?_) (fun hf => ?_)
  · refine g_sub [1, 2, 3] rfl ?_
    exact kX13_spelled_b84 h hf
  · refine g_lload h 3 rfl dX13_spelled_71 ?_
    refine g_iconst h 5 (v := 5) (by decide) dX13_spelled_73 ?_
    refine g_lshl h dX13_spelled_74 ?_
    refine g_iload h 0 rfl dX13_spelled_75 ?_
    refine g_bipush h 96 (v := 96) (by decide) dX13_spelled_77 ?_
    refine g_isub h dX13_spelled_79 ?_
    refine g_i2l h dX13_spelled_80 ?_
    refine g_lor h dX13_spelled_81 ?_
    refine g_nmL hf (fun v4 hf => ?_)
    refine g_lstore h [(8, .long v4), (5, .int x5), (6, .int x6), (7, .int x7)] (by decide) rfl dX13_spelled_82 ?_
    refine g_sub [2, 3, 0] rfl ?_
    exact kX13_spelled_b84 h hf

theorem kX13_spelled_b48 {G : GX} (h : OKm G cX13_spelled RX13 10 (some .long) { frames := 0, cells := 0, slots := 0, locals := 0 }) {M : Mem} {x4 : Int32} {x5 : Int32} {x6 : Int32} {x7 : Int32} {x8 : Int64} {res : Int64} (hf : fX13_spelled_b48 x4 x5 x6 x7 x8 = some res) : GG G (Qm G (Prl res M) 0 0) 0 0 48 [(4, .int x4), (5, .int x5), (6, .int x6), (7, .int x7), (8, .long x8)] [] M := by
  unfold fX13_spelled_b48 at hf
  refine g_iload h 0 rfl dX13_spelled_48 ?_
  refine g_if_eq h 66 (by decide) hf dX13_spelled_50 (fun hf => ?_) (fun hf => ?_)
  · refine g_sub [1, 2, 3, 4] rfl ?_
    exact kX13_spelled_b66 h hf
  · refine g_lload h 4 rfl dX13_spelled_53 ?_
    refine g_iconst h 5 (v := 5) (by decide) dX13_spelled_55 ?_
    refine g_lshl h dX13_spelled_56 ?_
    refine g_iload h 0 rfl dX13_spelled_57 ?_
    refine g_bipush h 96 (v := 96) (by decide) dX13_spelled_59 ?_
    refine g_isub h dX13_spelled_61 ?_
    refine g_i2l h dX13_spelled_62 ?_
    refine g_lor h dX13_spelled_63 ?_
    refine g_nmL hf (fun v5 hf => ?_)
    refine g_lstore h [(8, .long v5), (4, .int x4), (5, .int x5), (6, .int x6), (7, .int x7)] (by decide) rfl dX13_spelled_64 ?_
    refine g_sub [2, 3, 4, 0] rfl ?_
    exact kX13_spelled_b66 h hf

theorem kX13_spelled_b32 {G : GX} (h : OKm G cX13_spelled RX13 10 (some .long) { frames := 0, cells := 0, slots := 0, locals := 0 }) {M : Mem} {x3 : Int32} {x4 : Int32} {x5 : Int32} {x6 : Int32} {x7 : Int32} {x8 : Int64} {res : Int64} (hf : fX13_spelled_b32 x3 x4 x5 x6 x7 x8 = some res) : GG G (Qm G (Prl res M) 0 0) 0 0 32 [(3, .int x3), (4, .int x4), (5, .int x5), (6, .int x6), (7, .int x7), (8, .long x8)] [] M := by
  unfold fX13_spelled_b32 at hf
  refine g_iload_n h 0 rfl dX13_spelled_32 ?_
  refine g_if_eq h 48 (by decide) hf dX13_spelled_33 (fun hf => ?_) (fun hf => ?_)
  · refine g_sub [1, 2, 3, 4, 5] rfl ?_
    exact kX13_spelled_b48 h hf
  · refine g_lload h 5 rfl dX13_spelled_36 ?_
    refine g_iconst h 5 (v := 5) (by decide) dX13_spelled_38 ?_
    refine g_lshl h dX13_spelled_39 ?_
    refine g_iload_n h 0 rfl dX13_spelled_40 ?_
    refine g_bipush h 96 (v := 96) (by decide) dX13_spelled_41 ?_
    refine g_isub h dX13_spelled_43 ?_
    refine g_i2l h dX13_spelled_44 ?_
    refine g_lor h dX13_spelled_45 ?_
    refine g_nmL hf (fun v6 hf => ?_)
    refine g_lstore h [(8, .long v6), (3, .int x3), (4, .int x4), (5, .int x5), (6, .int x6), (7, .int x7)] (by decide) rfl dX13_spelled_46 ?_
    refine g_sub [2, 3, 4, 5, 0] rfl ?_
    exact kX13_spelled_b48 h hf

theorem kX13_spelled_e0 {G : GX} (h : OKm G cX13_spelled RX13 10 (some .long) { frames := 0, cells := 0, slots := 0, locals := 0 }) {M : Mem} {x0 : Int32} {x1 : Int32} {x2 : Int32} {x3 : Int32} {x4 : Int32} {x5 : Int32} {x6 : Int32} {x7 : Int32} {res : Int64} (hf : fX13_spelled x0 x1 x2 x3 x4 x5 x6 x7 = some res) : GG G (Qm G (Prl res M) 0 0) 0 0 0 [(0, .int x0), (1, .int x1), (2, .int x2), (3, .int x3), (4, .int x4), (5, .int x5), (6, .int x6), (7, .int x7)] [] M := by
  unfold fX13_spelled at hf
  refine g_iload_n h 0 rfl dX13_spelled_0 ?_
  refine g_i2l h dX13_spelled_1 ?_
  refine g_ldc2 h 187 (v := 96) coX13_187 dX13_spelled_2 ?_
  refine g_lsub h dX13_spelled_5 ?_
  refine g_iconst h 5 (v := 5) (by decide) dX13_spelled_6 ?_
  refine g_lshl h dX13_spelled_7 ?_
  refine g_iload_n h 1 rfl dX13_spelled_8 ?_
  refine g_bipush h 96 (v := 96) (by decide) dX13_spelled_9 ?_
  refine g_isub h dX13_spelled_11 ?_
  refine g_i2l h dX13_spelled_12 ?_
  refine g_lor h dX13_spelled_13 ?_
  refine g_nmL hf (fun v1 hf => ?_)
  refine g_lstore h [(8, .long v1), (0, .int x0), (1, .int x1), (2, .int x2), (3, .int x3), (4, .int x4), (5, .int x5), (6, .int x6), (7, .int x7)] (by decide) rfl dX13_spelled_14 ?_
  refine g_iload_n h 3 rfl dX13_spelled_16 ?_
  refine g_if_eq h 32 (by decide) hf dX13_spelled_17 (fun hf => ?_) (fun hf => ?_)
  · refine g_sub [4, 5, 6, 7, 8, 0] rfl ?_
    exact kX13_spelled_b32 h hf
  · refine g_lload h 0 rfl dX13_spelled_20 ?_
    refine g_iconst h 5 (v := 5) (by decide) dX13_spelled_22 ?_
    refine g_lshl h dX13_spelled_23 ?_
    refine g_iload_n h 3 rfl dX13_spelled_24 ?_
    refine g_bipush h 96 (v := 96) (by decide) dX13_spelled_25 ?_
    refine g_isub h dX13_spelled_27 ?_
    refine g_i2l h dX13_spelled_28 ?_
    refine g_lor h dX13_spelled_29 ?_
    refine g_nmL hf (fun v7 hf => ?_)
    refine g_lstore h [(8, .long v7), (0, .int x0), (1, .int x1), (2, .int x2), (3, .int x3), (4, .int x4), (5, .int x5), (6, .int x6), (7, .int x7)] (by decide) rfl dX13_spelled_30 ?_
    refine g_sub [4, 5, 6, 7, 8, 0] rfl ?_
    exact kX13_spelled_b32 h hf

theorem cmX13_spelled {l : Launch} {w : WX} {M : Mem} {x0 : Int32} {x1 : Int32} {x2 : Int32} {x3 : Int32} {x4 : Int32} {x5 : Int32} {x6 : Int32} {x7 : Int32} {res : Int64} (hf : fX13_spelled x0 x1 x2 x3 x4 x5 x6 x7 = some res) : CM l w yX13_spelled cX13_spelled 10 (some .long) { frames := 0, cells := 0, slots := 0, locals := 0 } 0 0 [.int x0, .int x1, .int x2, .int x3, .int x4, .int x5, .int x6, .int x7] M (Prl res M) := by
  refine CM_of (by decide) (by decide) (fun G hw hl h => ?_)
  subst hw
  exact kX13_spelled_e0 h hf

-- X13_letters
theorem kX13_letters_e0 {G : GX} (h : OKm G cX13_letters RX13 1 (some .long) { frames := 1, cells := 0, slots := 0, locals := 29 }) {M : Mem} {x0 : Int32} {res : Int64} (hf : fX13_letters x0 = some res) : GG G (Qm G (Prl res M) 0 0) 0 0 0 [(0, .int x0)] [] M := by
  unfold fX13_letters at hf
  refine g_iload_n h 0 rfl dX13_letters_0 ?_
  by_cases hx0 : x0 = 0
  · rw [if_pos hx0] at hf
    refine g_tabIn h (off := 99) 100 (by rw [hx0]; decide) (by rw [hx0]; decide) (by rw [hx0]; decide) (by decide) dX13_letters_1 ?_
    refine g_bipush h 119 (v := 119) (by decide) dX13_letters_100 ?_
    refine g_bipush h 97 (v := 97) (by decide) dX13_letters_102 ?_
    refine g_bipush h 108 (v := 108) (by decide) dX13_letters_104 ?_
    refine g_bipush h 108 (v := 108) (by decide) dX13_letters_106 ?_
    refine g_bipush h 115 (v := 115) (by decide) dX13_letters_108 ?_
    refine g_iconst h 0 (v := 0) (by decide) dX13_letters_110 ?_
    refine g_iconst h 0 (v := 0) (by decide) dX13_letters_111 ?_
    refine g_iconst h 0 (v := 0) (by decide) dX13_letters_112 ?_
    obtain ⟨v1, hq, hf⟩ := bd_some hf
    refine g_callSrl (As := [.int 119, .int 97, .int 108, .int 108, .int 115, .int 0, .int 0, .int 0]) (rest := []) h ceX13_spelled mlX13_189 smX13_spelled rfl rfl ⟨by decide, by decide⟩ ⟨by decide, by decide⟩ rfl dX13_letters_113 rfl (Nat.le_of_ble_eq_true rfl) (cmX13_spelled hq) ?_
    cases hf
    exact g_lret h rfl ⟨rfl, rfl⟩ (Nat.le_refl _) (Nat.le_refl _) dX13_letters_116
  rw [if_neg hx0] at hf
  have hy0 : x0.toInt ≠ 0 := fun q => hx0 (Int32.toInt_inj.mp (by rw [q]; rfl))
  by_cases hx1 : x0 = 1
  · rw [if_pos hx1] at hf
    refine g_tabIn h (off := 116) 117 (by rw [hx1]; decide) (by rw [hx1]; decide) (by rw [hx1]; decide) (by decide) dX13_letters_1 ?_
    refine g_bipush h 121 (v := 121) (by decide) dX13_letters_117 ?_
    refine g_bipush h 101 (v := 101) (by decide) dX13_letters_119 ?_
    refine g_bipush h 97 (v := 97) (by decide) dX13_letters_121 ?_
    refine g_bipush h 114 (v := 114) (by decide) dX13_letters_123 ?_
    refine g_iconst h 0 (v := 0) (by decide) dX13_letters_125 ?_
    refine g_iconst h 0 (v := 0) (by decide) dX13_letters_126 ?_
    refine g_iconst h 0 (v := 0) (by decide) dX13_letters_127 ?_
    refine g_iconst h 0 (v := 0) (by decide) dX13_letters_128 ?_
    obtain ⟨v2, hq, hf⟩ := bd_some hf
    refine g_callSrl (As := [.int 121, .int 101, .int 97, .int 114, .int 0, .int 0, .int 0, .int 0]) (rest := []) h ceX13_spelled mlX13_189 smX13_spelled rfl rfl ⟨by decide, by decide⟩ ⟨by decide, by decide⟩ rfl dX13_letters_129 rfl (Nat.le_of_ble_eq_true rfl) (cmX13_spelled hq) ?_
    cases hf
    exact g_lret h rfl ⟨rfl, rfl⟩ (Nat.le_refl _) (Nat.le_refl _) dX13_letters_132
  rw [if_neg hx1] at hf
  have hy1 : x0.toInt ≠ 1 := fun q => hx1 (Int32.toInt_inj.mp (by rw [q]; rfl))
  by_cases hx2 : x0 = 2
  · rw [if_pos hx2] at hf
    refine g_tabIn h (off := 132) 133 (by rw [hx2]; decide) (by rw [hx2]; decide) (by rw [hx2]; decide) (by decide) dX13_letters_1 ?_
    refine g_bipush h 109 (v := 109) (by decide) dX13_letters_133 ?_
    refine g_bipush h 101 (v := 101) (by decide) dX13_letters_135 ?_
    refine g_bipush h 110 (v := 110) (by decide) dX13_letters_137 ?_
    refine g_iconst h 0 (v := 0) (by decide) dX13_letters_139 ?_
    refine g_iconst h 0 (v := 0) (by decide) dX13_letters_140 ?_
    refine g_iconst h 0 (v := 0) (by decide) dX13_letters_141 ?_
    refine g_iconst h 0 (v := 0) (by decide) dX13_letters_142 ?_
    refine g_iconst h 0 (v := 0) (by decide) dX13_letters_143 ?_
    obtain ⟨v3, hq, hf⟩ := bd_some hf
    refine g_callSrl (As := [.int 109, .int 101, .int 110, .int 0, .int 0, .int 0, .int 0, .int 0]) (rest := []) h ceX13_spelled mlX13_189 smX13_spelled rfl rfl ⟨by decide, by decide⟩ ⟨by decide, by decide⟩ rfl dX13_letters_144 rfl (Nat.le_of_ble_eq_true rfl) (cmX13_spelled hq) ?_
    cases hf
    exact g_lret h rfl ⟨rfl, rfl⟩ (Nat.le_refl _) (Nat.le_refl _) dX13_letters_147
  rw [if_neg hx2] at hf
  have hy2 : x0.toInt ≠ 2 := fun q => hx2 (Int32.toInt_inj.mp (by rw [q]; rfl))
  by_cases hx3 : x0 = 3
  · rw [if_pos hx3] at hf
    refine g_tabIn h (off := 147) 148 (by rw [hx3]; decide) (by rw [hx3]; decide) (by rw [hx3]; decide) (by decide) dX13_letters_1 ?_
    refine g_bipush h 115 (v := 115) (by decide) dX13_letters_148 ?_
    refine g_bipush h 116 (v := 116) (by decide) dX13_letters_150 ?_
    refine g_bipush h 111 (v := 111) (by decide) dX13_letters_152 ?_
    refine g_bipush h 114 (v := 114) (by decide) dX13_letters_154 ?_
    refine g_bipush h 101 (v := 101) (by decide) dX13_letters_156 ?_
    refine g_iconst h 0 (v := 0) (by decide) dX13_letters_158 ?_
    refine g_iconst h 0 (v := 0) (by decide) dX13_letters_159 ?_
    refine g_iconst h 0 (v := 0) (by decide) dX13_letters_160 ?_
    obtain ⟨v4, hq, hf⟩ := bd_some hf
    refine g_callSrl (As := [.int 115, .int 116, .int 111, .int 114, .int 101, .int 0, .int 0, .int 0]) (rest := []) h ceX13_spelled mlX13_189 smX13_spelled rfl rfl ⟨by decide, by decide⟩ ⟨by decide, by decide⟩ rfl dX13_letters_161 rfl (Nat.le_of_ble_eq_true rfl) (cmX13_spelled hq) ?_
    cases hf
    exact g_lret h rfl ⟨rfl, rfl⟩ (Nat.le_refl _) (Nat.le_refl _) dX13_letters_164
  rw [if_neg hx3] at hf
  have hy3 : x0.toInt ≠ 3 := fun q => hx3 (Int32.toInt_inj.mp (by rw [q]; rfl))
  by_cases hx4 : x0 = 4
  · rw [if_pos hx4] at hf
    refine g_tabIn h (off := 164) 165 (by rw [hx4]; decide) (by rw [hx4]; decide) (by rw [hx4]; decide) (by decide) dX13_letters_1 ?_
    refine g_bipush h 100 (v := 100) (by decide) dX13_letters_165 ?_
    refine g_bipush h 101 (v := 101) (by decide) dX13_letters_167 ?_
    refine g_bipush h 98 (v := 98) (by decide) dX13_letters_169 ?_
    refine g_bipush h 116 (v := 116) (by decide) dX13_letters_171 ?_
    refine g_iconst h 0 (v := 0) (by decide) dX13_letters_173 ?_
    refine g_iconst h 0 (v := 0) (by decide) dX13_letters_174 ?_
    refine g_iconst h 0 (v := 0) (by decide) dX13_letters_175 ?_
    refine g_iconst h 0 (v := 0) (by decide) dX13_letters_176 ?_
    obtain ⟨v5, hq, hf⟩ := bd_some hf
    refine g_callSrl (As := [.int 100, .int 101, .int 98, .int 116, .int 0, .int 0, .int 0, .int 0]) (rest := []) h ceX13_spelled mlX13_189 smX13_spelled rfl rfl ⟨by decide, by decide⟩ ⟨by decide, by decide⟩ rfl dX13_letters_177 rfl (Nat.le_of_ble_eq_true rfl) (cmX13_spelled hq) ?_
    cases hf
    exact g_lret h rfl ⟨rfl, rfl⟩ (Nat.le_refl _) (Nat.le_refl _) dX13_letters_180
  rw [if_neg hx4] at hf
  have hy4 : x0.toInt ≠ 4 := fun q => hx4 (Int32.toInt_inj.mp (by rw [q]; rfl))
  by_cases hx5 : x0 = 5
  · rw [if_pos hx5] at hf
    refine g_tabIn h (off := 180) 181 (by rw [hx5]; decide) (by rw [hx5]; decide) (by rw [hx5]; decide) (by decide) dX13_letters_1 ?_
    refine g_bipush h 103 (v := 103) (by decide) dX13_letters_181 ?_
    refine g_bipush h 108 (v := 108) (by decide) dX13_letters_183 ?_
    refine g_bipush h 111 (v := 111) (by decide) dX13_letters_185 ?_
    refine g_bipush h 114 (v := 114) (by decide) dX13_letters_187 ?_
    refine g_bipush h 121 (v := 121) (by decide) dX13_letters_189 ?_
    refine g_iconst h 0 (v := 0) (by decide) dX13_letters_191 ?_
    refine g_iconst h 0 (v := 0) (by decide) dX13_letters_192 ?_
    refine g_iconst h 0 (v := 0) (by decide) dX13_letters_193 ?_
    obtain ⟨v6, hq, hf⟩ := bd_some hf
    refine g_callSrl (As := [.int 103, .int 108, .int 111, .int 114, .int 121, .int 0, .int 0, .int 0]) (rest := []) h ceX13_spelled mlX13_189 smX13_spelled rfl rfl ⟨by decide, by decide⟩ ⟨by decide, by decide⟩ rfl dX13_letters_194 rfl (Nat.le_of_ble_eq_true rfl) (cmX13_spelled hq) ?_
    cases hf
    exact g_lret h rfl ⟨rfl, rfl⟩ (Nat.le_refl _) (Nat.le_refl _) dX13_letters_197
  rw [if_neg hx5] at hf
  have hy5 : x0.toInt ≠ 5 := fun q => hx5 (Int32.toInt_inj.mp (by rw [q]; rfl))
  by_cases hx6 : x0 = 6
  · rw [if_pos hx6] at hf
    refine g_tabIn h (off := 197) 198 (by rw [hx6]; decide) (by rw [hx6]; decide) (by rw [hx6]; decide) (by decide) dX13_letters_1 ?_
    refine g_bipush h 114 (v := 114) (by decide) dX13_letters_198 ?_
    refine g_bipush h 117 (v := 117) (by decide) dX13_letters_200 ?_
    refine g_bipush h 108 (v := 108) (by decide) dX13_letters_202 ?_
    refine g_bipush h 101 (v := 101) (by decide) dX13_letters_204 ?_
    refine g_bipush h 115 (v := 115) (by decide) dX13_letters_206 ?_
    refine g_iconst h 0 (v := 0) (by decide) dX13_letters_208 ?_
    refine g_iconst h 0 (v := 0) (by decide) dX13_letters_209 ?_
    refine g_iconst h 0 (v := 0) (by decide) dX13_letters_210 ?_
    obtain ⟨v7, hq, hf⟩ := bd_some hf
    refine g_callSrl (As := [.int 114, .int 117, .int 108, .int 101, .int 115, .int 0, .int 0, .int 0]) (rest := []) h ceX13_spelled mlX13_189 smX13_spelled rfl rfl ⟨by decide, by decide⟩ ⟨by decide, by decide⟩ rfl dX13_letters_211 rfl (Nat.le_of_ble_eq_true rfl) (cmX13_spelled hq) ?_
    cases hf
    exact g_lret h rfl ⟨rfl, rfl⟩ (Nat.le_refl _) (Nat.le_refl _) dX13_letters_214
  rw [if_neg hx6] at hf
  have hy6 : x0.toInt ≠ 6 := fun q => hx6 (Int32.toInt_inj.mp (by rw [q]; rfl))
  by_cases hx7 : x0 = 7
  · rw [if_pos hx7] at hf
    refine g_tabIn h (off := 214) 215 (by rw [hx7]; decide) (by rw [hx7]; decide) (by rw [hx7]; decide) (by decide) dX13_letters_1 ?_
    refine g_bipush h 108 (v := 108) (by decide) dX13_letters_215 ?_
    refine g_bipush h 101 (v := 101) (by decide) dX13_letters_217 ?_
    refine g_bipush h 97 (v := 97) (by decide) dX13_letters_219 ?_
    refine g_bipush h 110 (v := 110) (by decide) dX13_letters_221 ?_
    refine g_iconst h 0 (v := 0) (by decide) dX13_letters_223 ?_
    refine g_iconst h 0 (v := 0) (by decide) dX13_letters_224 ?_
    refine g_iconst h 0 (v := 0) (by decide) dX13_letters_225 ?_
    refine g_iconst h 0 (v := 0) (by decide) dX13_letters_226 ?_
    obtain ⟨v8, hq, hf⟩ := bd_some hf
    refine g_callSrl (As := [.int 108, .int 101, .int 97, .int 110, .int 0, .int 0, .int 0, .int 0]) (rest := []) h ceX13_spelled mlX13_189 smX13_spelled rfl rfl ⟨by decide, by decide⟩ ⟨by decide, by decide⟩ rfl dX13_letters_227 rfl (Nat.le_of_ble_eq_true rfl) (cmX13_spelled hq) ?_
    cases hf
    exact g_lret h rfl ⟨rfl, rfl⟩ (Nat.le_refl _) (Nat.le_refl _) dX13_letters_230
  rw [if_neg hx7] at hf
  have hy7 : x0.toInt ≠ 7 := fun q => hx7 (Int32.toInt_inj.mp (by rw [q]; rfl))
  by_cases hx8 : x0 = 8
  · rw [if_pos hx8] at hf
    refine g_tabIn h (off := 230) 231 (by rw [hx8]; decide) (by rw [hx8]; decide) (by rw [hx8]; decide) (by decide) dX13_letters_1 ?_
    refine g_bipush h 99 (v := 99) (by decide) dX13_letters_231 ?_
    refine g_bipush h 105 (v := 105) (by decide) dX13_letters_233 ?_
    refine g_bipush h 116 (v := 116) (by decide) dX13_letters_235 ?_
    refine g_bipush h 121 (v := 121) (by decide) dX13_letters_237 ?_
    refine g_iconst h 0 (v := 0) (by decide) dX13_letters_239 ?_
    refine g_iconst h 0 (v := 0) (by decide) dX13_letters_240 ?_
    refine g_iconst h 0 (v := 0) (by decide) dX13_letters_241 ?_
    refine g_iconst h 0 (v := 0) (by decide) dX13_letters_242 ?_
    obtain ⟨v9, hq, hf⟩ := bd_some hf
    refine g_callSrl (As := [.int 99, .int 105, .int 116, .int 121, .int 0, .int 0, .int 0, .int 0]) (rest := []) h ceX13_spelled mlX13_189 smX13_spelled rfl rfl ⟨by decide, by decide⟩ ⟨by decide, by decide⟩ rfl dX13_letters_243 rfl (Nat.le_of_ble_eq_true rfl) (cmX13_spelled hq) ?_
    cases hf
    exact g_lret h rfl ⟨rfl, rfl⟩ (Nat.le_refl _) (Nat.le_refl _) dX13_letters_246
  rw [if_neg hx8] at hf
  have hy8 : x0.toInt ≠ 8 := fun q => hx8 (Int32.toInt_inj.mp (by rw [q]; rfl))
  by_cases hx9 : x0 = 9
  · rw [if_pos hx9] at hf
    refine g_tabIn h (off := 246) 247 (by rw [hx9]; decide) (by rw [hx9]; decide) (by rw [hx9]; decide) (by decide) dX13_letters_1 ?_
    refine g_bipush h 100 (v := 100) (by decide) dX13_letters_247 ?_
    refine g_bipush h 101 (v := 101) (by decide) dX13_letters_249 ?_
    refine g_bipush h 101 (v := 101) (by decide) dX13_letters_251 ?_
    refine g_bipush h 100 (v := 100) (by decide) dX13_letters_253 ?_
    refine g_iconst h 0 (v := 0) (by decide) dX13_letters_255 ?_
    refine g_iconst h 0 (v := 0) (by decide) dX13_letters_256 ?_
    refine g_iconst h 0 (v := 0) (by decide) dX13_letters_257 ?_
    refine g_iconst h 0 (v := 0) (by decide) dX13_letters_258 ?_
    obtain ⟨v10, hq, hf⟩ := bd_some hf
    refine g_callSrl (As := [.int 100, .int 101, .int 101, .int 100, .int 0, .int 0, .int 0, .int 0]) (rest := []) h ceX13_spelled mlX13_189 smX13_spelled rfl rfl ⟨by decide, by decide⟩ ⟨by decide, by decide⟩ rfl dX13_letters_259 rfl (Nat.le_of_ble_eq_true rfl) (cmX13_spelled hq) ?_
    cases hf
    exact g_lret h rfl ⟨rfl, rfl⟩ (Nat.le_refl _) (Nat.le_refl _) dX13_letters_262
  rw [if_neg hx9] at hf
  have hy9 : x0.toInt ≠ 9 := fun q => hx9 (Int32.toInt_inj.mp (by rw [q]; rfl))
  by_cases hx10 : x0 = 10
  · rw [if_pos hx10] at hf
    refine g_tabIn h (off := 262) 263 (by rw [hx10]; decide) (by rw [hx10]; decide) (by rw [hx10]; decide) (by decide) dX13_letters_1 ?_
    refine g_bipush h 101 (v := 101) (by decide) dX13_letters_263 ?_
    refine g_bipush h 108 (v := 108) (by decide) dX13_letters_265 ?_
    refine g_bipush h 100 (v := 100) (by decide) dX13_letters_267 ?_
    refine g_bipush h 101 (v := 101) (by decide) dX13_letters_269 ?_
    refine g_bipush h 114 (v := 114) (by decide) dX13_letters_271 ?_
    refine g_iconst h 0 (v := 0) (by decide) dX13_letters_273 ?_
    refine g_iconst h 0 (v := 0) (by decide) dX13_letters_274 ?_
    refine g_iconst h 0 (v := 0) (by decide) dX13_letters_275 ?_
    obtain ⟨v11, hq, hf⟩ := bd_some hf
    refine g_callSrl (As := [.int 101, .int 108, .int 100, .int 101, .int 114, .int 0, .int 0, .int 0]) (rest := []) h ceX13_spelled mlX13_189 smX13_spelled rfl rfl ⟨by decide, by decide⟩ ⟨by decide, by decide⟩ rfl dX13_letters_276 rfl (Nat.le_of_ble_eq_true rfl) (cmX13_spelled hq) ?_
    cases hf
    exact g_lret h rfl ⟨rfl, rfl⟩ (Nat.le_refl _) (Nat.le_refl _) dX13_letters_279
  rw [if_neg hx10] at hf
  have hy10 : x0.toInt ≠ 10 := fun q => hx10 (Int32.toInt_inj.mp (by rw [q]; rfl))
  by_cases hx11 : x0 = 11
  · rw [if_pos hx11] at hf
    refine g_tabIn h (off := 279) 280 (by rw [hx11]; decide) (by rw [hx11]; decide) (by rw [hx11]; decide) (by decide) dX13_letters_1 ?_
    refine g_bipush h 121 (v := 121) (by decide) dX13_letters_280 ?_
    refine g_bipush h 111 (v := 111) (by decide) dX13_letters_282 ?_
    refine g_bipush h 117 (v := 117) (by decide) dX13_letters_284 ?_
    refine g_bipush h 110 (v := 110) (by decide) dX13_letters_286 ?_
    refine g_bipush h 103 (v := 103) (by decide) dX13_letters_288 ?_
    refine g_bipush h 101 (v := 101) (by decide) dX13_letters_290 ?_
    refine g_bipush h 114 (v := 114) (by decide) dX13_letters_292 ?_
    refine g_iconst h 0 (v := 0) (by decide) dX13_letters_294 ?_
    obtain ⟨v12, hq, hf⟩ := bd_some hf
    refine g_callSrl (As := [.int 121, .int 111, .int 117, .int 110, .int 103, .int 101, .int 114, .int 0]) (rest := []) h ceX13_spelled mlX13_189 smX13_spelled rfl rfl ⟨by decide, by decide⟩ ⟨by decide, by decide⟩ rfl dX13_letters_295 rfl (Nat.le_of_ble_eq_true rfl) (cmX13_spelled hq) ?_
    cases hf
    exact g_lret h rfl ⟨rfl, rfl⟩ (Nat.le_refl _) (Nat.le_refl _) dX13_letters_298
  rw [if_neg hx11] at hf
  have hy11 : x0.toInt ≠ 11 := fun q => hx11 (Int32.toInt_inj.mp (by rw [q]; rfl))
  by_cases hx12 : x0 = 12
  · rw [if_pos hx12] at hf
    refine g_tabIn h (off := 298) 299 (by rw [hx12]; decide) (by rw [hx12]; decide) (by rw [hx12]; decide) (by decide) dX13_letters_1 ?_
    refine g_bipush h 104 (v := 104) (by decide) dX13_letters_299 ?_
    refine g_bipush h 97 (v := 97) (by decide) dX13_letters_301 ?_
    refine g_bipush h 114 (v := 114) (by decide) dX13_letters_303 ?_
    refine g_bipush h 118 (v := 118) (by decide) dX13_letters_305 ?_
    refine g_bipush h 101 (v := 101) (by decide) dX13_letters_307 ?_
    refine g_bipush h 115 (v := 115) (by decide) dX13_letters_309 ?_
    refine g_bipush h 116 (v := 116) (by decide) dX13_letters_311 ?_
    refine g_bipush h 115 (v := 115) (by decide) dX13_letters_313 ?_
    obtain ⟨v13, hq, hf⟩ := bd_some hf
    refine g_callSrl (As := [.int 104, .int 97, .int 114, .int 118, .int 101, .int 115, .int 116, .int 115]) (rest := []) h ceX13_spelled mlX13_189 smX13_spelled rfl rfl ⟨by decide, by decide⟩ ⟨by decide, by decide⟩ rfl dX13_letters_315 rfl (Nat.le_of_ble_eq_true rfl) (cmX13_spelled hq) ?_
    cases hf
    exact g_lret h rfl ⟨rfl, rfl⟩ (Nat.le_refl _) (Nat.le_refl _) dX13_letters_318
  rw [if_neg hx12] at hf
  have hy12 : x0.toInt ≠ 12 := fun q => hx12 (Int32.toInt_inj.mp (by rw [q]; rfl))
  by_cases hx13 : x0 = 13
  · rw [if_pos hx13] at hf
    refine g_tabIn h (off := 318) 319 (by rw [hx13]; decide) (by rw [hx13]; decide) (by rw [hx13]; decide) (by decide) dX13_letters_1 ?_
    refine g_bipush h 116 (v := 116) (by decide) dX13_letters_319 ?_
    refine g_bipush h 101 (v := 101) (by decide) dX13_letters_321 ?_
    refine g_bipush h 114 (v := 114) (by decide) dX13_letters_323 ?_
    refine g_bipush h 109 (v := 109) (by decide) dX13_letters_325 ?_
    refine g_iconst h 0 (v := 0) (by decide) dX13_letters_327 ?_
    refine g_iconst h 0 (v := 0) (by decide) dX13_letters_328 ?_
    refine g_iconst h 0 (v := 0) (by decide) dX13_letters_329 ?_
    refine g_iconst h 0 (v := 0) (by decide) dX13_letters_330 ?_
    obtain ⟨v14, hq, hf⟩ := bd_some hf
    refine g_callSrl (As := [.int 116, .int 101, .int 114, .int 109, .int 0, .int 0, .int 0, .int 0]) (rest := []) h ceX13_spelled mlX13_189 smX13_spelled rfl rfl ⟨by decide, by decide⟩ ⟨by decide, by decide⟩ rfl dX13_letters_331 rfl (Nat.le_of_ble_eq_true rfl) (cmX13_spelled hq) ?_
    cases hf
    exact g_lret h rfl ⟨rfl, rfl⟩ (Nat.le_refl _) (Nat.le_refl _) dX13_letters_334
  rw [if_neg hx13] at hf
  have hy13 : x0.toInt ≠ 13 := fun q => hx13 (Int32.toInt_inj.mp (by rw [q]; rfl))
  by_cases hx14 : x0 = 14
  · rw [if_pos hx14] at hf
    refine g_tabIn h (off := 334) 335 (by rw [hx14]; decide) (by rw [hx14]; decide) (by rw [hx14]; decide) (by decide) dX13_letters_1 ?_
    refine g_bipush h 102 (v := 102) (by decide) dX13_letters_335 ?_
    refine g_bipush h 114 (v := 114) (by decide) dX13_letters_337 ?_
    refine g_bipush h 105 (v := 105) (by decide) dX13_letters_339 ?_
    refine g_bipush h 101 (v := 101) (by decide) dX13_letters_341 ?_
    refine g_bipush h 110 (v := 110) (by decide) dX13_letters_343 ?_
    refine g_bipush h 100 (v := 100) (by decide) dX13_letters_345 ?_
    refine g_iconst h 0 (v := 0) (by decide) dX13_letters_347 ?_
    refine g_iconst h 0 (v := 0) (by decide) dX13_letters_348 ?_
    obtain ⟨v15, hq, hf⟩ := bd_some hf
    refine g_callSrl (As := [.int 102, .int 114, .int 105, .int 101, .int 110, .int 100, .int 0, .int 0]) (rest := []) h ceX13_spelled mlX13_189 smX13_spelled rfl rfl ⟨by decide, by decide⟩ ⟨by decide, by decide⟩ rfl dX13_letters_349 rfl (Nat.le_of_ble_eq_true rfl) (cmX13_spelled hq) ?_
    cases hf
    exact g_lret h rfl ⟨rfl, rfl⟩ (Nat.le_refl _) (Nat.le_refl _) dX13_letters_352
  rw [if_neg hx14] at hf
  have hy14 : x0.toInt ≠ 14 := fun q => hx14 (Int32.toInt_inj.mp (by rw [q]; rfl))
  by_cases hx15 : x0 = 15
  · rw [if_pos hx15] at hf
    refine g_tabIn h (off := 352) 353 (by rw [hx15]; decide) (by rw [hx15]; decide) (by rw [hx15]; decide) (by decide) dX13_letters_1 ?_
    refine g_bipush h 99 (v := 99) (by decide) dX13_letters_353 ?_
    refine g_bipush h 104 (v := 104) (by decide) dX13_letters_355 ?_
    refine g_bipush h 97 (v := 97) (by decide) dX13_letters_357 ?_
    refine g_bipush h 109 (v := 109) (by decide) dX13_letters_359 ?_
    refine g_bipush h 112 (v := 112) (by decide) dX13_letters_361 ?_
    refine g_bipush h 105 (v := 105) (by decide) dX13_letters_363 ?_
    refine g_bipush h 111 (v := 111) (by decide) dX13_letters_365 ?_
    refine g_bipush h 110 (v := 110) (by decide) dX13_letters_367 ?_
    obtain ⟨v16, hq, hf⟩ := bd_some hf
    refine g_callSrl (As := [.int 99, .int 104, .int 97, .int 109, .int 112, .int 105, .int 111, .int 110]) (rest := []) h ceX13_spelled mlX13_189 smX13_spelled rfl rfl ⟨by decide, by decide⟩ ⟨by decide, by decide⟩ rfl dX13_letters_369 rfl (Nat.le_of_ble_eq_true rfl) (cmX13_spelled hq) ?_
    cases hf
    exact g_lret h rfl ⟨rfl, rfl⟩ (Nat.le_refl _) (Nat.le_refl _) dX13_letters_372
  rw [if_neg hx15] at hf
  have hy15 : x0.toInt ≠ 15 := fun q => hx15 (Int32.toInt_inj.mp (by rw [q]; rfl))
  by_cases hx16 : x0 = 16
  · rw [if_pos hx16] at hf
    refine g_tabIn h (off := 372) 373 (by rw [hx16]; decide) (by rw [hx16]; decide) (by rw [hx16]; decide) (by decide) dX13_letters_1 ?_
    refine g_bipush h 103 (v := 103) (by decide) dX13_letters_373 ?_
    refine g_bipush h 97 (v := 97) (by decide) dX13_letters_375 ?_
    refine g_bipush h 116 (v := 116) (by decide) dX13_letters_377 ?_
    refine g_bipush h 101 (v := 101) (by decide) dX13_letters_379 ?_
    refine g_iconst h 0 (v := 0) (by decide) dX13_letters_381 ?_
    refine g_iconst h 0 (v := 0) (by decide) dX13_letters_382 ?_
    refine g_iconst h 0 (v := 0) (by decide) dX13_letters_383 ?_
    refine g_iconst h 0 (v := 0) (by decide) dX13_letters_384 ?_
    obtain ⟨v17, hq, hf⟩ := bd_some hf
    refine g_callSrl (As := [.int 103, .int 97, .int 116, .int 101, .int 0, .int 0, .int 0, .int 0]) (rest := []) h ceX13_spelled mlX13_189 smX13_spelled rfl rfl ⟨by decide, by decide⟩ ⟨by decide, by decide⟩ rfl dX13_letters_385 rfl (Nat.le_of_ble_eq_true rfl) (cmX13_spelled hq) ?_
    cases hf
    exact g_lret h rfl ⟨rfl, rfl⟩ (Nat.le_refl _) (Nat.le_refl _) dX13_letters_388
  rw [if_neg hx16] at hf
  have hy16 : x0.toInt ≠ 16 := fun q => hx16 (Int32.toInt_inj.mp (by rw [q]; rfl))
  by_cases hx17 : x0 = 17
  · rw [if_pos hx17] at hf
    refine g_tabIn h (off := 388) 389 (by rw [hx17]; decide) (by rw [hx17]; decide) (by rw [hx17]; decide) (by decide) dX13_letters_1 ?_
    refine g_bipush h 115 (v := 115) (by decide) dX13_letters_389 ?_
    refine g_bipush h 116 (v := 116) (by decide) dX13_letters_391 ?_
    refine g_bipush h 97 (v := 97) (by decide) dX13_letters_393 ?_
    refine g_bipush h 121 (v := 121) (by decide) dX13_letters_395 ?_
    refine g_bipush h 115 (v := 115) (by decide) dX13_letters_397 ?_
    refine g_iconst h 0 (v := 0) (by decide) dX13_letters_399 ?_
    refine g_iconst h 0 (v := 0) (by decide) dX13_letters_400 ?_
    refine g_iconst h 0 (v := 0) (by decide) dX13_letters_401 ?_
    obtain ⟨v18, hq, hf⟩ := bd_some hf
    refine g_callSrl (As := [.int 115, .int 116, .int 97, .int 121, .int 115, .int 0, .int 0, .int 0]) (rest := []) h ceX13_spelled mlX13_189 smX13_spelled rfl rfl ⟨by decide, by decide⟩ ⟨by decide, by decide⟩ rfl dX13_letters_402 rfl (Nat.le_of_ble_eq_true rfl) (cmX13_spelled hq) ?_
    cases hf
    exact g_lret h rfl ⟨rfl, rfl⟩ (Nat.le_refl _) (Nat.le_refl _) dX13_letters_405
  rw [if_neg hx17] at hf
  have hy17 : x0.toInt ≠ 17 := fun q => hx17 (Int32.toInt_inj.mp (by rw [q]; rfl))
  by_cases hx18 : x0 = 18
  · rw [if_pos hx18] at hf
    refine g_tabIn h (off := 405) 406 (by rw [hx18]; decide) (by rw [hx18]; decide) (by rw [hx18]; decide) (by decide) dX13_letters_1 ?_
    refine g_bipush h 108 (v := 108) (by decide) dX13_letters_406 ?_
    refine g_bipush h 105 (v := 105) (by decide) dX13_letters_408 ?_
    refine g_bipush h 107 (v := 107) (by decide) dX13_letters_410 ?_
    refine g_bipush h 101 (v := 101) (by decide) dX13_letters_412 ?_
    refine g_bipush h 115 (v := 115) (by decide) dX13_letters_414 ?_
    refine g_iconst h 0 (v := 0) (by decide) dX13_letters_416 ?_
    refine g_iconst h 0 (v := 0) (by decide) dX13_letters_417 ?_
    refine g_iconst h 0 (v := 0) (by decide) dX13_letters_418 ?_
    obtain ⟨v19, hq, hf⟩ := bd_some hf
    refine g_callSrl (As := [.int 108, .int 105, .int 107, .int 101, .int 115, .int 0, .int 0, .int 0]) (rest := []) h ceX13_spelled mlX13_189 smX13_spelled rfl rfl ⟨by decide, by decide⟩ ⟨by decide, by decide⟩ rfl dX13_letters_419 rfl (Nat.le_of_ble_eq_true rfl) (cmX13_spelled hq) ?_
    cases hf
    exact g_lret h rfl ⟨rfl, rfl⟩ (Nat.le_refl _) (Nat.le_refl _) dX13_letters_422
  rw [if_neg hx18] at hf
  have hy18 : x0.toInt ≠ 18 := fun q => hx18 (Int32.toInt_inj.mp (by rw [q]; rfl))
  by_cases hx19 : x0 = 19
  · rw [if_pos hx19] at hf
    refine g_tabIn h (off := 422) 423 (by rw [hx19]; decide) (by rw [hx19]; decide) (by rw [hx19]; decide) (by decide) dX13_letters_1 ?_
    refine g_bipush h 97 (v := 97) (by decide) dX13_letters_423 ?_
    refine g_bipush h 110 (v := 110) (by decide) dX13_letters_425 ?_
    refine g_bipush h 100 (v := 100) (by decide) dX13_letters_427 ?_
    refine g_iconst h 0 (v := 0) (by decide) dX13_letters_429 ?_
    refine g_iconst h 0 (v := 0) (by decide) dX13_letters_430 ?_
    refine g_iconst h 0 (v := 0) (by decide) dX13_letters_431 ?_
    refine g_iconst h 0 (v := 0) (by decide) dX13_letters_432 ?_
    refine g_iconst h 0 (v := 0) (by decide) dX13_letters_433 ?_
    obtain ⟨v20, hq, hf⟩ := bd_some hf
    refine g_callSrl (As := [.int 97, .int 110, .int 100, .int 0, .int 0, .int 0, .int 0, .int 0]) (rest := []) h ceX13_spelled mlX13_189 smX13_spelled rfl rfl ⟨by decide, by decide⟩ ⟨by decide, by decide⟩ rfl dX13_letters_434 rfl (Nat.le_of_ble_eq_true rfl) (cmX13_spelled hq) ?_
    cases hf
    exact g_lret h rfl ⟨rfl, rfl⟩ (Nat.le_refl _) (Nat.le_refl _) dX13_letters_437
  rw [if_neg hx19] at hf
  have hy19 : x0.toInt ≠ 19 := fun q => hx19 (Int32.toInt_inj.mp (by rw [q]; rfl))
  by_cases hx20 : x0 = 20
  · rw [if_pos hx20] at hf
    refine g_tabIn h (off := 437) 438 (by rw [hx20]; decide) (by rw [hx20]; decide) (by rw [hx20]; decide) (by decide) dX13_letters_1 ?_
    refine g_bipush h 111 (v := 111) (by decide) dX13_letters_438 ?_
    refine g_bipush h 114 (v := 114) (by decide) dX13_letters_440 ?_
    refine g_iconst h 0 (v := 0) (by decide) dX13_letters_442 ?_
    refine g_iconst h 0 (v := 0) (by decide) dX13_letters_443 ?_
    refine g_iconst h 0 (v := 0) (by decide) dX13_letters_444 ?_
    refine g_iconst h 0 (v := 0) (by decide) dX13_letters_445 ?_
    refine g_iconst h 0 (v := 0) (by decide) dX13_letters_446 ?_
    refine g_iconst h 0 (v := 0) (by decide) dX13_letters_447 ?_
    obtain ⟨v21, hq, hf⟩ := bd_some hf
    refine g_callSrl (As := [.int 111, .int 114, .int 0, .int 0, .int 0, .int 0, .int 0, .int 0]) (rest := []) h ceX13_spelled mlX13_189 smX13_spelled rfl rfl ⟨by decide, by decide⟩ ⟨by decide, by decide⟩ rfl dX13_letters_448 rfl (Nat.le_of_ble_eq_true rfl) (cmX13_spelled hq) ?_
    cases hf
    exact g_lret h rfl ⟨rfl, rfl⟩ (Nat.le_refl _) (Nat.le_refl _) dX13_letters_451
  rw [if_neg hx20] at hf
  have hy20 : x0.toInt ≠ 20 := fun q => hx20 (Int32.toInt_inj.mp (by rw [q]; rfl))
  refine g_tabOut h 452 (by omega) (by decide) dX13_letters_1 ?_
  refine g_bipush h 110 (v := 110) (by decide) dX13_letters_452 ?_
  refine g_bipush h 111 (v := 111) (by decide) dX13_letters_454 ?_
  refine g_bipush h 116 (v := 116) (by decide) dX13_letters_456 ?_
  refine g_iconst h 0 (v := 0) (by decide) dX13_letters_458 ?_
  refine g_iconst h 0 (v := 0) (by decide) dX13_letters_459 ?_
  refine g_iconst h 0 (v := 0) (by decide) dX13_letters_460 ?_
  refine g_iconst h 0 (v := 0) (by decide) dX13_letters_461 ?_
  refine g_iconst h 0 (v := 0) (by decide) dX13_letters_462 ?_
  obtain ⟨v22, hq, hf⟩ := bd_some hf
  refine g_callSrl (As := [.int 110, .int 111, .int 116, .int 0, .int 0, .int 0, .int 0, .int 0]) (rest := []) h ceX13_spelled mlX13_189 smX13_spelled rfl rfl ⟨by decide, by decide⟩ ⟨by decide, by decide⟩ rfl dX13_letters_463 rfl (Nat.le_of_ble_eq_true rfl) (cmX13_spelled hq) ?_
  cases hf
  exact g_lret h rfl ⟨rfl, rfl⟩ (Nat.le_refl _) (Nat.le_refl _) dX13_letters_466

theorem cmX13_letters {l : Launch} {w : WX} {M : Mem} {x0 : Int32} {res : Int64} (hf : fX13_letters x0 = some res) : CM l w yX13_letters cX13_letters 1 (some .long) { frames := 1, cells := 0, slots := 0, locals := 29 } 0 0 [.int x0] M (Prl res M) := by
  refine CM_of (by decide) (by decide) (fun G hw hl h => ?_)
  subst hw
  exact kX13_letters_e0 h hf

-- X13_knownWord
theorem kX13_knownWord_l21 {G : GX} (h : OKm G cX13_knownWord RX13 2 (some .int) { frames := 2, cells := 0, slots := 0, locals := 49 }) : ∀ (n : Nat) (M : Mem) (x1 : Int32) (res : Int32), fX13_knownWord_l21 n M x1 = some res → GG G (Qm G (Pri res M) 0 0) 0 0 21 [(0, rv G.1 103), (1, .int x1)] [] M := by
  intro n
  induction n with
  | zero => intro M x1 res hf; rw [fX13_knownWord_l21] at hf; cases hf
  | succ n ih =>
    intro M x1 res hf
    rw [fX13_knownWord_l21] at hf
    refine g_iload_n h 1 rfl dX13_knownWord_21 ?_
    refine g_bipush h 22 (v := 22) (by decide) dX13_knownWord_22 ?_
    refine g_ic_ge h 47 (by decide) hf dX13_knownWord_24 (fun hf => ?_) (fun hf => ?_)
    · refine g_iconst h (-1) (v := (-1)) (by decide) dX13_knownWord_47 ?_
      cases hf
      exact g_iret h rfl ⟨rfl, rfl⟩ (Nat.le_refl _) (Nat.le_refl _) dX13_knownWord_48
    · refine g_iload_n h 1 rfl dX13_knownWord_27 ?_
      obtain ⟨v3, hq, hf⟩ := bd_some hf
      refine g_callSrl (As := [.int x1]) (rest := []) h ceX13_letters mlX13_193 smX13_letters rfl rfl ⟨by decide, by decide⟩ ⟨by decide, by decide⟩ rfl dX13_knownWord_28 rfl (Nat.le_of_ble_eq_true rfl) (cmX13_letters hq) ?_
      refine g_aload_n h 0 rfl dX13_knownWord_31 ?_
      refine gfX13_164 h (by decide : kd 103 = 11) dX13_knownWord_32 ?_
      refine g_nmL hf (fun v4 hf => ?_)
      refine g_lcmp h dX13_knownWord_35 ?_
      refine g_if_ne h 41 (by decide) hf dX13_knownWord_36 (fun hf => ?_) (fun hf => ?_)
      · refine g_iinc h 1 1 rfl (v := x1 + 1) rfl [(1, .int (x1 + 1)), (0, rv G.1 103)] (by decide) rfl dX13_knownWord_41 ?_
        refine g_nmV hf (fun v5 hf => ?_)
        refine g_goto h 21 (by decide) dX13_knownWord_44 ?_
        refine g_sub [1, 0] rfl ?_
        exact ih _ _ _ hf
      · refine g_iload_n h 1 rfl dX13_knownWord_39 ?_
        cases hf
        exact g_iret h rfl ⟨rfl, rfl⟩ (Nat.le_refl _) (Nat.le_refl _) dX13_knownWord_40

theorem kX13_knownWord_e0 {G : GX} (h : OKm G cX13_knownWord RX13 2 (some .int) { frames := 2, cells := 0, slots := 0, locals := 49 }) {M : Mem} {res : Int32} (hf : fX13_knownWord M = some res) : GG G (Qm G (Pri res M) 0 0) 0 0 0 [(0, rv G.1 103)] [] M := by
  unfold fX13_knownWord at hf
  refine g_aload_n h 0 rfl dX13_knownWord_0 ?_
  refine gfX13_174 h (by decide : kd 103 = 11) dX13_knownWord_1 ?_
  refine g_nmI hf (fun v1 hf => ?_)
  refine g_iconst h 1 (v := 1) (by decide) dX13_knownWord_4 ?_
  refine g_ic_ne h 17 (by decide) hf dX13_knownWord_5 (fun hf => ?_) (fun hf => ?_)
  · refine g_iconst h (-1) (v := (-1)) (by decide) dX13_knownWord_17 ?_
    cases hf
    exact g_iret h rfl ⟨rfl, rfl⟩ (Nat.le_refl _) (Nat.le_refl _) dX13_knownWord_18
  · refine g_aload_n h 0 rfl dX13_knownWord_8 ?_
    refine gfX13_184 h (by decide : kd 103 = 11) dX13_knownWord_9 ?_
    refine g_nmI hf (fun v2 hf => ?_)
    refine g_bipush h 8 (v := 8) (by decide) dX13_knownWord_12 ?_
    refine g_ic_le h 19 (by decide) hf dX13_knownWord_14 (fun hf => ?_) (fun hf => ?_)
    · refine g_iconst h 0 (v := 0) (by decide) dX13_knownWord_19 ?_
      refine g_istore_n h rfl [(1, .int 0), (0, rv G.1 103)] (by decide) rfl dX13_knownWord_20 ?_
      refine g_sub [1, 0] rfl ?_
      exact kX13_knownWord_l21 h _ _ _ _ hf
    · refine g_iconst h (-1) (v := (-1)) (by decide) dX13_knownWord_17 ?_
      cases hf
      exact g_iret h rfl ⟨rfl, rfl⟩ (Nat.le_refl _) (Nat.le_refl _) dX13_knownWord_18

theorem cmX13_knownWord {l : Launch} {w : WX} {M : Mem} {res : Int32} (hf : fX13_knownWord M = some res) : CM l w yX13_knownWord cX13_knownWord 2 (some .int) { frames := 2, cells := 0, slots := 0, locals := 49 } 0 0 [rv w 103] M (Pri res M) := by
  refine CM_of (by decide) (by decide) (fun G hw hl h => ?_)
  subst hw
  exact kX13_knownWord_e0 h hf

-- X13_waitsFor
theorem kX13_waitsFor_e0 {G : GX} (h : OKm G cX13_waitsFor RX13 2 none { frames := 0, cells := 0, slots := 0, locals := 0 }) {M : Mem} {x1 : Int32} {res : Mem} (hf : fX13_waitsFor M x1 = some res) : GG G (Qm G (Pwv res) 0 0) 0 0 0 [(0, rv G.1 103), (1, .int x1)] [] M := by
  unfold fX13_waitsFor at hf
  refine g_aload_n h 0 rfl dX13_waitsFor_0 ?_
  refine gfX13_101 h (by decide : kd 103 = 11) dX13_waitsFor_1 ?_
  refine g_aload_n h 0 rfl dX13_waitsFor_4 ?_
  refine gfX13_220 h (by decide : kd 103 = 11) dX13_waitsFor_5 ?_
  refine g_nmI hf (fun v1 hf => ?_)
  refine g_iload_n h 1 rfl dX13_waitsFor_8 ?_
  refine g_iast h 950 (by decide : kd 131 = 20) (by decide) hf dX13_waitsFor_9 (fun M2 hf => ?_)
  refine g_aload_n h 0 rfl dX13_waitsFor_10 ?_
  refine g_dup h rfl dX13_waitsFor_11 ?_
  refine gfX13_220 h (by decide : kd 103 = 11) dX13_waitsFor_12 ?_
  refine g_nmI hf (fun v3 hf => ?_)
  refine g_iconst h 1 (v := 1) (by decide) dX13_waitsFor_15 ?_
  refine g_iadd h dX13_waitsFor_16 ?_
  refine pfX13_220 h (by decide : kd 103 = 11) dX13_waitsFor_17 ?_
  refine g_nmM hf (fun M4 hf => ?_)
  cases hf
  exact g_vret h rfl ⟨rfl, rfl⟩ (Nat.le_refl _) (Nat.le_refl _) dX13_waitsFor_20

theorem cmX13_waitsFor {l : Launch} {w : WX} {M : Mem} {x1 : Int32} {res : Mem} (hf : fX13_waitsFor M x1 = some res) : CM l w yX13_waitsFor cX13_waitsFor 2 none { frames := 0, cells := 0, slots := 0, locals := 0 } 0 0 [rv w 103, .int x1] M (Pwv res) := by
  refine CM_of (by decide) (by decide) (fun G hw hl h => ?_)
  subst hw
  exact kX13_waitsFor_e0 h hf

-- X13_isOpened
theorem kX13_isOpened_b29 {G : GX} (h : OKm G cX13_isOpened RX13 2 (some .boolean) { frames := 1, cells := 0, slots := 0, locals := 20 }) {M : Mem} {x1 : Int32} {res : Int32} (hf : fX13_isOpened_b29 M x1 = some res) : GG G (Qm G (Pri res M) 0 0) 0 0 29 [(1, .int x1)] [] M := by
  unfold fX13_isOpened_b29 at hf
  refine g_iload_n h 0 rfl dX13_isOpened_29 ?_
  refine g_if_lt h 37 (by decide) hf dX13_isOpened_30 (fun hf => ?_) (fun hf => ?_)
  · refine g_iconst h 0 (v := 0) (by decide) dX13_isOpened_37 ?_
    cases hf
    exact g_zret h (by decide) rfl ⟨rfl, rfl⟩ (Nat.le_refl _) (Nat.le_refl _) dX13_isOpened_38
  · refine g_iconst h 1 (v := 1) (by decide) dX13_isOpened_33 ?_
    refine g_goto h 38 (by decide) dX13_isOpened_34 ?_
    cases hf
    exact g_zret h (by decide) rfl ⟨rfl, rfl⟩ (Nat.le_refl _) (Nat.le_refl _) dX13_isOpened_38

theorem kX13_isOpened_l7 {G : GX} (h : OKm G cX13_isOpened RX13 2 (some .boolean) { frames := 1, cells := 0, slots := 0, locals := 20 }) : ∀ (n : Nat) (M : Mem) (x1 : Int32) (res : Int32), fX13_isOpened_l7 n M x1 = some res → GG G (Qm G (Pri res M) 0 0) 0 0 7 [(0, rv G.1 103), (1, .int x1)] [] M := by
  intro n
  induction n with
  | zero => intro M x1 res hf; rw [fX13_isOpened_l7] at hf; cases hf
  | succ n ih =>
    intro M x1 res hf
    rw [fX13_isOpened_l7] at hf
    refine g_iload_n h 1 rfl dX13_isOpened_7 ?_
    refine g_if_lt h 29 (by decide) hf dX13_isOpened_8 (fun hf => ?_) (fun hf => ?_)
    · refine g_sub [1] rfl ?_
      exact kX13_isOpened_b29 h hf
    · refine g_aload_n h 0 rfl dX13_isOpened_11 ?_
      refine gfX13_101 h (by decide : kd 103 = 11) dX13_isOpened_12 ?_
      refine g_iload_n h 1 rfl dX13_isOpened_15 ?_
      refine g_iald h 950 (by decide : kd 131 = 20) (by decide) hf dX13_isOpened_16 (fun v3 hf => ?_)
      obtain ⟨v4, hq, hf⟩ := bd_some hf
      refine g_callSri (As := [.int v3]) (rest := []) h ceX13_isOpen mlX13_223 smX13_isOpen rfl rfl ⟨by decide, by decide⟩ ⟨by decide, by decide⟩ rfl dX13_isOpened_17 rfl (Nat.le_of_ble_eq_true rfl) (cmX13_isOpen hq) ?_
      refine g_if_ne h 29 (by decide) hf dX13_isOpened_20 (fun hf => ?_) (fun hf => ?_)
      · refine g_sub [1] rfl ?_
        exact kX13_isOpened_b29 h hf
      · refine g_iinc h 1 1 rfl (v := x1 + (-1)) rfl [(1, .int (x1 + (-1))), (0, rv G.1 103)] (by decide) rfl dX13_isOpened_23 ?_
        refine g_nmV hf (fun v5 hf => ?_)
        refine g_goto h 7 (by decide) dX13_isOpened_26 ?_
        refine g_sub [1, 0] rfl ?_
        exact ih _ _ _ hf

theorem kX13_isOpened_e0 {G : GX} (h : OKm G cX13_isOpened RX13 2 (some .boolean) { frames := 1, cells := 0, slots := 0, locals := 20 }) {M : Mem} {res : Int32} (hf : fX13_isOpened M = some res) : GG G (Qm G (Pri res M) 0 0) 0 0 0 [(0, rv G.1 103)] [] M := by
  unfold fX13_isOpened at hf
  refine g_aload_n h 0 rfl dX13_isOpened_0 ?_
  refine gfX13_220 h (by decide : kd 103 = 11) dX13_isOpened_1 ?_
  refine g_nmI hf (fun v1 hf => ?_)
  refine g_iconst h 1 (v := 1) (by decide) dX13_isOpened_4 ?_
  refine g_isub h dX13_isOpened_5 ?_
  refine g_nmI hf (fun v2 hf => ?_)
  refine g_istore_n h rfl [(1, .int v2), (0, rv G.1 103)] (by decide) rfl dX13_isOpened_6 ?_
  refine g_sub [1, 0] rfl ?_
  exact kX13_isOpened_l7 h _ _ _ _ hf

theorem cmX13_isOpened {l : Launch} {w : WX} {M : Mem} {res : Int32} (hf : fX13_isOpened M = some res) : CM l w yX13_isOpened cX13_isOpened 2 (some .boolean) { frames := 1, cells := 0, slots := 0, locals := 20 } 0 0 [rv w 103] M (Pri res M) := by
  refine CM_of (by decide) (by decide) (fun G hw hl h => ?_)
  subst hw
  exact kX13_isOpened_e0 h hf

-- X13_goesByTerm
theorem kX13_goesByTerm_e0 {G : GX} (h : OKm G cX13_goesByTerm RX13 2 none { frames := 9, cells := 0, slots := 0, locals := 211 }) {M : Mem} {x1 : Int32} {res : Mem} (hf : fX13_goesByTerm M x1 = some res) : GG G (Qm G (Pwv res) 0 0) 0 0 0 [(0, rv G.1 103), (1, .int x1)] [] M := by
  unfold fX13_goesByTerm at hf
  refine g_aload_n h 0 rfl dX13_goesByTerm_0 ?_
  refine g_iconst h 0 (v := 0) (by decide) dX13_goesByTerm_1 ?_
  refine g_bipush h 31 (v := 31) (by decide) dX13_goesByTerm_2 ?_
  obtain ⟨M1, hq, hf⟩ := bd_some hf
  refine g_callVwv (As := [.int 0, .int 31]) (rest := []) h ceX13_lays0 mlX13_432 imX13_lays0 seX13_lays0 (by rfl) (kd_lt (by rw [(by decide : kd 103 = 11)]; decide)) (ent_11 (by decide : kd 103 = 11)) rfl rfl ⟨by decide, by decide⟩ ⟨by decide, by decide⟩ rfl dX13_goesByTerm_4 rfl (Nat.le_of_ble_eq_true rfl) (cmX13_lays0 hq) ?_
  refine g_aload_n h 0 rfl dX13_goesByTerm_7 ?_
  refine gfX13_108 h (by decide : kd 103 = 11) dX13_goesByTerm_8 ?_
  refine g_bipush h 43 (v := 43) (by decide) dX13_goesByTerm_11 ?_
  refine g_iload_n h 1 rfl dX13_goesByTerm_13 ?_
  refine g_iast h 186 (by decide : kd 133 = 20) (by decide) hf dX13_goesByTerm_14 (fun M2 hf => ?_)
  refine g_aload_n h 0 rfl dX13_goesByTerm_15 ?_
  refine g_bipush h 31 (v := 31) (by decide) dX13_goesByTerm_16 ?_
  refine g_bipush h 30 (v := 30) (by decide) dX13_goesByTerm_18 ?_
  obtain ⟨M3, hq, hf⟩ := bd_some hf
  refine g_callVwv (As := [.int 31, .int 30]) (rest := []) h ceX13_goesYears mlX13_429 imX13_goesYears seX13_goesYears (by rfl) (kd_lt (by rw [(by decide : kd 103 = 11)]; decide)) (ent_11 (by decide : kd 103 = 11)) rfl rfl ⟨by decide, by decide⟩ ⟨by decide, by decide⟩ rfl dX13_goesByTerm_20 rfl (Nat.le_of_ble_eq_true rfl) (cmX13_goesYears hq) ?_
  cases hf
  exact g_vret h rfl ⟨rfl, rfl⟩ (Nat.le_refl _) (Nat.le_refl _) dX13_goesByTerm_23

theorem cmX13_goesByTerm {l : Launch} {w : WX} {M : Mem} {x1 : Int32} {res : Mem} (hf : fX13_goesByTerm M x1 = some res) : CM l w yX13_goesByTerm cX13_goesByTerm 2 none { frames := 9, cells := 0, slots := 0, locals := 211 } 0 0 [rv w 103, .int x1] M (Pwv res) := by
  refine CM_of (by decide) (by decide) (fun G hw hl h => ?_)
  subst hw
  exact kX13_goesByTerm_e0 h hf

-- X13_fair
theorem kX13_fair_l7 {G : GX} (h : OKm G cX13_fair RX13 2 (some .int) { frames := 10, cells := 0, slots := 0, locals := 232 }) : ∀ (n : Nat) (M : Mem) (x1 : Int32) (res : (Int32 × Mem)), fX13_fair_l7 n M x1 = some res → GG G (Qm G (Pwi res) 0 0) 0 0 7 [(0, rv G.1 103), (1, .int x1)] [] M := by
  intro n
  induction n with
  | zero => intro M x1 res hf; rw [fX13_fair_l7] at hf; cases hf
  | succ n ih =>
    intro M x1 res hf
    rw [fX13_fair_l7] at hf
    refine g_iload_n h 1 rfl dX13_fair_7 ?_
    refine g_iconst h 5 (v := 5) (by decide) dX13_fair_8 ?_
    refine g_ic_gt h 42 (by decide) hf dX13_fair_9 (fun hf => ?_) (fun hf => ?_)
    · refine g_iconst h (-1) (v := (-1)) (by decide) dX13_fair_42 ?_
      cases hf
      exact g_iret h rfl ⟨rfl, rfl⟩ (Nat.le_refl _) (Nat.le_refl _) dX13_fair_43
    · refine g_aload_n h 0 rfl dX13_fair_12 ?_
      refine g_iload_n h 1 rfl dX13_fair_13 ?_
      obtain ⟨M2, hq, hf⟩ := bd_some hf
      refine g_callVwv (As := [.int x1]) (rest := []) h ceX13_goesByTerm mlX13_435 imX13_goesByTerm seX13_goesByTerm (by rfl) (kd_lt (by rw [(by decide : kd 103 = 11)]; decide)) (ent_11 (by decide : kd 103 = 11)) rfl rfl ⟨by decide, by decide⟩ ⟨by decide, by decide⟩ rfl dX13_fair_14 rfl (Nat.le_of_ble_eq_true rfl) (cmX13_goesByTerm hq) ?_
      refine g_aload_n h 0 rfl dX13_fair_17 ?_
      refine gfX13_108 h (by decide : kd 103 = 11) dX13_fair_18 ?_
      refine g_bipush h 40 (v := 40) (by decide) dX13_fair_21 ?_
      refine g_iald h 186 (by decide : kd 133 = 20) (by decide) hf dX13_fair_23 (fun v3 hf => ?_)
      refine g_aload_n h 0 rfl dX13_fair_24 ?_
      refine gfX13_108 h (by decide : kd 103 = 11) dX13_fair_25 ?_
      refine g_bipush h 9 (v := 9) (by decide) dX13_fair_28 ?_
      refine g_iald h 186 (by decide : kd 133 = 20) (by decide) hf dX13_fair_30 (fun v4 hf => ?_)
      refine g_ic_ne h 36 (by decide) hf dX13_fair_31 (fun hf => ?_) (fun hf => ?_)
      · refine g_iinc h 1 1 rfl (v := x1 + 1) rfl [(1, .int (x1 + 1)), (0, rv G.1 103)] (by decide) rfl dX13_fair_36 ?_
        refine g_nmV hf (fun v5 hf => ?_)
        refine g_goto h 7 (by decide) dX13_fair_39 ?_
        refine g_sub [1, 0] rfl ?_
        exact ih _ _ _ hf
      · refine g_iload_n h 1 rfl dX13_fair_34 ?_
        cases hf
        exact g_iret h rfl ⟨rfl, rfl⟩ (Nat.le_refl _) (Nat.le_refl _) dX13_fair_35

theorem kX13_fair_e0 {G : GX} (h : OKm G cX13_fair RX13 2 (some .int) { frames := 10, cells := 0, slots := 0, locals := 232 }) {M : Mem} {res : (Int32 × Mem)} (hf : fX13_fair M = some res) : GG G (Qm G (Pwi res) 0 0) 0 0 0 [(0, rv G.1 103)] [] M := by
  unfold fX13_fair at hf
  refine g_aload_n h 0 rfl dX13_fair_0 ?_
  refine g_iconst h 0 (v := 0) (by decide) dX13_fair_1 ?_
  refine pfX13_141 h (by decide : kd 103 = 11) dX13_fair_2 ?_
  refine g_nmM hf (fun M1 hf => ?_)
  refine g_iconst h 1 (v := 1) (by decide) dX13_fair_5 ?_
  refine g_istore_n h rfl [(1, .int 1), (0, rv G.1 103)] (by decide) rfl dX13_fair_6 ?_
  refine g_sub [1, 0] rfl ?_
  exact kX13_fair_l7 h _ _ _ _ hf

theorem cmX13_fair {l : Launch} {w : WX} {M : Mem} {res : (Int32 × Mem)} (hf : fX13_fair M = some res) : CM l w yX13_fair cX13_fair 2 (some .int) { frames := 10, cells := 0, slots := 0, locals := 232 } 0 0 [rv w 103] M (Pwi res) := by
  refine CM_of (by decide) (by decide) (fun G hw hl h => ?_)
  subst hw
  exact kX13_fair_e0 h hf

-- X13_fault
theorem kX13_fault_e0 {G : GX} (h : OKm G cX13_fault RX13 1 (some .int) { frames := 0, cells := 0, slots := 0, locals := 0 }) {M : Mem} {res : (Int32 × Mem)} (hf : fX13_fault M = some res) : GG G (Qm G (Pwi res) 0 0) 0 0 0 [(0, rv G.1 103)] [] M := by
  unfold fX13_fault at hf
  refine g_aload_n h 0 rfl dX13_fault_0 ?_
  refine g_iconst h 0 (v := 0) (by decide) dX13_fault_1 ?_
  refine pfX13_141 h (by decide : kd 103 = 11) dX13_fault_2 ?_
  refine g_nmM hf (fun M1 hf => ?_)
  refine g_aload_n h 0 rfl dX13_fault_5 ?_
  refine gfX13_56 h (by decide : kd 103 = 11) dX13_fault_6 ?_
  refine g_nmI hf (fun v2 hf => ?_)
  cases hf
  exact g_iret h rfl ⟨rfl, rfl⟩ (Nat.le_refl _) (Nat.le_refl _) dX13_fault_9

theorem cmX13_fault {l : Launch} {w : WX} {M : Mem} {res : (Int32 × Mem)} (hf : fX13_fault M = some res) : CM l w yX13_fault cX13_fault 1 (some .int) { frames := 0, cells := 0, slots := 0, locals := 0 } 0 0 [rv w 103] M (Pwi res) := by
  refine CM_of (by decide) (by decide) (fun G hw hl h => ?_)
  subst hw
  exact kX13_fault_e0 h hf

-- X13_lays
theorem kX13_lays_l3 {G : GX} (h : OKm G cX13_lays RX13 3 none { frames := 0, cells := 0, slots := 0, locals := 0 }) : ∀ (n : Nat) (M : Mem) (x1 : Int32) (x2 : Int32) (res : Mem), fX13_lays_l3 n M x1 x2 = some res → GG G (Qm G (Pwv res) 0 0) 0 0 3 [(0, rv G.1 103), (1, .int x1), (2, .int x2)] [] M := by
  intro n
  induction n with
  | zero => intro M x1 x2 res hf; rw [fX13_lays_l3] at hf; cases hf
  | succ n ih =>
    intro M x1 x2 res hf
    rw [fX13_lays_l3] at hf
    refine g_iload_n h 2 rfl dX13_lays_3 ?_
    refine g_if_lt h 39 (by decide) hf dX13_lays_4 (fun hf => ?_) (fun hf => ?_)
    · cases hf
      exact g_vret h rfl ⟨rfl, rfl⟩ (Nat.le_refl _) (Nat.le_refl _) dX13_lays_39
    · refine g_aload_n h 0 rfl dX13_lays_7 ?_
      refine gfX13_53 h (by decide : kd 103 = 11) dX13_lays_8 ?_
      refine g_aload_n h 0 rfl dX13_lays_11 ?_
      refine gfX13_144 h (by decide : kd 103 = 11) dX13_lays_12 ?_
      refine g_nmI hf (fun v1 hf => ?_)
      refine g_iload_n h 1 rfl dX13_lays_15 ?_
      refine g_iload_n h 2 rfl dX13_lays_16 ?_
      refine g_ishr h dX13_lays_17 ?_
      refine g_sipush h 255 (v := 255) (by decide) dX13_lays_18 ?_
      refine g_iand h dX13_lays_21 ?_
      refine g_iast h 700 (by decide : kd 116 = 20) (by decide) hf dX13_lays_22 (fun M2 hf => ?_)
      refine g_aload_n h 0 rfl dX13_lays_23 ?_
      refine g_dup h rfl dX13_lays_24 ?_
      refine gfX13_144 h (by decide : kd 103 = 11) dX13_lays_25 ?_
      refine g_nmI hf (fun v3 hf => ?_)
      refine g_iconst h 1 (v := 1) (by decide) dX13_lays_28 ?_
      refine g_iadd h dX13_lays_29 ?_
      refine pfX13_144 h (by decide : kd 103 = 11) dX13_lays_30 ?_
      refine g_nmM hf (fun M4 hf => ?_)
      refine g_iinc h 2 2 rfl (v := x2 + (-8)) rfl [(2, .int (x2 + (-8))), (0, rv G.1 103), (1, .int x1)] (by decide) rfl dX13_lays_33 ?_
      refine g_nmV hf (fun v5 hf => ?_)
      refine g_goto h 3 (by decide) dX13_lays_36 ?_
      refine g_sub [1, 2, 0] rfl ?_
      exact ih _ _ _ _ hf

theorem kX13_lays_e0 {G : GX} (h : OKm G cX13_lays RX13 3 none { frames := 0, cells := 0, slots := 0, locals := 0 }) {M : Mem} {x1 : Int32} {res : Mem} (hf : fX13_lays M x1 = some res) : GG G (Qm G (Pwv res) 0 0) 0 0 0 [(0, rv G.1 103), (1, .int x1)] [] M := by
  unfold fX13_lays at hf
  refine g_bipush h 24 (v := 24) (by decide) dX13_lays_0 ?_
  refine g_istore_n h rfl [(2, .int 24), (0, rv G.1 103), (1, .int x1)] (by decide) rfl dX13_lays_2 ?_
  refine g_sub [1, 2, 0] rfl ?_
  exact kX13_lays_l3 h _ _ _ _ _ hf

theorem cmX13_lays {l : Launch} {w : WX} {M : Mem} {x1 : Int32} {res : Mem} (hf : fX13_lays M x1 = some res) : CM l w yX13_lays cX13_lays 3 none { frames := 0, cells := 0, slots := 0, locals := 0 } 0 0 [rv w 103, .int x1] M (Pwv res) := by
  refine CM_of (by decide) (by decide) (fun G hw hl h => ?_)
  subst hw
  exact kX13_lays_e0 h hf

-- X13_feed
theorem kX13_feed_e0 {G : GX} (h : OKm G cX13_feed RX13 6 (some .int) { frames := 1, cells := 0, slots := 0, locals := 22 }) {M : Mem} {x1 : Int32} {x2 : Int32} {x3 : Int32} {x4 : Int32} {x5 : Int32} {res : (Int32 × Mem)} (hf : fX13_feed M x1 x2 x3 x4 x5 = some res) : GG G (Qm G (Pwi res) 0 0) 0 0 0 [(0, rv G.1 103), (1, .int x1), (2, .int x2), (3, .int x3), (4, .int x4), (5, .int x5)] [] M := by
  unfold fX13_feed at hf
  refine g_aload_n h 0 rfl dX13_feed_0 ?_
  refine g_iconst h 0 (v := 0) (by decide) dX13_feed_1 ?_
  refine pfX13_141 h (by decide : kd 103 = 11) dX13_feed_2 ?_
  refine g_nmM hf (fun M1 hf => ?_)
  refine g_aload_n h 0 rfl dX13_feed_5 ?_
  refine gfX13_144 h (by decide : kd 103 = 11) dX13_feed_6 ?_
  refine g_nmI hf (fun v2 hf => ?_)
  refine g_bipush h 20 (v := 20) (by decide) dX13_feed_9 ?_
  refine g_iadd h dX13_feed_11 ?_
  refine g_sipush h 700 (v := 700) (by decide) dX13_feed_12 ?_
  refine g_ic_le h 20 (by decide) hf dX13_feed_15 (fun hf => ?_) (fun hf => ?_)
  · refine g_aload_n h 0 rfl dX13_feed_20 ?_
    refine g_iload_n h 1 rfl dX13_feed_21 ?_
    obtain ⟨M3, hq, hf⟩ := bd_some hf
    refine g_callVwv (As := [.int x1]) (rest := []) h ceX13_lays mlX13_147 imX13_lays seX13_lays (by rfl) (kd_lt (by rw [(by decide : kd 103 = 11)]; decide)) (ent_11 (by decide : kd 103 = 11)) rfl rfl ⟨by decide, by decide⟩ ⟨by decide, by decide⟩ rfl dX13_feed_22 rfl (Nat.le_of_ble_eq_true rfl) (cmX13_lays hq) ?_
    refine g_aload_n h 0 rfl dX13_feed_25 ?_
    refine g_iload_n h 2 rfl dX13_feed_26 ?_
    obtain ⟨M4, hq, hf⟩ := bd_some hf
    refine g_callVwv (As := [.int x2]) (rest := []) h ceX13_lays mlX13_147 imX13_lays seX13_lays (by rfl) (kd_lt (by rw [(by decide : kd 103 = 11)]; decide)) (ent_11 (by decide : kd 103 = 11)) rfl rfl ⟨by decide, by decide⟩ ⟨by decide, by decide⟩ rfl dX13_feed_27 rfl (Nat.le_of_ble_eq_true rfl) (cmX13_lays hq) ?_
    refine g_aload_n h 0 rfl dX13_feed_30 ?_
    refine g_iload_n h 3 rfl dX13_feed_31 ?_
    obtain ⟨M5, hq, hf⟩ := bd_some hf
    refine g_callVwv (As := [.int x3]) (rest := []) h ceX13_lays mlX13_147 imX13_lays seX13_lays (by rfl) (kd_lt (by rw [(by decide : kd 103 = 11)]; decide)) (ent_11 (by decide : kd 103 = 11)) rfl rfl ⟨by decide, by decide⟩ ⟨by decide, by decide⟩ rfl dX13_feed_32 rfl (Nat.le_of_ble_eq_true rfl) (cmX13_lays hq) ?_
    refine g_aload_n h 0 rfl dX13_feed_35 ?_
    refine g_iload h 4 rfl dX13_feed_36 ?_
    obtain ⟨M6, hq, hf⟩ := bd_some hf
    refine g_callVwv (As := [.int x4]) (rest := []) h ceX13_lays mlX13_147 imX13_lays seX13_lays (by rfl) (kd_lt (by rw [(by decide : kd 103 = 11)]; decide)) (ent_11 (by decide : kd 103 = 11)) rfl rfl ⟨by decide, by decide⟩ ⟨by decide, by decide⟩ rfl dX13_feed_38 rfl (Nat.le_of_ble_eq_true rfl) (cmX13_lays hq) ?_
    refine g_aload_n h 0 rfl dX13_feed_41 ?_
    refine g_iload h 5 rfl dX13_feed_42 ?_
    obtain ⟨M7, hq, hf⟩ := bd_some hf
    refine g_callVwv (As := [.int x5]) (rest := []) h ceX13_lays mlX13_147 imX13_lays seX13_lays (by rfl) (kd_lt (by rw [(by decide : kd 103 = 11)]; decide)) (ent_11 (by decide : kd 103 = 11)) rfl rfl ⟨by decide, by decide⟩ ⟨by decide, by decide⟩ rfl dX13_feed_44 rfl (Nat.le_of_ble_eq_true rfl) (cmX13_lays hq) ?_
    refine g_aload_n h 0 rfl dX13_feed_47 ?_
    refine gfX13_144 h (by decide : kd 103 = 11) dX13_feed_48 ?_
    refine g_nmI hf (fun v8 hf => ?_)
    cases hf
    exact g_iret h rfl ⟨rfl, rfl⟩ (Nat.le_refl _) (Nat.le_refl _) dX13_feed_51
  · refine g_iconst h (-1) (v := (-1)) (by decide) dX13_feed_18 ?_
    cases hf
    exact g_iret h rfl ⟨rfl, rfl⟩ (Nat.le_refl _) (Nat.le_refl _) dX13_feed_19

theorem cmX13_feed {l : Launch} {w : WX} {M : Mem} {x1 : Int32} {x2 : Int32} {x3 : Int32} {x4 : Int32} {x5 : Int32} {res : (Int32 × Mem)} (hf : fX13_feed M x1 x2 x3 x4 x5 = some res) : CM l w yX13_feed cX13_feed 6 (some .int) { frames := 1, cells := 0, slots := 0, locals := 22 } 0 0 [rv w 103, .int x1, .int x2, .int x3, .int x4, .int x5] M (Pwi res) := by
  refine CM_of (by decide) (by decide) (fun G hw hl h => ?_)
  subst hw
  exact kX13_feed_e0 h hf

-- X13_forget
theorem kX13_forget_e0 {G : GX} (h : OKm G cX13_forget RX13 1 none { frames := 0, cells := 0, slots := 0, locals := 0 }) {M : Mem} {res : Mem} (hf : fX13_forget M = some res) : GG G (Qm G (Pwv res) 0 0) 0 0 0 [(0, rv G.1 103)] [] M := by
  unfold fX13_forget at hf
  refine g_aload_n h 0 rfl dX13_forget_0 ?_
  refine g_iconst h 0 (v := 0) (by decide) dX13_forget_1 ?_
  refine pfX13_141 h (by decide : kd 103 = 11) dX13_forget_2 ?_
  refine g_nmM hf (fun M1 hf => ?_)
  refine g_aload_n h 0 rfl dX13_forget_5 ?_
  refine g_iconst h 0 (v := 0) (by decide) dX13_forget_6 ?_
  refine pfX13_355 h (by decide : kd 103 = 11) dX13_forget_7 ?_
  refine g_nmM hf (fun M2 hf => ?_)
  cases hf
  exact g_vret h rfl ⟨rfl, rfl⟩ (Nat.le_refl _) (Nat.le_refl _) dX13_forget_10

theorem cmX13_forget {l : Launch} {w : WX} {M : Mem} {res : Mem} (hf : fX13_forget M = some res) : CM l w yX13_forget cX13_forget 1 none { frames := 0, cells := 0, slots := 0, locals := 0 } 0 0 [rv w 103] M (Pwv res) := by
  refine CM_of (by decide) (by decide) (fun G hw hl h => ?_)
  subst hw
  exact kX13_forget_e0 h hf

-- X13_isFriend
theorem kX13_isFriend_b18 {G : GX} (h : OKm G cX13_isFriend RX13 2 (some .boolean) { frames := 1, cells := 0, slots := 0, locals := 22 }) {M : Mem} {s0 : Int32} {res : (Int32 × Mem)} (hf : fX13_isFriend_b18 M s0 = some res) : GG G (Qm G (Pwi res) 0 0) 0 0 18 [] [.int s0, rv G.1 103] M := by
  unfold fX13_isFriend_b18 at hf
  refine g_iconst h 1 (v := 1) (by decide) dX13_isFriend_18 ?_
  obtain ⟨v1, M2, hq, hf⟩ := b2_some hf
  refine g_callVwi (As := [.int s0, .int 1]) (rest := []) h ceX13_right mlX13_326 imX13_right seX13_right (by rfl) (kd_lt (by rw [(by decide : kd 103 = 11)]; decide)) (ent_11 (by decide : kd 103 = 11)) rfl rfl ⟨by decide, by decide⟩ ⟨by decide, by decide⟩ rfl dX13_isFriend_19 rfl (Nat.le_of_ble_eq_true rfl) (cmX13_right hq) ?_
  obtain ⟨hz, hf⟩ := pre_ck hf
  cases hf
  exact g_zret h hz rfl ⟨rfl, rfl⟩ (Nat.le_refl _) (Nat.le_refl _) dX13_isFriend_22

theorem kX13_isFriend_b17 {G : GX} (h : OKm G cX13_isFriend RX13 2 (some .boolean) { frames := 1, cells := 0, slots := 0, locals := 22 }) {M : Mem} {res : (Int32 × Mem)} (hf : fX13_isFriend_b17 M = some res) : GG G (Qm G (Pwi res) 0 0) 0 0 17 [] [rv G.1 103] M := by
  unfold fX13_isFriend_b17 at hf
  refine g_iconst h 0 (v := 0) (by decide) dX13_isFriend_17 ?_
  refine g_sub [] rfl ?_
  exact kX13_isFriend_b18 h hf

theorem kX13_isFriend_e0 {G : GX} (h : OKm G cX13_isFriend RX13 2 (some .boolean) { frames := 1, cells := 0, slots := 0, locals := 22 }) {M : Mem} {x1 : Int32} {res : (Int32 × Mem)} (hf : fX13_isFriend M x1 = some res) : GG G (Qm G (Pwi res) 0 0) 0 0 0 [(0, rv G.1 103), (1, .int x1)] [] M := by
  unfold fX13_isFriend at hf
  refine g_aload_n h 0 rfl dX13_isFriend_0 ?_
  refine g_iload_n h 1 rfl dX13_isFriend_1 ?_
  refine g_if_lt h 17 (by decide) hf dX13_isFriend_2 (fun hf => ?_) (fun hf => ?_)
  · refine g_sub [] rfl ?_
    exact kX13_isFriend_b17 h hf
  · refine g_iload_n h 1 rfl dX13_isFriend_5 ?_
    refine g_aload_n h 0 rfl dX13_isFriend_6 ?_
    refine gfX13_339 h (by decide : kd 103 = 11) dX13_isFriend_7 ?_
    refine g_nmI hf (fun v3 hf => ?_)
    refine g_ic_ge h 17 (by decide) hf dX13_isFriend_10 (fun hf => ?_) (fun hf => ?_)
    · refine g_sub [] rfl ?_
      exact kX13_isFriend_b17 h hf
    · refine g_iconst h 1 (v := 1) (by decide) dX13_isFriend_13 ?_
      refine g_goto h 18 (by decide) dX13_isFriend_14 ?_
      refine g_sub [] rfl ?_
      exact kX13_isFriend_b18 h hf

theorem cmX13_isFriend {l : Launch} {w : WX} {M : Mem} {x1 : Int32} {res : (Int32 × Mem)} (hf : fX13_isFriend M x1 = some res) : CM l w yX13_isFriend cX13_isFriend 2 (some .boolean) { frames := 1, cells := 0, slots := 0, locals := 22 } 0 0 [rv w 103, .int x1] M (Pwi res) := by
  refine CM_of (by decide) (by decide) (fun G hw hl h => ?_)
  subst hw
  exact kX13_isFriend_e0 h hf

-- X13_friend
theorem kX13_friend_e0 {G : GX} (h : OKm G cX13_friend RX13 3 (some .int) { frames := 4, cells := 0, slots := 0, locals := 97 }) {M : Mem} {x1 : Int32} {x2 : Int32} {res : (Int32 × Mem)} (hf : fX13_friend M x1 x2 = some res) : GG G (Qm G (Pwi res) 0 0) 0 0 0 [(0, rv G.1 103), (1, .int x1), (2, .int x2)] [] M := by
  unfold fX13_friend at hf
  refine g_aload_n h 0 rfl dX13_friend_0 ?_
  refine g_iconst h 0 (v := 0) (by decide) dX13_friend_1 ?_
  refine pfX13_141 h (by decide : kd 103 = 11) dX13_friend_2 ?_
  refine g_nmM hf (fun M1 hf => ?_)
  refine g_aload_n h 0 rfl dX13_friend_5 ?_
  refine g_iload_n h 1 rfl dX13_friend_6 ?_
  obtain ⟨v2, M3, hq, hf⟩ := b2_some hf
  refine g_callVwi (As := [.int x1]) (rest := []) h ceX13_isFriend mlX13_420 imX13_isFriend seX13_isFriend (by rfl) (kd_lt (by rw [(by decide : kd 103 = 11)]; decide)) (ent_11 (by decide : kd 103 = 11)) rfl rfl ⟨by decide, by decide⟩ ⟨by decide, by decide⟩ rfl dX13_friend_7 rfl (Nat.le_of_ble_eq_true rfl) (cmX13_isFriend hq) ?_
  refine g_if_eq h 22 (by decide) hf dX13_friend_10 (fun hf => ?_) (fun hf => ?_)
  · refine g_iconst h 0 (v := 0) (by decide) dX13_friend_22 ?_
    cases hf
    exact g_iret h rfl ⟨rfl, rfl⟩ (Nat.le_refl _) (Nat.le_refl _) dX13_friend_23
  · refine g_aload_n h 0 rfl dX13_friend_13 ?_
    refine g_iload_n h 2 rfl dX13_friend_14 ?_
    refine g_iconst h 4 (v := 4) (by decide) dX13_friend_15 ?_
    obtain ⟨v4, M5, hq, hf⟩ := b2_some hf
    refine g_callVwi (As := [.int x2, .int 4]) (rest := []) h ceX13_isWhat mlX13_414 imX13_isWhat seX13_isWhat (by rfl) (kd_lt (by rw [(by decide : kd 103 = 11)]; decide)) (ent_11 (by decide : kd 103 = 11)) rfl rfl ⟨by decide, by decide⟩ ⟨by decide, by decide⟩ rfl dX13_friend_16 rfl (Nat.le_of_ble_eq_true rfl) (cmX13_isWhat hq) ?_
    refine g_if_ne h 24 (by decide) hf dX13_friend_19 (fun hf => ?_) (fun hf => ?_)
    · refine g_iload_n h 2 rfl dX13_friend_24 ?_
      refine g_iconst h 3 (v := 3) (by decide) dX13_friend_25 ?_
      refine g_ic_ge h 68 (by decide) hf dX13_friend_26 (fun hf => ?_) (fun hf => ?_)
      · refine g_aload_n h 0 rfl dX13_friend_68 ?_
        refine gfX13_13 h (by decide : kd 103 = 11) dX13_friend_69 ?_
        refine g_nmI hf (fun v6 hf => ?_)
        refine g_iconst h (-1) (v := (-1)) (by decide) dX13_friend_72 ?_
        refine g_ic_ne h 80 (by decide) hf dX13_friend_73 (fun hf => ?_) (fun hf => ?_)
        · refine g_aload_n h 0 rfl dX13_friend_80 ?_
          refine g_iconst h 0 (v := 0) (by decide) dX13_friend_81 ?_
          refine g_iload_n h 1 rfl dX13_friend_82 ?_
          refine g_iload_n h 2 rfl dX13_friend_83 ?_
          refine g_iconst h 3 (v := 3) (by decide) dX13_friend_84 ?_
          refine g_isub h dX13_friend_85 ?_
          refine g_iconst h 0 (v := 0) (by decide) dX13_friend_86 ?_
          obtain ⟨v7, M8, hq, hf⟩ := b2_some hf
          refine g_callVwi (As := [.int 0, .int x1, .int (x2 - 3), .int 0]) (rest := []) h ceX13_likeOf mlX13_368 imX13_likeOf seX13_likeOf (by rfl) (kd_lt (by rw [(by decide : kd 103 = 11)]; decide)) (ent_11 (by decide : kd 103 = 11)) rfl rfl ⟨by decide, by decide⟩ ⟨by decide, by decide⟩ rfl dX13_friend_87 rfl (Nat.le_of_ble_eq_true rfl) (cmX13_likeOf hq) ?_
          cases hf
          exact g_iret h rfl ⟨rfl, rfl⟩ (Nat.le_refl _) (Nat.le_refl _) dX13_friend_90
        · refine g_iconst h 0 (v := 0) (by decide) dX13_friend_76 ?_
          refine g_goto h 90 (by decide) dX13_friend_77 ?_
          cases hf
          exact g_iret h rfl ⟨rfl, rfl⟩ (Nat.le_refl _) (Nat.le_refl _) dX13_friend_90
      · refine g_iload_n h 2 rfl dX13_friend_29 ?_
        refine g_if_ne h 45 (by decide) hf dX13_friend_30 (fun hf => ?_) (fun hf => ?_)
        · refine g_iload_n h 2 rfl dX13_friend_45 ?_
          refine g_iconst h 1 (v := 1) (by decide) dX13_friend_46 ?_
          refine g_ic_ne h 59 (by decide) hf dX13_friend_47 (fun hf => ?_) (fun hf => ?_)
          · refine g_aload_n h 0 rfl dX13_friend_59 ?_
            refine g_iconst h 0 (v := 0) (by decide) dX13_friend_60 ?_
            refine g_iload_n h 1 rfl dX13_friend_61 ?_
            refine g_iconst h 0 (v := 0) (by decide) dX13_friend_62 ?_
            refine g_iconst h 0 (v := 0) (by decide) dX13_friend_63 ?_
            obtain ⟨v9, M10, hq, hf⟩ := b2_some hf
            refine g_callVwi (As := [.int 0, .int x1, .int 0, .int 0]) (rest := []) h ceX13_follows mlX13_372 imX13_follows seX13_follows (by rfl) (kd_lt (by rw [(by decide : kd 103 = 11)]; decide)) (ent_11 (by decide : kd 103 = 11)) rfl rfl ⟨by decide, by decide⟩ ⟨by decide, by decide⟩ rfl dX13_friend_64 rfl (Nat.le_of_ble_eq_true rfl) (cmX13_follows hq) ?_
            cases hf
            exact g_iret h rfl ⟨rfl, rfl⟩ (Nat.le_refl _) (Nat.le_refl _) dX13_friend_67
          · refine g_aload_n h 0 rfl dX13_friend_50 ?_
            refine gfX13_35 h (by decide : kd 103 = 11) dX13_friend_51 ?_
            refine g_iload_n h 1 rfl dX13_friend_54 ?_
            refine g_iald h 6 (by decide : kd 110 = 20) (by decide) hf dX13_friend_55 (fun v11 hf => ?_)
            refine g_goto h 67 (by decide) dX13_friend_56 ?_
            cases hf
            exact g_iret h rfl ⟨rfl, rfl⟩ (Nat.le_refl _) (Nat.le_refl _) dX13_friend_67
        · refine g_aload_n h 0 rfl dX13_friend_33 ?_
          refine gfX13_108 h (by decide : kd 103 = 11) dX13_friend_34 ?_
          refine g_bipush h 25 (v := 25) (by decide) dX13_friend_37 ?_
          refine g_iload_n h 1 rfl dX13_friend_39 ?_
          refine g_iadd h dX13_friend_40 ?_
          refine g_iald h 186 (by decide : kd 133 = 20) (by decide) hf dX13_friend_41 (fun v12 hf => ?_)
          refine g_goto h 67 (by decide) dX13_friend_42 ?_
          cases hf
          exact g_iret h rfl ⟨rfl, rfl⟩ (Nat.le_refl _) (Nat.le_refl _) dX13_friend_67
    · refine g_iconst h 0 (v := 0) (by decide) dX13_friend_22 ?_
      cases hf
      exact g_iret h rfl ⟨rfl, rfl⟩ (Nat.le_refl _) (Nat.le_refl _) dX13_friend_23

theorem cmX13_friend {l : Launch} {w : WX} {M : Mem} {x1 : Int32} {x2 : Int32} {res : (Int32 × Mem)} (hf : fX13_friend M x1 x2 = some res) : CM l w yX13_friend cX13_friend 3 (some .int) { frames := 4, cells := 0, slots := 0, locals := 97 } 0 0 [rv w 103, .int x1, .int x2] M (Pwi res) := by
  refine CM_of (by decide) (by decide) (fun G hw hl h => ?_)
  subst hw
  exact kX13_friend_e0 h hf

-- X13_gains
theorem kX13_gains_b70 {G : GX} (h : OKm G cX13_gains RX13 7 (some .int) { frames := 7, cells := 0, slots := 0, locals := 166 }) {a13 : Mem → Int32 → Int32 → Int32 → Int32 → Int32 → Option (Int32 × Mem)} (ha13 : ∀ (M : Mem) (x1 : Int32) (x2 : Int32) (x3 : Int32) (x4 : Int32) (x5 : Int32) (res : (Int32 × Mem)), a13 M x1 x2 x3 x4 x5 = some res → GG G (Qm G (Pwi res) 0 0) 0 0 13 [(0, rv G.1 103), (1, .int x1), (2, .int x2), (3, .int x3), (4, .int x4), (5, .int x5)] [] M) {M : Mem} {x1 : Int32} {x2 : Int32} {x3 : Int32} {x5 : Int32} {s0 : Int32} {res : (Int32 × Mem)} (hf : fX13_gains_b70 a13 M x1 x2 x3 x5 s0 = some res) : GG G (Qm G (Pwi res) 0 0) 0 0 70 [(0, rv G.1 103), (1, .int x1), (2, .int x2), (3, .int x3), (5, .int x5)] [.int s0] M := by
  unfold fX13_gains_b70 at hf
  refine g_istore h [(4, .int s0), (0, rv G.1 103), (1, .int x1), (2, .int x2), (3, .int x3), (5, .int x5)] (by decide) rfl dX13_gains_70 ?_
  refine g_aload_n h 1 rfl dX13_gains_72 ?_
  refine g_bipush h 31 (v := 31) (by decide) dX13_gains_73 ?_
  refine g_iconst h 1 (v := 1) (by decide) dX13_gains_75 ?_
  obtain ⟨M7, hq, hf⟩ := bd_some hf
  refine g_callVwv (As := [.int 31, .int 1]) (rest := []) h ceX13_ends mlX13_400 imX13_ends seX13_ends (by rfl) (kd_lt (by rw [(by decide : kd 103 = 11)]; decide)) (ent_11 (by decide : kd 103 = 11)) rfl rfl ⟨by decide, by decide⟩ ⟨by decide, by decide⟩ rfl dX13_gains_76 rfl (Nat.le_of_ble_eq_true rfl) (cmX13_ends hq) ?_
  refine g_iinc h 5 5 rfl (v := x5 + 1) rfl [(5, .int (x5 + 1)), (4, .int s0), (0, rv G.1 103), (1, .int x1), (2, .int x2), (3, .int x3)] (by decide) rfl dX13_gains_79 ?_
  refine g_nmV hf (fun v8 hf => ?_)
  refine g_goto h 13 (by decide) dX13_gains_82 ?_
  refine g_sub [2, 3, 4, 5, 1, 0] rfl ?_
  exact ha13 _ _ _ _ _ _ _ hf

theorem kX13_gains_b46 {G : GX} (h : OKm G cX13_gains RX13 7 (some .int) { frames := 7, cells := 0, slots := 0, locals := 166 }) {a13 : Mem → Int32 → Int32 → Int32 → Int32 → Int32 → Option (Int32 × Mem)} (ha13 : ∀ (M : Mem) (x1 : Int32) (x2 : Int32) (x3 : Int32) (x4 : Int32) (x5 : Int32) (res : (Int32 × Mem)), a13 M x1 x2 x3 x4 x5 = some res → GG G (Qm G (Pwi res) 0 0) 0 0 13 [(0, rv G.1 103), (1, .int x1), (2, .int x2), (3, .int x3), (4, .int x4), (5, .int x5)] [] M) {M : Mem} {x1 : Int32} {x2 : Int32} {x3 : Int32} {x5 : Int32} {s0 : Int32} {res : (Int32 × Mem)} (hf : fX13_gains_b46 a13 M x1 x2 x3 x5 s0 = some res) : GG G (Qm G (Pwi res) 0 0) 0 0 46 [(0, rv G.1 103), (1, .int x1), (2, .int x2), (3, .int x3), (5, .int x5)] [.int s0] M := by
  unfold fX13_gains_b46 at hf
  refine g_istore h [(6, .int s0), (0, rv G.1 103), (1, .int x1), (2, .int x2), (3, .int x3), (5, .int x5)] (by decide) rfl dX13_gains_46 ?_
  refine g_aload_n h 1 rfl dX13_gains_48 ?_
  refine g_bipush h 31 (v := 31) (by decide) dX13_gains_49 ?_
  refine g_iload h 0 rfl dX13_gains_51 ?_
  obtain ⟨v5, M6, hq, hf⟩ := b2_some hf
  refine g_callVwi (As := [.int 31, .int s0]) (rest := []) h ceX13_does mlX13_396 imX13_does seX13_does (by rfl) (kd_lt (by rw [(by decide : kd 103 = 11)]; decide)) (ent_11 (by decide : kd 103 = 11)) rfl rfl ⟨by decide, by decide⟩ ⟨by decide, by decide⟩ rfl dX13_gains_53 rfl (Nat.le_of_ble_eq_true rfl) (cmX13_does hq) ?_
  refine g_if_eq h 69 (by decide) hf dX13_gains_56 (fun hf => ?_) (fun hf => ?_)
  · refine g_iconst h 0 (v := 0) (by decide) dX13_gains_69 ?_
    refine g_sub [1, 2, 3, 4, 5] rfl ?_
    exact kX13_gains_b70 h ha13 hf
  · refine g_aload_n h 1 rfl dX13_gains_59 ?_
    refine gfX13_26 h (by decide : kd 103 = 11) dX13_gains_60 ?_
    refine g_iload h 0 rfl dX13_gains_63 ?_
    refine g_iald h 7 (by decide : kd 107 = 20) (by decide) hf dX13_gains_65 (fun v9 hf => ?_)
    refine g_goto h 70 (by decide) dX13_gains_66 ?_
    refine g_sub [1, 2, 3, 4, 5] rfl ?_
    exact kX13_gains_b70 h ha13 hf

theorem kX13_gains_l13 {G : GX} (h : OKm G cX13_gains RX13 7 (some .int) { frames := 7, cells := 0, slots := 0, locals := 166 }) : ∀ (n : Nat) (M : Mem) (x1 : Int32) (x2 : Int32) (x3 : Int32) (x4 : Int32) (x5 : Int32) (res : (Int32 × Mem)), fX13_gains_l13 n M x1 x2 x3 x4 x5 = some res → GG G (Qm G (Pwi res) 0 0) 0 0 13 [(0, rv G.1 103), (1, .int x1), (2, .int x2), (3, .int x3), (4, .int x4), (5, .int x5)] [] M := by
  intro n
  induction n with
  | zero => intro M x1 x2 x3 x4 x5 res hf; rw [fX13_gains_l13] at hf; cases hf
  | succ n ih =>
    intro M x1 x2 x3 x4 x5 res hf
    rw [fX13_gains_l13] at hf
    refine g_iload h 5 rfl dX13_gains_13 ?_
    refine g_iload_n h 1 rfl dX13_gains_15 ?_
    refine g_ic_gt h 85 (by decide) hf dX13_gains_16 (fun hf => ?_) (fun hf => ?_)
    · refine g_iload_n h 2 rfl dX13_gains_85 ?_
      refine g_iload_n h 3 rfl dX13_gains_86 ?_
      refine g_ic_ne h 97 (by decide) hf dX13_gains_87 (fun hf => ?_) (fun hf => ?_)
      · refine g_iload h 4 rfl dX13_gains_97 ?_
        cases hf
        exact g_iret h rfl ⟨rfl, rfl⟩ (Nat.le_refl _) (Nat.le_refl _) dX13_gains_99
      · refine g_iload h 4 rfl dX13_gains_90 ?_
        refine g_iconst h 3 (v := 3) (by decide) dX13_gains_92 ?_
        refine g_isub h dX13_gains_93 ?_
        refine g_goto h 99 (by decide) dX13_gains_94 ?_
        cases hf
        exact g_iret h rfl ⟨rfl, rfl⟩ (Nat.le_refl _) (Nat.le_refl _) dX13_gains_99
    · refine g_aload_n h 0 rfl dX13_gains_19 ?_
      refine g_bipush h 31 (v := 31) (by decide) dX13_gains_20 ?_
      refine g_aload_n h 0 rfl dX13_gains_22 ?_
      refine g_aload_n h 0 rfl dX13_gains_23 ?_
      refine gfX13_108 h (by decide : kd 103 = 11) dX13_gains_24 ?_
      refine g_bipush h 34 (v := 34) (by decide) dX13_gains_27 ?_
      refine g_iald h 186 (by decide : kd 133 = 20) (by decide) hf dX13_gains_29 (fun v2 hf => ?_)
      obtain ⟨v3, hq, hf⟩ := bd_some hf
      refine g_callVri (As := [.int v2]) (rest := [.int 31, rv G.1 103]) h ceX13_harvestOf mlX13_387 imX13_harvestOf seX13_harvestOf (by rfl) (kd_lt (by rw [(by decide : kd 103 = 11)]; decide)) (ent_11 (by decide : kd 103 = 11)) rfl rfl ⟨by decide, by decide⟩ ⟨by decide, by decide⟩ rfl dX13_gains_30 rfl (Nat.le_of_ble_eq_true rfl) (cmX13_harvestOf hq) ?_
      obtain ⟨M4, hq, hf⟩ := bd_some hf
      refine g_callVwv (As := [.int 31, .int v3]) (rest := []) h ceX13_gathers mlX13_390 imX13_gathers seX13_gathers (by rfl) (kd_lt (by rw [(by decide : kd 103 = 11)]; decide)) (ent_11 (by decide : kd 103 = 11)) rfl rfl ⟨by decide, by decide⟩ ⟨by decide, by decide⟩ rfl dX13_gains_33 rfl (Nat.le_of_ble_eq_true rfl) (cmX13_gathers hq) ?_
      refine g_iload h 5 rfl dX13_gains_36 ?_
      refine g_if_ne h 45 (by decide) hf dX13_gains_38 (fun hf => ?_) (fun hf => ?_)
      · refine g_iload_n h 3 rfl dX13_gains_45 ?_
        refine g_sub [0, 1, 2, 3, 5] rfl ?_
        exact kX13_gains_b46 h ih hf
      · refine g_iload_n h 2 rfl dX13_gains_41 ?_
        refine g_goto h 46 (by decide) dX13_gains_42 ?_
        refine g_sub [0, 1, 2, 3, 5] rfl ?_
        exact kX13_gains_b46 h ih hf

theorem kX13_gains_e0 {G : GX} (h : OKm G cX13_gains RX13 7 (some .int) { frames := 7, cells := 0, slots := 0, locals := 166 }) {M : Mem} {x1 : Int32} {x2 : Int32} {x3 : Int32} {res : (Int32 × Mem)} (hf : fX13_gains M x1 x2 x3 = some res) : GG G (Qm G (Pwi res) 0 0) 0 0 0 [(0, rv G.1 103), (1, .int x1), (2, .int x2), (3, .int x3)] [] M := by
  unfold fX13_gains at hf
  refine g_aload_n h 0 rfl dX13_gains_0 ?_
  refine g_iconst h 0 (v := 0) (by decide) dX13_gains_1 ?_
  refine g_bipush h 31 (v := 31) (by decide) dX13_gains_2 ?_
  obtain ⟨M1, hq, hf⟩ := bd_some hf
  refine g_callVwv (As := [.int 0, .int 31]) (rest := []) h ceX13_lays0 mlX13_432 imX13_lays0 seX13_lays0 (by rfl) (kd_lt (by rw [(by decide : kd 103 = 11)]; decide)) (ent_11 (by decide : kd 103 = 11)) rfl rfl ⟨by decide, by decide⟩ ⟨by decide, by decide⟩ rfl dX13_gains_4 rfl (Nat.le_of_ble_eq_true rfl) (cmX13_lays0 hq) ?_
  refine g_iconst h 0 (v := 0) (by decide) dX13_gains_7 ?_
  refine g_istore h [(4, .int 0), (0, rv G.1 103), (1, .int x1), (2, .int x2), (3, .int x3)] (by decide) rfl dX13_gains_8 ?_
  refine g_iconst h 0 (v := 0) (by decide) dX13_gains_10 ?_
  refine g_istore h [(5, .int 0), (4, .int 0), (0, rv G.1 103), (1, .int x1), (2, .int x2), (3, .int x3)] (by decide) rfl dX13_gains_11 ?_
  refine g_sub [2, 3, 4, 5, 1, 0] rfl ?_
  exact kX13_gains_l13 h _ _ _ _ _ _ _ _ hf

theorem cmX13_gains {l : Launch} {w : WX} {M : Mem} {x1 : Int32} {x2 : Int32} {x3 : Int32} {res : (Int32 × Mem)} (hf : fX13_gains M x1 x2 x3 = some res) : CM l w yX13_gains cX13_gains 7 (some .int) { frames := 7, cells := 0, slots := 0, locals := 166 } 0 0 [rv w 103, .int x1, .int x2, .int x3] M (Pwi res) := by
  refine CM_of (by decide) (by decide) (fun G hw hl h => ?_)
  subst hw
  exact kX13_gains_e0 h hf

-- X13_game
theorem kX13_game_b189 {G : GX} (h : OKm G cX13_game RX13 11 (some .int) { frames := 8, cells := 0, slots := 0, locals := 192 }) {a59 : Mem → Int32 → Int32 → Int32 → Int32 → Int32 → Int32 → Option (Int32 × Mem)} (ha59 : ∀ (M : Mem) (x1 : Int32) (x2 : Int32) (x3 : Int32) (x4 : Int32) (x5 : Int32) (x6 : Int32) (res : (Int32 × Mem)), a59 M x1 x2 x3 x4 x5 x6 = some res → GG G (Qm G (Pwi res) 0 0) 0 0 59 [(0, rv G.1 103), (1, .int x1), (2, .int x2), (3, .int x3), (4, .int x4), (5, .int x5), (6, .int x6)] [] M) {M : Mem} {x1 : Int32} {x2 : Int32} {x3 : Int32} {x4 : Int32} {x5 : Int32} {x6 : Int32} {res : (Int32 × Mem)} (hf : fX13_game_b189 a59 M x1 x2 x3 x4 x5 x6 = some res) : GG G (Qm G (Pwi res) 0 0) 0 0 189 [(0, rv G.1 103), (1, .int x1), (2, .int x2), (3, .int x3), (4, .int x4), (5, .int x5), (6, .int x6)] [] M := by
  unfold fX13_game_b189 at hf
  refine g_iinc h 6 6 rfl (v := x6 + 1) rfl [(6, .int (x6 + 1)), (0, rv G.1 103), (1, .int x1), (2, .int x2), (3, .int x3), (4, .int x4), (5, .int x5)] (by decide) rfl dX13_game_189 ?_
  refine g_nmV hf (fun v14 hf => ?_)
  refine g_goto h 59 (by decide) dX13_game_192 ?_
  refine g_sub [1, 2, 3, 4, 5, 6, 0] rfl ?_
  exact ha59 _ _ _ _ _ _ _ _ hf

theorem kX13_game_b119 {G : GX} (h : OKm G cX13_game RX13 11 (some .int) { frames := 8, cells := 0, slots := 0, locals := 192 }) {a59 : Mem → Int32 → Int32 → Int32 → Int32 → Int32 → Int32 → Option (Int32 × Mem)} (ha59 : ∀ (M : Mem) (x1 : Int32) (x2 : Int32) (x3 : Int32) (x4 : Int32) (x5 : Int32) (x6 : Int32) (res : (Int32 × Mem)), a59 M x1 x2 x3 x4 x5 x6 = some res → GG G (Qm G (Pwi res) 0 0) 0 0 59 [(0, rv G.1 103), (1, .int x1), (2, .int x2), (3, .int x3), (4, .int x4), (5, .int x5), (6, .int x6)] [] M) {M : Mem} {x1 : Int32} {x2 : Int32} {x3 : Int32} {x4 : Int32} {x5 : Int32} {x6 : Int32} {x7 : Int32} {x8 : Int32} {x9 : Int32} {s0 : Int32} {res : (Int32 × Mem)} (hf : fX13_game_b119 a59 M x1 x2 x3 x4 x5 x6 x7 x8 x9 s0 = some res) : GG G (Qm G (Pwi res) 0 0) 0 0 119 [(0, rv G.1 103), (1, .int x1), (2, .int x2), (3, .int x3), (4, .int x4), (5, .int x5), (6, .int x6), (7, .int x7), (8, .int x8), (9, .int x9)] [.int s0] M := by
  unfold fX13_game_b119 at hf
  refine g_istore h [(10, .int s0), (0, rv G.1 103), (1, .int x1), (2, .int x2), (3, .int x3), (4, .int x4), (5, .int x5), (6, .int x6), (7, .int x7), (8, .int x8), (9, .int x9)] (by decide) rfl dX13_game_119 ?_
  refine g_aload_n h 1 rfl dX13_game_121 ?_
  refine g_iconst h 0 (v := 0) (by decide) dX13_game_122 ?_
  refine g_iload h 9 rfl dX13_game_123 ?_
  refine g_iload h 10 rfl dX13_game_125 ?_
  obtain ⟨v10, M11, hq, hf⟩ := b2_some hf
  refine g_callVwi (As := [.int 0, .int x8, .int x9]) (rest := []) h ceX13_gains mlX13_477 imX13_gains seX13_gains (by rfl) (kd_lt (by rw [(by decide : kd 103 = 11)]; decide)) (ent_11 (by decide : kd 103 = 11)) rfl rfl ⟨by decide, by decide⟩ ⟨by decide, by decide⟩ rfl dX13_game_127 rfl (Nat.le_of_ble_eq_true rfl) (cmX13_gains hq) ?_
  refine g_aload_n h 1 rfl dX13_game_130 ?_
  refine g_iconst h 0 (v := 0) (by decide) dX13_game_131 ?_
  refine g_iload h 8 rfl dX13_game_132 ?_
  refine g_iload h 10 rfl dX13_game_134 ?_
  obtain ⟨v12, M13, hq, hf⟩ := b2_some hf
  refine g_callVwi (As := [.int 0, .int x7, .int x9]) (rest := [.int v10]) h ceX13_gains mlX13_477 imX13_gains seX13_gains (by rfl) (kd_lt (by rw [(by decide : kd 103 = 11)]; decide)) (ent_11 (by decide : kd 103 = 11)) rfl rfl ⟨by decide, by decide⟩ ⟨by decide, by decide⟩ rfl dX13_game_136 rfl (Nat.le_of_ble_eq_true rfl) (cmX13_gains hq) ?_
  refine g_ic_gt h 189 (by decide) hf dX13_game_139 (fun hf => ?_) (fun hf => ?_)
  · refine g_sub [1, 2, 3, 4, 5, 6, 7] rfl ?_
    exact kX13_game_b189 h ha59 hf
  · refine g_aload_n h 1 rfl dX13_game_142 ?_
    refine g_iconst h 1 (v := 1) (by decide) dX13_game_143 ?_
    refine g_iload h 8 rfl dX13_game_144 ?_
    refine g_iload h 0 rfl dX13_game_146 ?_
    obtain ⟨v15, M16, hq, hf⟩ := b2_some hf
    refine g_callVwi (As := [.int 1, .int x7, .int s0]) (rest := []) h ceX13_gains mlX13_477 imX13_gains seX13_gains (by rfl) (kd_lt (by rw [(by decide : kd 103 = 11)]; decide)) (ent_11 (by decide : kd 103 = 11)) rfl rfl ⟨by decide, by decide⟩ ⟨by decide, by decide⟩ rfl dX13_game_148 rfl (Nat.le_of_ble_eq_true rfl) (cmX13_gains hq) ?_
    refine g_aload_n h 1 rfl dX13_game_151 ?_
    refine g_iconst h 1 (v := 1) (by decide) dX13_game_152 ?_
    refine g_iload h 8 rfl dX13_game_153 ?_
    refine g_iload h 10 rfl dX13_game_155 ?_
    obtain ⟨v17, M18, hq, hf⟩ := b2_some hf
    refine g_callVwi (As := [.int 1, .int x7, .int x9]) (rest := [.int v15]) h ceX13_gains mlX13_477 imX13_gains seX13_gains (by rfl) (kd_lt (by rw [(by decide : kd 103 = 11)]; decide)) (ent_11 (by decide : kd 103 = 11)) rfl rfl ⟨by decide, by decide⟩ ⟨by decide, by decide⟩ rfl dX13_game_157 rfl (Nat.le_of_ble_eq_true rfl) (cmX13_gains hq) ?_
    refine g_ic_le h 166 (by decide) hf dX13_game_160 (fun hf => ?_) (fun hf => ?_)
    · refine g_iinc h 4 5 rfl (v := x4 + 1) rfl [(4, .int (x4 + 1)), (10, .int s0), (0, rv G.1 103), (1, .int x1), (2, .int x2), (3, .int x3), (5, .int x5), (6, .int x6), (7, .int x7), (8, .int x8), (9, .int x9)] (by decide) rfl dX13_game_166 ?_
      refine g_nmV hf (fun v19 hf => ?_)
      refine g_iload h 6 rfl dX13_game_169 ?_
      refine g_iconst h (-1) (v := (-1)) (by decide) dX13_game_171 ?_
      refine g_ic_ne h 189 (by decide) hf dX13_game_172 (fun hf => ?_) (fun hf => ?_)
      · refine g_sub [2, 3, 4, 5, 0, 6, 7] rfl ?_
        exact kX13_game_b189 h ha59 hf
      · refine g_bipush h 10 (v := 10) (by decide) dX13_game_175 ?_
        refine g_iload h 7 rfl dX13_game_177 ?_
        refine g_iconst h 2 (v := 2) (by decide) dX13_game_179 ?_
        refine g_idiv h (by decide) dX13_game_180 ?_
        refine g_imul h dX13_game_181 ?_
        refine g_iload h 7 rfl dX13_game_182 ?_
        refine g_iconst h 2 (v := 2) (by decide) dX13_game_184 ?_
        refine g_irem h (by decide) dX13_game_185 ?_
        refine g_iadd h dX13_game_186 ?_
        refine g_nmI hf (fun v20 hf => ?_)
        refine g_istore h [(5, .int v20), (4, .int v19), (10, .int s0), (0, rv G.1 103), (1, .int x1), (2, .int x2), (3, .int x3), (6, .int x6), (7, .int x7), (8, .int x8), (9, .int x9)] (by decide) rfl dX13_game_187 ?_
        refine g_sub [3, 4, 5, 6, 1, 0, 7] rfl ?_
        exact kX13_game_b189 h ha59 hf
    · refine g_goto h 189 (by decide) dX13_game_163 ?_
      refine g_sub [1, 2, 3, 4, 5, 6, 7] rfl ?_
      exact kX13_game_b189 h ha59 hf

theorem kX13_game_b105 {G : GX} (h : OKm G cX13_game RX13 11 (some .int) { frames := 8, cells := 0, slots := 0, locals := 192 }) {a59 : Mem → Int32 → Int32 → Int32 → Int32 → Int32 → Int32 → Option (Int32 × Mem)} (ha59 : ∀ (M : Mem) (x1 : Int32) (x2 : Int32) (x3 : Int32) (x4 : Int32) (x5 : Int32) (x6 : Int32) (res : (Int32 × Mem)), a59 M x1 x2 x3 x4 x5 x6 = some res → GG G (Qm G (Pwi res) 0 0) 0 0 59 [(0, rv G.1 103), (1, .int x1), (2, .int x2), (3, .int x3), (4, .int x4), (5, .int x5), (6, .int x6)] [] M) {M : Mem} {x1 : Int32} {x2 : Int32} {x3 : Int32} {x4 : Int32} {x5 : Int32} {x6 : Int32} {x7 : Int32} {x8 : Int32} {s0 : Int32} {res : (Int32 × Mem)} (hf : fX13_game_b105 a59 M x1 x2 x3 x4 x5 x6 x7 x8 s0 = some res) : GG G (Qm G (Pwi res) 0 0) 0 0 105 [(0, rv G.1 103), (1, .int x1), (2, .int x2), (3, .int x3), (4, .int x4), (5, .int x5), (6, .int x6), (7, .int x7), (8, .int x8)] [.int s0] M := by
  unfold fX13_game_b105 at hf
  refine g_istore h [(9, .int s0), (0, rv G.1 103), (1, .int x1), (2, .int x2), (3, .int x3), (4, .int x4), (5, .int x5), (6, .int x6), (7, .int x7), (8, .int x8)] (by decide) rfl dX13_game_105 ?_
  refine g_iload h 7 rfl dX13_game_107 ?_
  refine g_iconst h 2 (v := 2) (by decide) dX13_game_109 ?_
  refine g_irem h (by decide) dX13_game_110 ?_
  refine g_if_ne h 118 (by decide) hf dX13_game_111 (fun hf => ?_) (fun hf => ?_)
  · refine g_iload_n h 2 rfl dX13_game_118 ?_
    refine g_sub [1, 2, 3, 4, 5, 6, 7, 8, 9, 0] rfl ?_
    exact kX13_game_b119 h ha59 hf
  · refine g_iload_n h 3 rfl dX13_game_114 ?_
    refine g_goto h 119 (by decide) dX13_game_115 ?_
    refine g_sub [1, 2, 3, 4, 5, 6, 7, 8, 9, 0] rfl ?_
    exact kX13_game_b119 h ha59 hf

theorem kX13_game_b91 {G : GX} (h : OKm G cX13_game RX13 11 (some .int) { frames := 8, cells := 0, slots := 0, locals := 192 }) {a59 : Mem → Int32 → Int32 → Int32 → Int32 → Int32 → Int32 → Option (Int32 × Mem)} (ha59 : ∀ (M : Mem) (x1 : Int32) (x2 : Int32) (x3 : Int32) (x4 : Int32) (x5 : Int32) (x6 : Int32) (res : (Int32 × Mem)), a59 M x1 x2 x3 x4 x5 x6 = some res → GG G (Qm G (Pwi res) 0 0) 0 0 59 [(0, rv G.1 103), (1, .int x1), (2, .int x2), (3, .int x3), (4, .int x4), (5, .int x5), (6, .int x6)] [] M) {M : Mem} {x1 : Int32} {x2 : Int32} {x3 : Int32} {x4 : Int32} {x5 : Int32} {x6 : Int32} {x7 : Int32} {s0 : Int32} {res : (Int32 × Mem)} (hf : fX13_game_b91 a59 M x1 x2 x3 x4 x5 x6 x7 s0 = some res) : GG G (Qm G (Pwi res) 0 0) 0 0 91 [(0, rv G.1 103), (1, .int x1), (2, .int x2), (3, .int x3), (4, .int x4), (5, .int x5), (6, .int x6), (7, .int x7)] [.int s0] M := by
  unfold fX13_game_b91 at hf
  refine g_istore h [(8, .int s0), (0, rv G.1 103), (1, .int x1), (2, .int x2), (3, .int x3), (4, .int x4), (5, .int x5), (6, .int x6), (7, .int x7)] (by decide) rfl dX13_game_91 ?_
  refine g_iload h 7 rfl dX13_game_93 ?_
  refine g_iconst h 2 (v := 2) (by decide) dX13_game_95 ?_
  refine g_irem h (by decide) dX13_game_96 ?_
  refine g_if_ne h 104 (by decide) hf dX13_game_97 (fun hf => ?_) (fun hf => ?_)
  · refine g_iload_n h 3 rfl dX13_game_104 ?_
    refine g_sub [1, 2, 3, 4, 5, 6, 7, 8, 0] rfl ?_
    exact kX13_game_b105 h ha59 hf
  · refine g_iload_n h 2 rfl dX13_game_100 ?_
    refine g_goto h 105 (by decide) dX13_game_101 ?_
    refine g_sub [1, 2, 3, 4, 5, 6, 7, 8, 0] rfl ?_
    exact kX13_game_b105 h ha59 hf

theorem kX13_game_b77 {G : GX} (h : OKm G cX13_game RX13 11 (some .int) { frames := 8, cells := 0, slots := 0, locals := 192 }) {a59 : Mem → Int32 → Int32 → Int32 → Int32 → Int32 → Int32 → Option (Int32 × Mem)} (ha59 : ∀ (M : Mem) (x1 : Int32) (x2 : Int32) (x3 : Int32) (x4 : Int32) (x5 : Int32) (x6 : Int32) (res : (Int32 × Mem)), a59 M x1 x2 x3 x4 x5 x6 = some res → GG G (Qm G (Pwi res) 0 0) 0 0 59 [(0, rv G.1 103), (1, .int x1), (2, .int x2), (3, .int x3), (4, .int x4), (5, .int x5), (6, .int x6)] [] M) {M : Mem} {x1 : Int32} {x2 : Int32} {x3 : Int32} {x4 : Int32} {x5 : Int32} {x6 : Int32} {s0 : Int32} {res : (Int32 × Mem)} (hf : fX13_game_b77 a59 M x1 x2 x3 x4 x5 x6 s0 = some res) : GG G (Qm G (Pwi res) 0 0) 0 0 77 [(0, rv G.1 103), (1, .int x1), (2, .int x2), (3, .int x3), (4, .int x4), (5, .int x5), (6, .int x6)] [.int s0] M := by
  unfold fX13_game_b77 at hf
  refine g_istore h [(7, .int s0), (0, rv G.1 103), (1, .int x1), (2, .int x2), (3, .int x3), (4, .int x4), (5, .int x5), (6, .int x6)] (by decide) rfl dX13_game_77 ?_
  refine g_iload h 7 rfl dX13_game_79 ?_
  refine g_iconst h 2 (v := 2) (by decide) dX13_game_81 ?_
  refine g_idiv h (by decide) dX13_game_82 ?_
  refine g_if_ne h 90 (by decide) hf dX13_game_83 (fun hf => ?_) (fun hf => ?_)
  · refine g_iload_n h 2 rfl dX13_game_90 ?_
    refine g_sub [1, 2, 3, 4, 5, 6, 7, 0] rfl ?_
    exact kX13_game_b91 h ha59 hf
  · refine g_iload_n h 3 rfl dX13_game_86 ?_
    refine g_goto h 91 (by decide) dX13_game_87 ?_
    refine g_sub [1, 2, 3, 4, 5, 6, 7, 0] rfl ?_
    exact kX13_game_b91 h ha59 hf

theorem kX13_game_l59 {G : GX} (h : OKm G cX13_game RX13 11 (some .int) { frames := 8, cells := 0, slots := 0, locals := 192 }) : ∀ (n : Nat) (M : Mem) (x1 : Int32) (x2 : Int32) (x3 : Int32) (x4 : Int32) (x5 : Int32) (x6 : Int32) (res : (Int32 × Mem)), fX13_game_l59 n M x1 x2 x3 x4 x5 x6 = some res → GG G (Qm G (Pwi res) 0 0) 0 0 59 [(0, rv G.1 103), (1, .int x1), (2, .int x2), (3, .int x3), (4, .int x4), (5, .int x5), (6, .int x6)] [] M := by
  intro n
  induction n with
  | zero => intro M x1 x2 x3 x4 x5 x6 res hf; rw [fX13_game_l59] at hf; cases hf
  | succ n ih =>
    intro M x1 x2 x3 x4 x5 x6 res hf
    rw [fX13_game_l59] at hf
    refine g_iload h 6 rfl dX13_game_59 ?_
    refine g_iconst h 4 (v := 4) (by decide) dX13_game_61 ?_
    refine g_ic_ge h 195 (by decide) hf dX13_game_62 (fun hf => ?_) (fun hf => ?_)
    · refine g_iload_n h 3 rfl dX13_game_195 ?_
      refine g_if_ne h 204 (by decide) hf dX13_game_196 (fun hf => ?_) (fun hf => ?_)
      · refine g_iload h 5 rfl dX13_game_204 ?_
        cases hf
        exact g_iret h rfl ⟨rfl, rfl⟩ (Nat.le_refl _) (Nat.le_refl _) dX13_game_206
      · refine g_iload h 4 rfl dX13_game_199 ?_
        refine g_goto h 206 (by decide) dX13_game_201 ?_
        cases hf
        exact g_iret h rfl ⟨rfl, rfl⟩ (Nat.le_refl _) (Nat.le_refl _) dX13_game_206
    · refine g_iload h 6 rfl dX13_game_65 ?_
      refine g_iconst h 2 (v := 2) (by decide) dX13_game_67 ?_
      refine g_idiv h (by decide) dX13_game_68 ?_
      refine g_if_ne h 76 (by decide) hf dX13_game_69 (fun hf => ?_) (fun hf => ?_)
      · refine g_iload_n h 2 rfl dX13_game_76 ?_
        refine g_sub [0, 1, 2, 3, 4, 5, 6] rfl ?_
        exact kX13_game_b77 h ih hf
      · refine g_iload_n h 1 rfl dX13_game_72 ?_
        refine g_goto h 77 (by decide) dX13_game_73 ?_
        refine g_sub [0, 1, 2, 3, 4, 5, 6] rfl ?_
        exact kX13_game_b77 h ih hf

theorem kX13_game_b41 {G : GX} (h : OKm G cX13_game RX13 11 (some .int) { frames := 8, cells := 0, slots := 0, locals := 192 }) {M : Mem} {x1 : Int32} {x2 : Int32} {x3 : Int32} {s0 : Int32} {res : (Int32 × Mem)} (hf : fX13_game_b41 M x1 x2 x3 s0 = some res) : GG G (Qm G (Pwi res) 0 0) 0 0 41 [(0, rv G.1 103), (1, .int x1), (2, .int x2), (3, .int x3)] [.int s0, rv G.1 103] M := by
  unfold fX13_game_b41 at hf
  refine g_iconst h 2 (v := 2) (by decide) dX13_game_41 ?_
  obtain ⟨v8, M9, hq, hf⟩ := b2_some hf
  refine g_callVwi (As := [.int s0, .int 2]) (rest := []) h ceX13_right mlX13_326 imX13_right seX13_right (by rfl) (kd_lt (by rw [(by decide : kd 103 = 11)]; decide)) (ent_11 (by decide : kd 103 = 11)) rfl rfl ⟨by decide, by decide⟩ ⟨by decide, by decide⟩ rfl dX13_game_42 rfl (Nat.le_of_ble_eq_true rfl) (cmX13_right hq) ?_
  refine g_if_ne h 50 (by decide) hf dX13_game_45 (fun hf => ?_) (fun hf => ?_)
  · refine g_iconst h 0 (v := 0) (by decide) dX13_game_50 ?_
    refine g_istore h [(4, .int 0), (0, rv G.1 103), (1, .int x1), (2, .int x2), (3, .int x3)] (by decide) rfl dX13_game_51 ?_
    refine g_iconst h (-1) (v := (-1)) (by decide) dX13_game_53 ?_
    refine g_istore h [(5, .int (-1)), (4, .int 0), (0, rv G.1 103), (1, .int x1), (2, .int x2), (3, .int x3)] (by decide) rfl dX13_game_54 ?_
    refine g_iconst h 0 (v := 0) (by decide) dX13_game_56 ?_
    refine g_istore h [(6, .int 0), (5, .int (-1)), (4, .int 0), (0, rv G.1 103), (1, .int x1), (2, .int x2), (3, .int x3)] (by decide) rfl dX13_game_57 ?_
    refine g_sub [3, 4, 5, 6, 2, 1, 0] rfl ?_
    exact kX13_game_l59 h _ _ _ _ _ _ _ _ _ hf
  · refine g_iconst h 0 (v := 0) (by decide) dX13_game_48 ?_
    cases hf
    exact g_iret h rfl ⟨rfl, rfl⟩ (Nat.le_refl _) (Nat.le_refl _) dX13_game_49

theorem kX13_game_e0 {G : GX} (h : OKm G cX13_game RX13 11 (some .int) { frames := 8, cells := 0, slots := 0, locals := 192 }) {M : Mem} {x1 : Int32} {x2 : Int32} {x3 : Int32} {res : (Int32 × Mem)} (hf : fX13_game M x1 x2 x3 = some res) : GG G (Qm G (Pwi res) 0 0) 0 0 0 [(0, rv G.1 103), (1, .int x1), (2, .int x2), (3, .int x3)] [] M := by
  unfold fX13_game at hf
  refine g_aload_n h 0 rfl dX13_game_0 ?_
  refine g_iconst h 0 (v := 0) (by decide) dX13_game_1 ?_
  refine pfX13_141 h (by decide : kd 103 = 11) dX13_game_2 ?_
  refine g_nmM hf (fun M1 hf => ?_)
  refine g_aload_n h 0 rfl dX13_game_5 ?_
  refine g_iload_n h 1 rfl dX13_game_6 ?_
  obtain ⟨v2, M3, hq, hf⟩ := b2_some hf
  refine g_callVwi (As := [.int x1]) (rest := []) h ceX13_isDeed mlX13_411 imX13_isDeed seX13_isDeed (by rfl) (kd_lt (by rw [(by decide : kd 103 = 11)]; decide)) (ent_11 (by decide : kd 103 = 11)) rfl rfl ⟨by decide, by decide⟩ ⟨by decide, by decide⟩ rfl dX13_game_7 rfl (Nat.le_of_ble_eq_true rfl) (cmX13_isDeed hq) ?_
  refine g_if_eq h 48 (by decide) hf dX13_game_10 (fun hf => ?_) (fun hf => ?_)
  · refine g_iconst h 0 (v := 0) (by decide) dX13_game_48 ?_
    cases hf
    exact g_iret h rfl ⟨rfl, rfl⟩ (Nat.le_refl _) (Nat.le_refl _) dX13_game_49
  · refine g_aload_n h 0 rfl dX13_game_13 ?_
    refine g_iload_n h 2 rfl dX13_game_14 ?_
    obtain ⟨v4, M5, hq, hf⟩ := b2_some hf
    refine g_callVwi (As := [.int x2]) (rest := []) h ceX13_isDeed mlX13_411 imX13_isDeed seX13_isDeed (by rfl) (kd_lt (by rw [(by decide : kd 103 = 11)]; decide)) (ent_11 (by decide : kd 103 = 11)) rfl rfl ⟨by decide, by decide⟩ ⟨by decide, by decide⟩ rfl dX13_game_15 rfl (Nat.le_of_ble_eq_true rfl) (cmX13_isDeed hq) ?_
    refine g_if_eq h 48 (by decide) hf dX13_game_18 (fun hf => ?_) (fun hf => ?_)
    · refine g_iconst h 0 (v := 0) (by decide) dX13_game_48 ?_
      cases hf
      exact g_iret h rfl ⟨rfl, rfl⟩ (Nat.le_refl _) (Nat.le_refl _) dX13_game_49
    · refine g_aload_n h 0 rfl dX13_game_21 ?_
      refine g_iload_n h 3 rfl dX13_game_22 ?_
      refine g_iconst h 1 (v := 1) (by decide) dX13_game_23 ?_
      obtain ⟨v6, M7, hq, hf⟩ := b2_some hf
      refine g_callVwi (As := [.int x3, .int 1]) (rest := []) h ceX13_isWhat mlX13_414 imX13_isWhat seX13_isWhat (by rfl) (kd_lt (by rw [(by decide : kd 103 = 11)]; decide)) (ent_11 (by decide : kd 103 = 11)) rfl rfl ⟨by decide, by decide⟩ ⟨by decide, by decide⟩ rfl dX13_game_24 rfl (Nat.le_of_ble_eq_true rfl) (cmX13_isWhat hq) ?_
      refine g_if_eq h 48 (by decide) hf dX13_game_27 (fun hf => ?_) (fun hf => ?_)
      · refine g_iconst h 0 (v := 0) (by decide) dX13_game_48 ?_
        cases hf
        exact g_iret h rfl ⟨rfl, rfl⟩ (Nat.le_refl _) (Nat.le_refl _) dX13_game_49
      · refine g_aload_n h 0 rfl dX13_game_30 ?_
        refine g_iload_n h 1 rfl dX13_game_31 ?_
        refine g_iload_n h 2 rfl dX13_game_32 ?_
        refine g_ic_eq h 40 (by decide) hf dX13_game_33 (fun hf => ?_) (fun hf => ?_)
        · refine g_iconst h 0 (v := 0) (by decide) dX13_game_40 ?_
          refine g_sub [0, 1, 2, 3] rfl ?_
          exact kX13_game_b41 h hf
        · refine g_iconst h 1 (v := 1) (by decide) dX13_game_36 ?_
          refine g_goto h 41 (by decide) dX13_game_37 ?_
          refine g_sub [0, 1, 2, 3] rfl ?_
          exact kX13_game_b41 h hf

theorem cmX13_game {l : Launch} {w : WX} {M : Mem} {x1 : Int32} {x2 : Int32} {x3 : Int32} {res : (Int32 × Mem)} (hf : fX13_game M x1 x2 x3 = some res) : CM l w yX13_game cX13_game 11 (some .int) { frames := 8, cells := 0, slots := 0, locals := 192 } 0 0 [rv w 103, .int x1, .int x2, .int x3] M (Pwi res) := by
  refine CM_of (by decide) (by decide) (fun G hw hl h => ?_)
  subst hw
  exact kX13_game_e0 h hf

-- X13_gift
theorem kX13_gift_b35 {G : GX} (h : OKm G cX13_gift RX13 3 (some .int) { frames := 2, cells := 0, slots := 0, locals := 43 }) {M : Mem} {res : (Int32 × Mem)} (hf : fX13_gift_b35 M = some res) : GG G (Qm G (Pwi res) 0 0) 0 0 35 [(0, rv G.1 103)] [] M := by
  unfold fX13_gift_b35 at hf
  refine g_aload_n h 0 rfl dX13_gift_35 ?_
  refine g_iconst h 1 (v := 1) (by decide) dX13_gift_36 ?_
  obtain ⟨v5, M6, hq, hf⟩ := b2_some hf
  refine g_callVwi (As := [.int 1]) (rest := []) h ceX13_refuses mlX13_423 imX13_refuses seX13_refuses (by rfl) (kd_lt (by rw [(by decide : kd 103 = 11)]; decide)) (ent_11 (by decide : kd 103 = 11)) rfl rfl ⟨by decide, by decide⟩ ⟨by decide, by decide⟩ rfl dX13_gift_37 rfl (Nat.le_of_ble_eq_true rfl) (cmX13_refuses hq) ?_
  cases hf
  exact g_iret h rfl ⟨rfl, rfl⟩ (Nat.le_refl _) (Nat.le_refl _) dX13_gift_40

theorem kX13_gift_b89 {G : GX} (h : OKm G cX13_gift RX13 3 (some .int) { frames := 2, cells := 0, slots := 0, locals := 43 }) {M : Mem} {x1 : Int32} {s0 : Int32} {s1 : Int32} {s2 : Int32} {res : (Int32 × Mem)} (hf : fX13_gift_b89 M x1 s0 s1 s2 = some res) : GG G (Qm G (Pwi res) 0 0) 0 0 89 [(0, rv G.1 103), (1, .int x1)] [.int s0, .int s1, .int s2, rv G.1 133] M := by
  unfold fX13_gift_b89 at hf
  refine g_iadd h dX13_gift_89 ?_
  refine g_bipush h (-9) (v := (-9)) (by decide) dX13_gift_90 ?_
  refine g_bipush h 9 (v := 9) (by decide) dX13_gift_92 ?_
  obtain ⟨v13, hq, hf⟩ := bd_some hf
  refine g_callSri (As := [.int (s1 + s0), .int (-9), .int 9]) (rest := [.int s2, rv G.1 133]) h ceX13_kept mlX13_381 smX13_kept rfl rfl ⟨by decide, by decide⟩ ⟨by decide, by decide⟩ rfl dX13_gift_94 rfl (Nat.le_of_ble_eq_true rfl) (cmX13_kept hq) ?_
  refine g_iast h 186 (by decide : kd 133 = 20) (by decide) hf dX13_gift_97 (fun M14 hf => ?_)
  refine g_aload_n h 0 rfl dX13_gift_98 ?_
  refine gfX13_108 h (by decide : kd 103 = 11) dX13_gift_99 ?_
  refine g_bipush h 25 (v := 25) (by decide) dX13_gift_102 ?_
  refine g_iload_n h 1 rfl dX13_gift_104 ?_
  refine g_iadd h dX13_gift_105 ?_
  refine g_iald h 186 (by decide : kd 133 = 20) (by decide) hf dX13_gift_106 (fun v15 hf => ?_)
  cases hf
  exact g_iret h rfl ⟨rfl, rfl⟩ (Nat.le_refl _) (Nat.le_refl _) dX13_gift_107

theorem kX13_gift_e0 {G : GX} (h : OKm G cX13_gift RX13 3 (some .int) { frames := 2, cells := 0, slots := 0, locals := 43 }) {M : Mem} {x1 : Int32} {x2 : Int32} {res : (Int32 × Mem)} (hf : fX13_gift M x1 x2 = some res) : GG G (Qm G (Pwi res) 0 0) 0 0 0 [(0, rv G.1 103), (1, .int x1), (2, .int x2)] [] M := by
  unfold fX13_gift at hf
  refine g_aload_n h 0 rfl dX13_gift_0 ?_
  refine g_iconst h 0 (v := 0) (by decide) dX13_gift_1 ?_
  refine pfX13_141 h (by decide : kd 103 = 11) dX13_gift_2 ?_
  refine g_nmM hf (fun M1 hf => ?_)
  refine g_aload_n h 0 rfl dX13_gift_5 ?_
  refine g_iload_n h 1 rfl dX13_gift_6 ?_
  obtain ⟨v2, M3, hq, hf⟩ := b2_some hf
  refine g_callVwi (As := [.int x1]) (rest := []) h ceX13_isFriend mlX13_420 imX13_isFriend seX13_isFriend (by rfl) (kd_lt (by rw [(by decide : kd 103 = 11)]; decide)) (ent_11 (by decide : kd 103 = 11)) rfl rfl ⟨by decide, by decide⟩ ⟨by decide, by decide⟩ rfl dX13_gift_7 rfl (Nat.le_of_ble_eq_true rfl) (cmX13_isFriend hq) ?_
  refine g_if_ne h 15 (by decide) hf dX13_gift_10 (fun hf => ?_) (fun hf => ?_)
  · refine g_iload_n h 2 rfl dX13_gift_15 ?_
    refine g_iconst h 1 (v := 1) (by decide) dX13_gift_16 ?_
    refine g_bipush h 9 (v := 9) (by decide) dX13_gift_17 ?_
    obtain ⟨v4, hq, hf⟩ := bd_some hf
    refine g_callSri (As := [.int x2, .int 1, .int 9]) (rest := []) h ceX13_within mlX13_407 smX13_within rfl rfl ⟨by decide, by decide⟩ ⟨by decide, by decide⟩ rfl dX13_gift_19 rfl (Nat.le_of_ble_eq_true rfl) (cmX13_within hq) ?_
    refine g_if_eq h 35 (by decide) hf dX13_gift_22 (fun hf => ?_) (fun hf => ?_)
    · refine g_sub [0] rfl ?_
      exact kX13_gift_b35 h hf
    · refine g_iload_n h 2 rfl dX13_gift_25 ?_
      refine g_aload_n h 0 rfl dX13_gift_26 ?_
      refine gfX13_108 h (by decide : kd 103 = 11) dX13_gift_27 ?_
      refine g_iconst h 0 (v := 0) (by decide) dX13_gift_30 ?_
      refine g_iald h 186 (by decide : kd 133 = 20) (by decide) hf dX13_gift_31 (fun v7 hf => ?_)
      refine g_ic_le h 41 (by decide) hf dX13_gift_32 (fun hf => ?_) (fun hf => ?_)
      · refine g_aload_n h 0 rfl dX13_gift_41 ?_
        obtain ⟨M8, hq, hf⟩ := bd_some hf
        refine g_callVwv (As := []) (rest := []) h ceX13_keeps mlX13_426 imX13_keeps seX13_keeps (by rfl) (kd_lt (by rw [(by decide : kd 103 = 11)]; decide)) (ent_11 (by decide : kd 103 = 11)) rfl rfl ⟨by decide, by decide⟩ ⟨by decide, by decide⟩ rfl dX13_gift_42 rfl (Nat.le_of_ble_eq_true rfl) (cmX13_keeps hq) ?_
        refine g_aload_n h 0 rfl dX13_gift_45 ?_
        refine gfX13_108 h (by decide : kd 103 = 11) dX13_gift_46 ?_
        refine g_iconst h 0 (v := 0) (by decide) dX13_gift_49 ?_
        refine g_dup2 h rfl rfl dX13_gift_50 ?_
        refine g_iald h 186 (by decide : kd 133 = 20) (by decide) hf dX13_gift_51 (fun v9 hf => ?_)
        refine g_iload_n h 2 rfl dX13_gift_52 ?_
        refine g_isub h dX13_gift_53 ?_
        refine g_iast h 186 (by decide : kd 133 = 20) (by decide) hf dX13_gift_54 (fun M10 hf => ?_)
        refine g_aload_n h 0 rfl dX13_gift_55 ?_
        refine gfX13_108 h (by decide : kd 103 = 11) dX13_gift_56 ?_
        refine g_bipush h 25 (v := 25) (by decide) dX13_gift_59 ?_
        refine g_iload_n h 1 rfl dX13_gift_61 ?_
        refine g_iadd h dX13_gift_62 ?_
        refine g_aload_n h 0 rfl dX13_gift_63 ?_
        refine gfX13_108 h (by decide : kd 103 = 11) dX13_gift_64 ?_
        refine g_bipush h 25 (v := 25) (by decide) dX13_gift_67 ?_
        refine g_iload_n h 1 rfl dX13_gift_69 ?_
        refine g_iadd h dX13_gift_70 ?_
        refine g_iald h 186 (by decide : kd 133 = 20) (by decide) hf dX13_gift_71 (fun v11 hf => ?_)
        refine g_aload_n h 0 rfl dX13_gift_72 ?_
        refine gfX13_108 h (by decide : kd 103 = 11) dX13_gift_73 ?_
        refine g_iconst h 4 (v := 4) (by decide) dX13_gift_76 ?_
        refine g_iald h 186 (by decide : kd 133 = 20) (by decide) hf dX13_gift_77 (fun v12 hf => ?_)
        refine g_iconst h 1 (v := 1) (by decide) dX13_gift_78 ?_
        refine g_ic_ne h 86 (by decide) hf dX13_gift_79 (fun hf => ?_) (fun hf => ?_)
        · refine g_iconst h 0 (v := 0) (by decide) dX13_gift_86 ?_
          refine g_iload_n h 2 rfl dX13_gift_87 ?_
          refine g_isub h dX13_gift_88 ?_
          refine g_sub [0, 1] rfl ?_
          exact kX13_gift_b89 h hf
        · refine g_iload_n h 2 rfl dX13_gift_82 ?_
          refine g_goto h 89 (by decide) dX13_gift_83 ?_
          refine g_sub [0, 1] rfl ?_
          exact kX13_gift_b89 h hf
      · refine g_sub [0] rfl ?_
        exact kX13_gift_b35 h hf
  · refine g_iconst h 0 (v := 0) (by decide) dX13_gift_13 ?_
    cases hf
    exact g_iret h rfl ⟨rfl, rfl⟩ (Nat.le_refl _) (Nat.le_refl _) dX13_gift_14

theorem cmX13_gift {l : Launch} {w : WX} {M : Mem} {x1 : Int32} {x2 : Int32} {res : (Int32 × Mem)} (hf : fX13_gift M x1 x2 = some res) : CM l w yX13_gift cX13_gift 3 (some .int) { frames := 2, cells := 0, slots := 0, locals := 43 } 0 0 [rv w 103, .int x1, .int x2] M (Pwi res) := by
  refine CM_of (by decide) (by decide) (fun G hw hl h => ?_)
  subst hw
  exact kX13_gift_e0 h hf

-- X13_gloryIn
theorem kX13_gloryIn_e0 {G : GX} (h : OKm G cX13_gloryIn RX13 2 (some .int) { frames := 9, cells := 0, slots := 0, locals := 211 }) {M : Mem} {x1 : Int32} {res : (Int32 × Mem)} (hf : fX13_gloryIn M x1 = some res) : GG G (Qm G (Pwi res) 0 0) 0 0 0 [(0, rv G.1 103), (1, .int x1)] [] M := by
  unfold fX13_gloryIn at hf
  refine g_aload_n h 0 rfl dX13_gloryIn_0 ?_
  refine g_iconst h 0 (v := 0) (by decide) dX13_gloryIn_1 ?_
  refine g_bipush h 31 (v := 31) (by decide) dX13_gloryIn_2 ?_
  obtain ⟨M1, hq, hf⟩ := bd_some hf
  refine g_callVwv (As := [.int 0, .int 31]) (rest := []) h ceX13_lays0 mlX13_432 imX13_lays0 seX13_lays0 (by rfl) (kd_lt (by rw [(by decide : kd 103 = 11)]; decide)) (ent_11 (by decide : kd 103 = 11)) rfl rfl ⟨by decide, by decide⟩ ⟨by decide, by decide⟩ rfl dX13_gloryIn_4 rfl (Nat.le_of_ble_eq_true rfl) (cmX13_lays0 hq) ?_
  refine g_aload_n h 0 rfl dX13_gloryIn_7 ?_
  refine g_bipush h 31 (v := 31) (by decide) dX13_gloryIn_8 ?_
  refine g_bipush h 30 (v := 30) (by decide) dX13_gloryIn_10 ?_
  obtain ⟨M2, hq, hf⟩ := bd_some hf
  refine g_callVwv (As := [.int 31, .int 30]) (rest := []) h ceX13_goesYears mlX13_429 imX13_goesYears seX13_goesYears (by rfl) (kd_lt (by rw [(by decide : kd 103 = 11)]; decide)) (ent_11 (by decide : kd 103 = 11)) rfl rfl ⟨by decide, by decide⟩ ⟨by decide, by decide⟩ rfl dX13_gloryIn_12 rfl (Nat.le_of_ble_eq_true rfl) (cmX13_goesYears hq) ?_
  refine g_aload_n h 0 rfl dX13_gloryIn_15 ?_
  refine gfX13_108 h (by decide : kd 103 = 11) dX13_gloryIn_16 ?_
  refine g_bipush h 37 (v := 37) (by decide) dX13_gloryIn_19 ?_
  refine g_iload_n h 1 rfl dX13_gloryIn_21 ?_
  refine g_iadd h dX13_gloryIn_22 ?_
  refine g_iald h 186 (by decide : kd 133 = 20) (by decide) hf dX13_gloryIn_23 (fun v3 hf => ?_)
  cases hf
  exact g_iret h rfl ⟨rfl, rfl⟩ (Nat.le_refl _) (Nat.le_refl _) dX13_gloryIn_24

theorem cmX13_gloryIn {l : Launch} {w : WX} {M : Mem} {x1 : Int32} {res : (Int32 × Mem)} (hf : fX13_gloryIn M x1 = some res) : CM l w yX13_gloryIn cX13_gloryIn 2 (some .int) { frames := 9, cells := 0, slots := 0, locals := 211 } 0 0 [rv w 103, .int x1] M (Pwi res) := by
  refine CM_of (by decide) (by decide) (fun G hw hl h => ?_)
  subst hw
  exact kX13_gloryIn_e0 h hf

-- X13_guarded
theorem kX13_guarded_b95 {G : GX} (h : OKm G cX13_guarded RX13 5 (some .int) { frames := 1, cells := 0, slots := 0, locals := 22 }) {a36 : Mem → Int32 → Int32 → Int32 → Option (Int32 × Mem)} (ha36 : ∀ (M : Mem) (x1 : Int32) (x2 : Int32) (x3 : Int32) (res : (Int32 × Mem)), a36 M x1 x2 x3 = some res → GG G (Qm G (Pwi res) 0 0) 0 0 36 [(0, rv G.1 103), (1, .int x1), (2, .int x2), (3, .int x3)] [] M) {M : Mem} {x1 : Int32} {x3 : Int32} {s0 : Int32} {res : (Int32 × Mem)} (hf : fX13_guarded_b95 a36 M x1 x3 s0 = some res) : GG G (Qm G (Pwi res) 0 0) 0 0 95 [(0, rv G.1 103), (1, .int x1), (3, .int x3)] [.int s0] M := by
  unfold fX13_guarded_b95 at hf
  refine g_istore_n h rfl [(2, .int s0), (0, rv G.1 103), (1, .int x1), (3, .int x3)] (by decide) rfl dX13_guarded_95 ?_
  refine g_iinc h 3 3 rfl (v := x3 + 1) rfl [(3, .int (x3 + 1)), (2, .int s0), (0, rv G.1 103), (1, .int x1)] (by decide) rfl dX13_guarded_96 ?_
  refine g_nmV hf (fun v10 hf => ?_)
  refine g_goto h 36 (by decide) dX13_guarded_99 ?_
  refine g_sub [2, 3, 1, 0] rfl ?_
  exact ha36 _ _ _ _ _ hf

theorem kX13_guarded_b70 {G : GX} (h : OKm G cX13_guarded RX13 5 (some .int) { frames := 1, cells := 0, slots := 0, locals := 22 }) {a36 : Mem → Int32 → Int32 → Int32 → Option (Int32 × Mem)} (ha36 : ∀ (M : Mem) (x1 : Int32) (x2 : Int32) (x3 : Int32) (res : (Int32 × Mem)), a36 M x1 x2 x3 = some res → GG G (Qm G (Pwi res) 0 0) 0 0 36 [(0, rv G.1 103), (1, .int x1), (2, .int x2), (3, .int x3)] [] M) {M : Mem} {x1 : Int32} {x2 : Int32} {x3 : Int32} {s0 : Int32} {s1 : Int32} {res : (Int32 × Mem)} (hf : fX13_guarded_b70 a36 M x1 x2 x3 s0 s1 = some res) : GG G (Qm G (Pwi res) 0 0) 0 0 70 [(0, rv G.1 103), (1, .int x1), (2, .int x2), (3, .int x3)] [.int s0, .int s1] M := by
  unfold fX13_guarded_b70 at hf
  refine g_iadd h dX13_guarded_70 ?_
  refine g_aload_n h 0 rfl dX13_guarded_71 ?_
  refine gfX13_108 h (by decide : kd 103 = 11) dX13_guarded_72 ?_
  refine g_iconst h 1 (v := 1) (by decide) dX13_guarded_75 ?_
  refine g_iald h 186 (by decide : kd 133 = 20) (by decide) hf dX13_guarded_76 (fun v8 hf => ?_)
  refine g_bipush h 10 (v := 10) (by decide) dX13_guarded_77 ?_
  refine g_idiv h (by decide) dX13_guarded_79 ?_
  refine g_isub h dX13_guarded_80 ?_
  refine g_nmI hf (fun v9 hf => ?_)
  refine g_istore h [(4, .int v9), (0, rv G.1 103), (1, .int x1), (2, .int x2), (3, .int x3)] (by decide) rfl dX13_guarded_81 ?_
  refine g_iload h 0 rfl dX13_guarded_83 ?_
  refine g_iload_n h 3 rfl dX13_guarded_85 ?_
  refine g_ic_le h 94 (by decide) hf dX13_guarded_86 (fun hf => ?_) (fun hf => ?_)
  · refine g_iload_n h 3 rfl dX13_guarded_94 ?_
    refine g_sub [1, 2, 4] rfl ?_
    exact kX13_guarded_b95 h ha36 hf
  · refine g_iload h 0 rfl dX13_guarded_89 ?_
    refine g_goto h 95 (by decide) dX13_guarded_91 ?_
    refine g_sub [1, 2, 4] rfl ?_
    exact kX13_guarded_b95 h ha36 hf

theorem kX13_guarded_l36 {G : GX} (h : OKm G cX13_guarded RX13 5 (some .int) { frames := 1, cells := 0, slots := 0, locals := 22 }) : ∀ (n : Nat) (M : Mem) (x1 : Int32) (x2 : Int32) (x3 : Int32) (res : (Int32 × Mem)), fX13_guarded_l36 n M x1 x2 x3 = some res → GG G (Qm G (Pwi res) 0 0) 0 0 36 [(0, rv G.1 103), (1, .int x1), (2, .int x2), (3, .int x3)] [] M := by
  intro n
  induction n with
  | zero => intro M x1 x2 x3 res hf; rw [fX13_guarded_l36] at hf; cases hf
  | succ n ih =>
    intro M x1 x2 x3 res hf
    rw [fX13_guarded_l36] at hf
    refine g_iload_n h 3 rfl dX13_guarded_36 ?_
    refine g_aload_n h 0 rfl dX13_guarded_37 ?_
    refine gfX13_342 h (by decide : kd 103 = 11) dX13_guarded_38 ?_
    refine g_nmI hf (fun v4 hf => ?_)
    refine g_ic_ge h 102 (by decide) hf dX13_guarded_41 (fun hf => ?_) (fun hf => ?_)
    · refine g_iload_n h 2 rfl dX13_guarded_102 ?_
      cases hf
      exact g_iret h rfl ⟨rfl, rfl⟩ (Nat.le_refl _) (Nat.le_refl _) dX13_guarded_103
    · refine g_aload_n h 0 rfl dX13_guarded_44 ?_
      refine gfX13_38 h (by decide : kd 103 = 11) dX13_guarded_45 ?_
      refine g_iload_n h 3 rfl dX13_guarded_48 ?_
      refine g_iald h 7 (by decide : kd 111 = 20) (by decide) hf dX13_guarded_49 (fun v5 hf => ?_)
      refine g_aload_n h 0 rfl dX13_guarded_50 ?_
      refine gfX13_41 h (by decide : kd 103 = 11) dX13_guarded_51 ?_
      refine g_iload_n h 3 rfl dX13_guarded_54 ?_
      refine g_iald h 7 (by decide : kd 112 = 20) (by decide) hf dX13_guarded_55 (fun v6 hf => ?_)
      refine g_aload_n h 0 rfl dX13_guarded_56 ?_
      refine gfX13_47 h (by decide : kd 103 = 11) dX13_guarded_57 ?_
      refine g_iload_n h 1 rfl dX13_guarded_60 ?_
      refine g_iald h 7 (by decide : kd 114 = 20) (by decide) hf dX13_guarded_61 (fun v7 hf => ?_)
      refine g_ic_ne h 69 (by decide) hf dX13_guarded_62 (fun hf => ?_) (fun hf => ?_)
      · refine g_iconst h 0 (v := 0) (by decide) dX13_guarded_69 ?_
        refine g_sub [0, 1, 2, 3] rfl ?_
        exact kX13_guarded_b70 h ih hf
      · refine g_iconst h 5 (v := 5) (by decide) dX13_guarded_65 ?_
        refine g_goto h 70 (by decide) dX13_guarded_66 ?_
        refine g_sub [0, 1, 2, 3] rfl ?_
        exact kX13_guarded_b70 h ih hf

theorem kX13_guarded_b23 {G : GX} (h : OKm G cX13_guarded RX13 5 (some .int) { frames := 1, cells := 0, slots := 0, locals := 22 }) {M : Mem} {x1 : Int32} {s0 : Int32} {res : (Int32 × Mem)} (hf : fX13_guarded_b23 M x1 s0 = some res) : GG G (Qm G (Pwi res) 0 0) 0 0 23 [(0, rv G.1 103), (1, .int x1)] [.int s0, rv G.1 103] M := by
  unfold fX13_guarded_b23 at hf
  refine g_iconst h 1 (v := 1) (by decide) dX13_guarded_23 ?_
  obtain ⟨v2, M3, hq, hf⟩ := b2_some hf
  refine g_callVwi (As := [.int s0, .int 1]) (rest := []) h ceX13_right mlX13_326 imX13_right seX13_right (by rfl) (kd_lt (by rw [(by decide : kd 103 = 11)]; decide)) (ent_11 (by decide : kd 103 = 11)) rfl rfl ⟨by decide, by decide⟩ ⟨by decide, by decide⟩ rfl dX13_guarded_24 rfl (Nat.le_of_ble_eq_true rfl) (cmX13_right hq) ?_
  refine g_if_ne h 32 (by decide) hf dX13_guarded_27 (fun hf => ?_) (fun hf => ?_)
  · refine g_iconst h 0 (v := 0) (by decide) dX13_guarded_32 ?_
    refine g_istore_n h rfl [(2, .int 0), (0, rv G.1 103), (1, .int x1)] (by decide) rfl dX13_guarded_33 ?_
    refine g_iconst h 0 (v := 0) (by decide) dX13_guarded_34 ?_
    refine g_istore_n h rfl [(3, .int 0), (2, .int 0), (0, rv G.1 103), (1, .int x1)] (by decide) rfl dX13_guarded_35 ?_
    refine g_sub [2, 3, 1, 0] rfl ?_
    exact kX13_guarded_l36 h _ _ _ _ _ _ hf
  · refine g_iconst h 0 (v := 0) (by decide) dX13_guarded_30 ?_
    cases hf
    exact g_iret h rfl ⟨rfl, rfl⟩ (Nat.le_refl _) (Nat.le_refl _) dX13_guarded_31

theorem kX13_guarded_b22 {G : GX} (h : OKm G cX13_guarded RX13 5 (some .int) { frames := 1, cells := 0, slots := 0, locals := 22 }) {M : Mem} {x1 : Int32} {res : (Int32 × Mem)} (hf : fX13_guarded_b22 M x1 = some res) : GG G (Qm G (Pwi res) 0 0) 0 0 22 [(0, rv G.1 103), (1, .int x1)] [rv G.1 103] M := by
  unfold fX13_guarded_b22 at hf
  refine g_iconst h 0 (v := 0) (by decide) dX13_guarded_22 ?_
  refine g_sub [0, 1] rfl ?_
  exact kX13_guarded_b23 h hf

theorem kX13_guarded_e0 {G : GX} (h : OKm G cX13_guarded RX13 5 (some .int) { frames := 1, cells := 0, slots := 0, locals := 22 }) {M : Mem} {x1 : Int32} {res : (Int32 × Mem)} (hf : fX13_guarded M x1 = some res) : GG G (Qm G (Pwi res) 0 0) 0 0 0 [(0, rv G.1 103), (1, .int x1)] [] M := by
  unfold fX13_guarded at hf
  refine g_aload_n h 0 rfl dX13_guarded_0 ?_
  refine g_iconst h 0 (v := 0) (by decide) dX13_guarded_1 ?_
  refine pfX13_141 h (by decide : kd 103 = 11) dX13_guarded_2 ?_
  refine g_nmM hf (fun M1 hf => ?_)
  refine g_aload_n h 0 rfl dX13_guarded_5 ?_
  refine g_iload_n h 1 rfl dX13_guarded_6 ?_
  refine g_if_lt h 22 (by decide) hf dX13_guarded_7 (fun hf => ?_) (fun hf => ?_)
  · refine g_sub [0, 1] rfl ?_
    exact kX13_guarded_b22 h hf
  · refine g_iload_n h 1 rfl dX13_guarded_10 ?_
    refine g_aload_n h 0 rfl dX13_guarded_11 ?_
    refine gfX13_345 h (by decide : kd 103 = 11) dX13_guarded_12 ?_
    refine g_nmI hf (fun v11 hf => ?_)
    refine g_ic_ge h 22 (by decide) hf dX13_guarded_15 (fun hf => ?_) (fun hf => ?_)
    · refine g_sub [0, 1] rfl ?_
      exact kX13_guarded_b22 h hf
    · refine g_iconst h 1 (v := 1) (by decide) dX13_guarded_18 ?_
      refine g_goto h 23 (by decide) dX13_guarded_19 ?_
      refine g_sub [0, 1] rfl ?_
      exact kX13_guarded_b23 h hf

theorem cmX13_guarded {l : Launch} {w : WX} {M : Mem} {x1 : Int32} {res : (Int32 × Mem)} (hf : fX13_guarded M x1 = some res) : CM l w yX13_guarded cX13_guarded 5 (some .int) { frames := 1, cells := 0, slots := 0, locals := 22 } 0 0 [rv w 103, .int x1] M (Pwi res) := by
  refine CM_of (by decide) (by decide) (fun G hw hl h => ?_)
  subst hw
  exact kX13_guarded_e0 h hf

-- X13_highest
theorem kX13_highest_b75 {G : GX} (h : OKm G cX13_highest RX13 5 (some .int) { frames := 8, cells := 0, slots := 0, locals := 188 }) {a35 : Mem → Int32 → Int32 → Int32 → Int32 → Option (Int32 × Mem)} (ha35 : ∀ (M : Mem) (x1 : Int32) (x2 : Int32) (x3 : Int32) (x4 : Int32) (res : (Int32 × Mem)), a35 M x1 x2 x3 x4 = some res → GG G (Qm G (Pwi res) 0 0) 0 0 35 [(0, rv G.1 103), (1, .int x1), (2, .int x2), (3, .int x3), (4, .int x4)] [] M) {M : Mem} {x1 : Int32} {x2 : Int32} {x3 : Int32} {x4 : Int32} {res : (Int32 × Mem)} (hf : fX13_highest_b75 a35 M x1 x2 x3 x4 = some res) : GG G (Qm G (Pwi res) 0 0) 0 0 75 [(0, rv G.1 103), (1, .int x1), (2, .int x2), (3, .int x3), (4, .int x4)] [] M := by
  unfold fX13_highest_b75 at hf
  refine g_iinc h 4 4 rfl (v := x4 + 1) rfl [(4, .int (x4 + 1)), (0, rv G.1 103), (1, .int x1), (2, .int x2), (3, .int x3)] (by decide) rfl dX13_highest_75 ?_
  refine g_nmV hf (fun v9 hf => ?_)
  refine g_goto h 35 (by decide) dX13_highest_78 ?_
  refine g_sub [1, 2, 3, 4, 0] rfl ?_
  exact ha35 _ _ _ _ _ _ hf

theorem kX13_highest_l35 {G : GX} (h : OKm G cX13_highest RX13 5 (some .int) { frames := 8, cells := 0, slots := 0, locals := 188 }) : ∀ (n : Nat) (M : Mem) (x1 : Int32) (x2 : Int32) (x3 : Int32) (x4 : Int32) (res : (Int32 × Mem)), fX13_highest_l35 n M x1 x2 x3 x4 = some res → GG G (Qm G (Pwi res) 0 0) 0 0 35 [(0, rv G.1 103), (1, .int x1), (2, .int x2), (3, .int x3), (4, .int x4)] [] M := by
  intro n
  induction n with
  | zero => intro M x1 x2 x3 x4 res hf; rw [fX13_highest_l35] at hf; cases hf
  | succ n ih =>
    intro M x1 x2 x3 x4 res hf
    rw [fX13_highest_l35] at hf
    refine g_iload h 4 rfl dX13_highest_35 ?_
    refine g_bipush h 60 (v := 60) (by decide) dX13_highest_37 ?_
    refine g_ic_gt h 81 (by decide) hf dX13_highest_39 (fun hf => ?_) (fun hf => ?_)
    · refine g_iload_n h 1 rfl dX13_highest_81 ?_
      refine g_if_ne h 89 (by decide) hf dX13_highest_82 (fun hf => ?_) (fun hf => ?_)
      · refine g_iload_n h 3 rfl dX13_highest_89 ?_
        cases hf
        exact g_iret h rfl ⟨rfl, rfl⟩ (Nat.le_refl _) (Nat.le_refl _) dX13_highest_90
      · refine g_iload_n h 2 rfl dX13_highest_85 ?_
        refine g_goto h 90 (by decide) dX13_highest_86 ?_
        cases hf
        exact g_iret h rfl ⟨rfl, rfl⟩ (Nat.le_refl _) (Nat.le_refl _) dX13_highest_90
    · refine g_aload_n h 0 rfl dX13_highest_42 ?_
      refine g_bipush h 31 (v := 31) (by decide) dX13_highest_43 ?_
      refine g_bipush h (-2) (v := (-2)) (by decide) dX13_highest_45 ?_
      obtain ⟨M6, hq, hf⟩ := bd_some hf
      refine g_callVwv (As := [.int 31, .int (-2)]) (rest := []) h ceX13_goesBy mlX13_404 imX13_goesBy seX13_goesBy (by rfl) (kd_lt (by rw [(by decide : kd 103 = 11)]; decide)) (ent_11 (by decide : kd 103 = 11)) rfl rfl ⟨by decide, by decide⟩ ⟨by decide, by decide⟩ rfl dX13_highest_47 rfl (Nat.le_of_ble_eq_true rfl) (cmX13_goesBy hq) ?_
      refine g_aload_n h 0 rfl dX13_highest_50 ?_
      refine gfX13_108 h (by decide : kd 103 = 11) dX13_highest_51 ?_
      refine g_bipush h 32 (v := 32) (by decide) dX13_highest_54 ?_
      refine g_iald h 186 (by decide : kd 133 = 20) (by decide) hf dX13_highest_56 (fun v7 hf => ?_)
      refine g_iload_n h 3 rfl dX13_highest_57 ?_
      refine g_ic_gt h 64 (by decide) hf dX13_highest_58 (fun hf => ?_) (fun hf => ?_)
      · refine g_iload h 4 rfl dX13_highest_64 ?_
        refine g_istore_n h rfl [(2, .int x4), (0, rv G.1 103), (1, .int x1), (3, .int x3), (4, .int x4)] (by decide) rfl dX13_highest_66 ?_
        refine g_aload_n h 1 rfl dX13_highest_67 ?_
        refine gfX13_108 h (by decide : kd 103 = 11) dX13_highest_68 ?_
        refine g_bipush h 32 (v := 32) (by decide) dX13_highest_71 ?_
        refine g_iald h 186 (by decide : kd 133 = 20) (by decide) hf dX13_highest_73 (fun v8 hf => ?_)
        refine g_istore_n h rfl [(3, .int v8), (2, .int x4), (0, rv G.1 103), (1, .int x1), (4, .int x4)] (by decide) rfl dX13_highest_74 ?_
        refine g_sub [2, 3, 1, 0, 4] rfl ?_
        exact kX13_highest_b75 h ih hf
      · refine g_goto h 75 (by decide) dX13_highest_61 ?_
        refine g_sub [0, 1, 2, 3, 4] rfl ?_
        exact kX13_highest_b75 h ih hf

theorem kX13_highest_e0 {G : GX} (h : OKm G cX13_highest RX13 5 (some .int) { frames := 8, cells := 0, slots := 0, locals := 188 }) {M : Mem} {x1 : Int32} {res : (Int32 × Mem)} (hf : fX13_highest M x1 = some res) : GG G (Qm G (Pwi res) 0 0) 0 0 0 [(0, rv G.1 103), (1, .int x1)] [] M := by
  unfold fX13_highest at hf
  refine g_aload_n h 0 rfl dX13_highest_0 ?_
  refine g_iconst h 0 (v := 0) (by decide) dX13_highest_1 ?_
  refine pfX13_141 h (by decide : kd 103 = 11) dX13_highest_2 ?_
  refine g_nmM hf (fun M1 hf => ?_)
  refine g_aload_n h 0 rfl dX13_highest_5 ?_
  refine g_iload_n h 1 rfl dX13_highest_6 ?_
  refine g_iconst h 1 (v := 1) (by decide) dX13_highest_7 ?_
  obtain ⟨v2, M3, hq, hf⟩ := b2_some hf
  refine g_callVwi (As := [.int x1, .int 1]) (rest := []) h ceX13_isWhat mlX13_414 imX13_isWhat seX13_isWhat (by rfl) (kd_lt (by rw [(by decide : kd 103 = 11)]; decide)) (ent_11 (by decide : kd 103 = 11)) rfl rfl ⟨by decide, by decide⟩ ⟨by decide, by decide⟩ rfl dX13_highest_8 rfl (Nat.le_of_ble_eq_true rfl) (cmX13_isWhat hq) ?_
  refine g_if_ne h 16 (by decide) hf dX13_highest_11 (fun hf => ?_) (fun hf => ?_)
  · refine g_aload_n h 0 rfl dX13_highest_16 ?_
    refine g_iconst h 0 (v := 0) (by decide) dX13_highest_17 ?_
    refine g_bipush h 31 (v := 31) (by decide) dX13_highest_18 ?_
    obtain ⟨M4, hq, hf⟩ := bd_some hf
    refine g_callVwv (As := [.int 0, .int 31]) (rest := []) h ceX13_lays0 mlX13_432 imX13_lays0 seX13_lays0 (by rfl) (kd_lt (by rw [(by decide : kd 103 = 11)]; decide)) (ent_11 (by decide : kd 103 = 11)) rfl rfl ⟨by decide, by decide⟩ ⟨by decide, by decide⟩ rfl dX13_highest_20 rfl (Nat.le_of_ble_eq_true rfl) (cmX13_lays0 hq) ?_
    refine g_iconst h 0 (v := 0) (by decide) dX13_highest_23 ?_
    refine g_istore_n h rfl [(2, .int 0), (0, rv G.1 103), (1, .int x1)] (by decide) rfl dX13_highest_24 ?_
    refine g_aload_n h 1 rfl dX13_highest_25 ?_
    refine gfX13_108 h (by decide : kd 103 = 11) dX13_highest_26 ?_
    refine g_iconst h 1 (v := 1) (by decide) dX13_highest_29 ?_
    refine g_iald h 186 (by decide : kd 133 = 20) (by decide) hf dX13_highest_30 (fun v5 hf => ?_)
    refine g_istore_n h rfl [(3, .int v5), (2, .int 0), (0, rv G.1 103), (1, .int x1)] (by decide) rfl dX13_highest_31 ?_
    refine g_iconst h 1 (v := 1) (by decide) dX13_highest_32 ?_
    refine g_istore h [(4, .int 1), (3, .int v5), (2, .int 0), (0, rv G.1 103), (1, .int x1)] (by decide) rfl dX13_highest_33 ?_
    refine g_sub [3, 4, 2, 1, 0] rfl ?_
    exact kX13_highest_l35 h _ _ _ _ _ _ _ hf
  · refine g_iconst h 0 (v := 0) (by decide) dX13_highest_14 ?_
    cases hf
    exact g_iret h rfl ⟨rfl, rfl⟩ (Nat.le_refl _) (Nat.le_refl _) dX13_highest_15

theorem cmX13_highest {l : Launch} {w : WX} {M : Mem} {x1 : Int32} {res : (Int32 × Mem)} (hf : fX13_highest M x1 = some res) : CM l w yX13_highest cX13_highest 5 (some .int) { frames := 8, cells := 0, slots := 0, locals := 188 } 0 0 [rv w 103, .int x1] M (Pwi res) := by
  refine CM_of (by decide) (by decide) (fun G hw hl h => ?_)
  subst hw
  exact kX13_highest_e0 h hf

-- X13_image
theorem kX13_image_l28 {G : GX} (h : OKm G cX13_image RX13 2 none { frames := 1, cells := 0, slots := 0, locals := 23 }) : ∀ (n : Nat) (M : Mem) (x1 : Int32) (res : Mem), fX13_image_l28 n M x1 = some res → GG G (Qm G (Pwv res) 0 0) 0 0 28 [(0, rv G.1 103), (1, .int x1)] [] M := by
  intro n
  induction n with
  | zero => intro M x1 res hf; rw [fX13_image_l28] at hf; cases hf
  | succ n ih =>
    intro M x1 res hf
    rw [fX13_image_l28] at hf
    refine g_iload_n h 1 rfl dX13_image_28 ?_
    refine g_bipush h 31 (v := 31) (by decide) dX13_image_29 ?_
    refine g_ic_ge h 52 (by decide) hf dX13_image_31 (fun hf => ?_) (fun hf => ?_)
    · refine g_aload_n h 0 rfl dX13_image_52 ?_
      refine g_aload_n h 0 rfl dX13_image_53 ?_
      refine gfX13_111 h (by decide : kd 103 = 11) dX13_image_54 ?_
      refine g_aload_n h 0 rfl dX13_image_57 ?_
      refine gfX13_135 h (by decide : kd 103 = 11) dX13_image_58 ?_
      obtain ⟨M7, hq, hf⟩ := bd_some hf
      refine g_callVwv (As := [rv G.1 134, rv G.1 142]) (rest := []) h ceX13_copies mlX13_348 imX13_copies seX13_copies (by rfl) (kd_lt (by rw [(by decide : kd 103 = 11)]; decide)) (ent_11 (by decide : kd 103 = 11)) rfl rfl ⟨by decide, by decide⟩ ⟨by decide, by decide⟩ rfl dX13_image_61 rfl (Nat.le_of_ble_eq_true rfl) (cmX13_copies hq) ?_
      refine g_aload_n h 0 rfl dX13_image_64 ?_
      refine g_aload_n h 0 rfl dX13_image_65 ?_
      refine gfX13_123 h (by decide : kd 103 = 11) dX13_image_66 ?_
      refine g_aload_n h 0 rfl dX13_image_69 ?_
      refine gfX13_138 h (by decide : kd 103 = 11) dX13_image_70 ?_
      obtain ⟨M8, hq, hf⟩ := bd_some hf
      refine g_callVwv (As := [rv G.1 138, rv G.1 143]) (rest := []) h ceX13_copies mlX13_348 imX13_copies seX13_copies (by rfl) (kd_lt (by rw [(by decide : kd 103 = 11)]; decide)) (ent_11 (by decide : kd 103 = 11)) rfl rfl ⟨by decide, by decide⟩ ⟨by decide, by decide⟩ rfl dX13_image_73 rfl (Nat.le_of_ble_eq_true rfl) (cmX13_copies hq) ?_
      cases hf
      exact g_vret h rfl ⟨rfl, rfl⟩ (Nat.le_refl _) (Nat.le_refl _) dX13_image_76
    · refine g_aload_n h 0 rfl dX13_image_34 ?_
      refine gfX13_132 h (by decide : kd 103 = 11) dX13_image_35 ?_
      refine g_iload_n h 1 rfl dX13_image_38 ?_
      refine g_aload_n h 0 rfl dX13_image_39 ?_
      refine gfX13_108 h (by decide : kd 103 = 11) dX13_image_40 ?_
      refine g_iload_n h 1 rfl dX13_image_43 ?_
      refine g_iald h 186 (by decide : kd 133 = 20) (by decide) hf dX13_image_44 (fun v9 hf => ?_)
      refine g_iast h 31 (by decide : kd 141 = 20) (by decide) hf dX13_image_45 (fun M10 hf => ?_)
      refine g_iinc h 1 1 rfl (v := x1 + 1) rfl [(1, .int (x1 + 1)), (0, rv G.1 103)] (by decide) rfl dX13_image_46 ?_
      refine g_nmV hf (fun v11 hf => ?_)
      refine g_goto h 28 (by decide) dX13_image_49 ?_
      refine g_sub [1, 0] rfl ?_
      exact ih _ _ _ hf

theorem kX13_image_e0 {G : GX} (h : OKm G cX13_image RX13 2 none { frames := 1, cells := 0, slots := 0, locals := 23 }) {M : Mem} {res : Mem} (hf : fX13_image M = some res) : GG G (Qm G (Pwv res) 0 0) 0 0 0 [(0, rv G.1 103)] [] M := by
  unfold fX13_image at hf
  refine g_aload_n h 0 rfl dX13_image_0 ?_
  refine g_iconst h 0 (v := 0) (by decide) dX13_image_1 ?_
  refine pfX13_141 h (by decide : kd 103 = 11) dX13_image_2 ?_
  refine g_nmM hf (fun M1 hf => ?_)
  refine g_aload_n h 0 rfl dX13_image_5 ?_
  refine g_iconst h 1 (v := 1) (by decide) dX13_image_6 ?_
  refine pfX13_358 h (by decide : kd 103 = 11) (by decide) dX13_image_7 ?_
  refine g_nmM hf (fun M2 hf => ?_)
  refine g_aload_n h 0 rfl dX13_image_10 ?_
  refine g_aload_n h 0 rfl dX13_image_11 ?_
  refine gfX13_352 h (by decide : kd 103 = 11) dX13_image_12 ?_
  refine g_nmI hf (fun v3 hf => ?_)
  refine pfX13_493 h (by decide : kd 103 = 11) dX13_image_15 ?_
  refine g_nmM hf (fun M4 hf => ?_)
  refine g_aload_n h 0 rfl dX13_image_18 ?_
  refine g_aload_n h 0 rfl dX13_image_19 ?_
  refine gfX13_355 h (by decide : kd 103 = 11) dX13_image_20 ?_
  refine g_nmI hf (fun v5 hf => ?_)
  refine pfX13_496 h (by decide : kd 103 = 11) dX13_image_23 ?_
  refine g_nmM hf (fun M6 hf => ?_)
  refine g_iconst h 0 (v := 0) (by decide) dX13_image_26 ?_
  refine g_istore_n h rfl [(1, .int 0), (0, rv G.1 103)] (by decide) rfl dX13_image_27 ?_
  refine g_sub [1, 0] rfl ?_
  exact kX13_image_l28 h _ _ _ _ hf

theorem cmX13_image {l : Launch} {w : WX} {M : Mem} {res : Mem} (hf : fX13_image M = some res) : CM l w yX13_image cX13_image 2 none { frames := 1, cells := 0, slots := 0, locals := 23 } 0 0 [rv w 103] M (Pwv res) := by
  refine CM_of (by decide) (by decide) (fun G hw hl h => ?_)
  subst hw
  exact kX13_image_e0 h hf

-- X13_isResting
theorem kX13_isResting_b85 {G : GX} (h : OKm G cX13_isResting RX13 6 (some .boolean) { frames := 0, cells := 0, slots := 0, locals := 0 }) {a2 : Mem → Int32 → Int32 → Option Int32} (ha2 : ∀ (M : Mem) (x1 : Int32) (x2 : Int32) (res : Int32), a2 M x1 x2 = some res → GG G (Qm G (Pri res M) 0 0) 0 0 2 [(0, rv G.1 103), (1, .int x1), (2, .int x2)] [] M) {a49 : Mem → Int32 → Int32 → Int32 → Int32 → Int32 → Option Int32} (ha49 : ∀ (M : Mem) (x1 : Int32) (x2 : Int32) (x3 : Int32) (x4 : Int32) (x5 : Int32) (res : Int32), a49 M x1 x2 x3 x4 x5 = some res → GG G (Qm G (Pri res M) 0 0) 0 0 49 [(0, rv G.1 103), (1, .int x1), (2, .int x2), (3, .int x3), (4, .int x4), (5, .int x5)] [] M) {M : Mem} {x1 : Int32} {x2 : Int32} {x3 : Int32} {x4 : Int32} {x5 : Int32} {res : Int32} (hf : fX13_isResting_b85 a2 a49 M x1 x2 x3 x4 x5 = some res) : GG G (Qm G (Pri res M) 0 0) 0 0 85 [(0, rv G.1 103), (1, .int x1), (2, .int x2), (3, .int x3), (4, .int x4), (5, .int x5)] [] M := by
  unfold fX13_isResting_b85 at hf
  refine g_iinc h 5 5 rfl (v := x5 + 1) rfl [(5, .int (x5 + 1)), (0, rv G.1 103), (1, .int x1), (2, .int x2), (3, .int x3), (4, .int x4)] (by decide) rfl dX13_isResting_85 ?_
  refine g_nmV hf (fun v6 hf => ?_)
  refine g_goto h 49 (by decide) dX13_isResting_88 ?_
  refine g_sub [1, 2, 3, 4, 5, 0] rfl ?_
  exact ha49 _ _ _ _ _ _ _ hf

theorem kX13_isResting_b82 {G : GX} (h : OKm G cX13_isResting RX13 6 (some .boolean) { frames := 0, cells := 0, slots := 0, locals := 0 }) {a2 : Mem → Int32 → Int32 → Option Int32} (ha2 : ∀ (M : Mem) (x1 : Int32) (x2 : Int32) (res : Int32), a2 M x1 x2 = some res → GG G (Qm G (Pri res M) 0 0) 0 0 2 [(0, rv G.1 103), (1, .int x1), (2, .int x2)] [] M) {a49 : Mem → Int32 → Int32 → Int32 → Int32 → Int32 → Option Int32} (ha49 : ∀ (M : Mem) (x1 : Int32) (x2 : Int32) (x3 : Int32) (x4 : Int32) (x5 : Int32) (res : Int32), a49 M x1 x2 x3 x4 x5 = some res → GG G (Qm G (Pri res M) 0 0) 0 0 49 [(0, rv G.1 103), (1, .int x1), (2, .int x2), (3, .int x3), (4, .int x4), (5, .int x5)] [] M) {M : Mem} {x1 : Int32} {x2 : Int32} {x3 : Int32} {x5 : Int32} {s0 : Int32} {s1 : Int32} {res : Int32} (hf : fX13_isResting_b82 a2 a49 M x1 x2 x3 x5 s0 s1 = some res) : GG G (Qm G (Pri res M) 0 0) 0 0 82 [(0, rv G.1 103), (1, .int x1), (2, .int x2), (3, .int x3), (5, .int x5)] [.int s0, .int s1] M := by
  unfold fX13_isResting_b82 at hf
  refine g_iadd h dX13_isResting_82 ?_
  refine g_nmI hf (fun v7 hf => ?_)
  refine g_istore h [(4, .int v7), (0, rv G.1 103), (1, .int x1), (2, .int x2), (3, .int x3), (5, .int x5)] (by decide) rfl dX13_isResting_83 ?_
  refine g_sub [1, 2, 3, 4, 0, 5] rfl ?_
  exact kX13_isResting_b85 h ha2 ha49 hf

theorem kX13_isResting_l49 {G : GX} (h : OKm G cX13_isResting RX13 6 (some .boolean) { frames := 0, cells := 0, slots := 0, locals := 0 }) {a2 : Mem → Int32 → Int32 → Option Int32} (ha2 : ∀ (M : Mem) (x1 : Int32) (x2 : Int32) (res : Int32), a2 M x1 x2 = some res → GG G (Qm G (Pri res M) 0 0) 0 0 2 [(0, rv G.1 103), (1, .int x1), (2, .int x2)] [] M) : ∀ (n : Nat) (M : Mem) (x1 : Int32) (x2 : Int32) (x3 : Int32) (x4 : Int32) (x5 : Int32) (res : Int32), fX13_isResting_l49 a2 n M x1 x2 x3 x4 x5 = some res → GG G (Qm G (Pri res M) 0 0) 0 0 49 [(0, rv G.1 103), (1, .int x1), (2, .int x2), (3, .int x3), (4, .int x4), (5, .int x5)] [] M := by
  intro n
  induction n with
  | zero => intro M x1 x2 x3 x4 x5 res hf; rw [fX13_isResting_l49] at hf; cases hf
  | succ n ih =>
    intro M x1 x2 x3 x4 x5 res hf
    rw [fX13_isResting_l49] at hf
    refine g_iload h 5 rfl dX13_isResting_49 ?_
    refine g_aload_n h 0 rfl dX13_isResting_51 ?_
    refine gfX13_339 h (by decide : kd 103 = 11) dX13_isResting_52 ?_
    refine g_nmI hf (fun v4 hf => ?_)
    refine g_ic_ge h 91 (by decide) hf dX13_isResting_55 (fun hf => ?_) (fun hf => ?_)
    · refine g_iload h 4 rfl dX13_isResting_91 ?_
      refine g_if_ge h 98 (by decide) hf dX13_isResting_93 (fun hf => ?_) (fun hf => ?_)
      · refine g_iinc h 2 2 rfl (v := x2 + 1) rfl [(2, .int (x2 + 1)), (0, rv G.1 103), (1, .int x1), (3, .int x3), (4, .int x4), (5, .int x5)] (by decide) rfl dX13_isResting_98 ?_
        refine g_nmV hf (fun v5 hf => ?_)
        refine g_goto h 2 (by decide) dX13_isResting_101 ?_
        refine g_sub [1, 2, 0] rfl ?_
        exact ha2 _ _ _ _ hf
      · refine g_iconst h 0 (v := 0) (by decide) dX13_isResting_96 ?_
        cases hf
        exact g_zret h (by decide) rfl ⟨rfl, rfl⟩ (Nat.le_refl _) (Nat.le_refl _) dX13_isResting_97
    · refine g_iload h 5 rfl dX13_isResting_58 ?_
      refine g_iload_n h 2 rfl dX13_isResting_60 ?_
      refine g_ic_eq h 85 (by decide) hf dX13_isResting_61 (fun hf => ?_) (fun hf => ?_)
      · refine g_sub [0, 1, 2, 3, 4, 5] rfl ?_
        exact kX13_isResting_b85 h ha2 ih hf
      · refine g_iload h 4 rfl dX13_isResting_64 ?_
        refine g_iload_n h 1 rfl dX13_isResting_66 ?_
        refine g_iload h 5 rfl dX13_isResting_67 ?_
        refine g_ishr h dX13_isResting_69 ?_
        refine g_iconst h 1 (v := 1) (by decide) dX13_isResting_70 ?_
        refine g_iand h dX13_isResting_71 ?_
        refine g_iload_n h 3 rfl dX13_isResting_72 ?_
        refine g_ic_ne h 80 (by decide) hf dX13_isResting_73 (fun hf => ?_) (fun hf => ?_)
        · refine g_bipush h (-2) (v := (-2)) (by decide) dX13_isResting_80 ?_
          refine g_sub [0, 1, 2, 3, 5] rfl ?_
          exact kX13_isResting_b82 h ha2 ih hf
        · refine g_iconst h 2 (v := 2) (by decide) dX13_isResting_76 ?_
          refine g_goto h 82 (by decide) dX13_isResting_77 ?_
          refine g_sub [0, 1, 2, 3, 5] rfl ?_
          exact kX13_isResting_b82 h ha2 ih hf

theorem kX13_isResting_b44 {G : GX} (h : OKm G cX13_isResting RX13 6 (some .boolean) { frames := 0, cells := 0, slots := 0, locals := 0 }) {a2 : Mem → Int32 → Int32 → Option Int32} (ha2 : ∀ (M : Mem) (x1 : Int32) (x2 : Int32) (res : Int32), a2 M x1 x2 = some res → GG G (Qm G (Pri res M) 0 0) 0 0 2 [(0, rv G.1 103), (1, .int x1), (2, .int x2)] [] M) {M : Mem} {x1 : Int32} {x2 : Int32} {x3 : Int32} {s0 : Int32} {res : Int32} (hf : fX13_isResting_b44 a2 M x1 x2 x3 s0 = some res) : GG G (Qm G (Pri res M) 0 0) 0 0 44 [(0, rv G.1 103), (1, .int x1), (2, .int x2), (3, .int x3)] [.int s0] M := by
  unfold fX13_isResting_b44 at hf
  refine g_istore h [(4, .int s0), (0, rv G.1 103), (1, .int x1), (2, .int x2), (3, .int x3)] (by decide) rfl dX13_isResting_44 ?_
  refine g_iconst h 0 (v := 0) (by decide) dX13_isResting_46 ?_
  refine g_istore h [(5, .int 0), (4, .int s0), (0, rv G.1 103), (1, .int x1), (2, .int x2), (3, .int x3)] (by decide) rfl dX13_isResting_47 ?_
  refine g_sub [2, 3, 4, 5, 1, 0] rfl ?_
  exact kX13_isResting_l49 h ha2 _ _ _ _ _ _ _ _ hf

theorem kX13_isResting_l2 {G : GX} (h : OKm G cX13_isResting RX13 6 (some .boolean) { frames := 0, cells := 0, slots := 0, locals := 0 }) : ∀ (n : Nat) (M : Mem) (x1 : Int32) (x2 : Int32) (res : Int32), fX13_isResting_l2 n M x1 x2 = some res → GG G (Qm G (Pri res M) 0 0) 0 0 2 [(0, rv G.1 103), (1, .int x1), (2, .int x2)] [] M := by
  intro n
  induction n with
  | zero => intro M x1 x2 res hf; rw [fX13_isResting_l2] at hf; cases hf
  | succ n ih =>
    intro M x1 x2 res hf
    rw [fX13_isResting_l2] at hf
    refine g_iload_n h 2 rfl dX13_isResting_2 ?_
    refine g_aload_n h 0 rfl dX13_isResting_3 ?_
    refine gfX13_339 h (by decide : kd 103 = 11) dX13_isResting_4 ?_
    refine g_nmI hf (fun v1 hf => ?_)
    refine g_ic_ge h 104 (by decide) hf dX13_isResting_7 (fun hf => ?_) (fun hf => ?_)
    · refine g_iconst h 1 (v := 1) (by decide) dX13_isResting_104 ?_
      cases hf
      exact g_zret h (by decide) rfl ⟨rfl, rfl⟩ (Nat.le_refl _) (Nat.le_refl _) dX13_isResting_105
    · refine g_iload_n h 1 rfl dX13_isResting_10 ?_
      refine g_iload_n h 2 rfl dX13_isResting_11 ?_
      refine g_ishr h dX13_isResting_12 ?_
      refine g_iconst h 1 (v := 1) (by decide) dX13_isResting_13 ?_
      refine g_iand h dX13_isResting_14 ?_
      refine g_nmI hf (fun v2 hf => ?_)
      refine g_istore_n h rfl [(3, .int v2), (0, rv G.1 103), (1, .int x1), (2, .int x2)] (by decide) rfl dX13_isResting_15 ?_
      refine g_iload_n h 0 rfl dX13_isResting_16 ?_
      refine g_iconst h 1 (v := 1) (by decide) dX13_isResting_17 ?_
      refine g_ic_ne h 33 (by decide) hf dX13_isResting_18 (fun hf => ?_) (fun hf => ?_)
      · refine g_iconst h 0 (v := 0) (by decide) dX13_isResting_33 ?_
        refine g_aload_n h 1 rfl dX13_isResting_34 ?_
        refine gfX13_108 h (by decide : kd 103 = 11) dX13_isResting_35 ?_
        refine g_bipush h 25 (v := 25) (by decide) dX13_isResting_38 ?_
        refine g_iload_n h 3 rfl dX13_isResting_40 ?_
        refine g_iadd h dX13_isResting_41 ?_
        refine g_iald h 186 (by decide : kd 133 = 20) (by decide) hf dX13_isResting_42 (fun v3 hf => ?_)
        refine g_isub h dX13_isResting_43 ?_
        refine g_sub [1, 2, 3, 0] rfl ?_
        exact kX13_isResting_b44 h ih hf
      · refine g_aload_n h 1 rfl dX13_isResting_21 ?_
        refine gfX13_108 h (by decide : kd 103 = 11) dX13_isResting_22 ?_
        refine g_bipush h 25 (v := 25) (by decide) dX13_isResting_25 ?_
        refine g_iload_n h 3 rfl dX13_isResting_27 ?_
        refine g_iadd h dX13_isResting_28 ?_
        refine g_iald h 186 (by decide : kd 133 = 20) (by decide) hf dX13_isResting_29 (fun v8 hf => ?_)
        refine g_goto h 44 (by decide) dX13_isResting_30 ?_
        refine g_sub [1, 2, 3, 0] rfl ?_
        exact kX13_isResting_b44 h ih hf

theorem kX13_isResting_e0 {G : GX} (h : OKm G cX13_isResting RX13 6 (some .boolean) { frames := 0, cells := 0, slots := 0, locals := 0 }) {M : Mem} {x1 : Int32} {res : Int32} (hf : fX13_isResting M x1 = some res) : GG G (Qm G (Pri res M) 0 0) 0 0 0 [(0, rv G.1 103), (1, .int x1)] [] M := by
  unfold fX13_isResting at hf
  refine g_iconst h 0 (v := 0) (by decide) dX13_isResting_0 ?_
  refine g_istore_n h rfl [(2, .int 0), (0, rv G.1 103), (1, .int x1)] (by decide) rfl dX13_isResting_1 ?_
  refine g_sub [1, 2, 0] rfl ?_
  exact kX13_isResting_l2 h _ _ _ _ _ hf

theorem cmX13_isResting {l : Launch} {w : WX} {M : Mem} {x1 : Int32} {res : Int32} (hf : fX13_isResting M x1 = some res) : CM l w yX13_isResting cX13_isResting 6 (some .boolean) { frames := 0, cells := 0, slots := 0, locals := 0 } 0 0 [rv w 103, .int x1] M (Pri res M) := by
  refine CM_of (by decide) (by decide) (fun G hw hl h => ?_)
  subst hw
  exact kX13_isResting_e0 h hf

-- X13_least
theorem kX13_least_b49 {G : GX} (h : OKm G cX13_least RX13 4 (some .int) { frames := 10, cells := 0, slots := 0, locals := 232 }) {a11 : Mem → Int32 → Int32 → Int32 → Option (Int32 × Mem)} (ha11 : ∀ (M : Mem) (x1 : Int32) (x2 : Int32) (x3 : Int32) (res : (Int32 × Mem)), a11 M x1 x2 x3 = some res → GG G (Qm G (Pwi res) 0 0) 0 0 11 [(0, rv G.1 103), (1, .int x1), (2, .int x2), (3, .int x3)] [] M) {M : Mem} {x1 : Int32} {x2 : Int32} {x3 : Int32} {res : (Int32 × Mem)} (hf : fX13_least_b49 a11 M x1 x2 x3 = some res) : GG G (Qm G (Pwi res) 0 0) 0 0 49 [(0, rv G.1 103), (1, .int x1), (2, .int x2), (3, .int x3)] [] M := by
  unfold fX13_least_b49 at hf
  refine g_iinc h 3 3 rfl (v := x3 + 1) rfl [(3, .int (x3 + 1)), (0, rv G.1 103), (1, .int x1), (2, .int x2)] (by decide) rfl dX13_least_49 ?_
  refine g_nmV hf (fun v4 hf => ?_)
  refine g_goto h 11 (by decide) dX13_least_52 ?_
  refine g_sub [1, 2, 3, 0] rfl ?_
  exact ha11 _ _ _ _ _ hf

theorem kX13_least_b39 {G : GX} (h : OKm G cX13_least RX13 4 (some .int) { frames := 10, cells := 0, slots := 0, locals := 232 }) {a11 : Mem → Int32 → Int32 → Int32 → Option (Int32 × Mem)} (ha11 : ∀ (M : Mem) (x1 : Int32) (x2 : Int32) (x3 : Int32) (res : (Int32 × Mem)), a11 M x1 x2 x3 = some res → GG G (Qm G (Pwi res) 0 0) 0 0 11 [(0, rv G.1 103), (1, .int x1), (2, .int x2), (3, .int x3)] [] M) {M : Mem} {x3 : Int32} {res : (Int32 × Mem)} (hf : fX13_least_b39 a11 M x3 = some res) : GG G (Qm G (Pwi res) 0 0) 0 0 39 [(0, rv G.1 103), (3, .int x3)] [] M := by
  unfold fX13_least_b39 at hf
  refine g_iload_n h 1 rfl dX13_least_39 ?_
  refine g_istore_n h rfl [(1, .int x3), (0, rv G.1 103), (3, .int x3)] (by decide) rfl dX13_least_40 ?_
  refine g_aload_n h 1 rfl dX13_least_41 ?_
  refine gfX13_108 h (by decide : kd 103 = 11) dX13_least_42 ?_
  refine g_bipush h 39 (v := 39) (by decide) dX13_least_45 ?_
  refine g_iald h 186 (by decide : kd 133 = 20) (by decide) hf dX13_least_47 (fun v3 hf => ?_)
  refine g_istore_n h rfl [(2, .int v3), (1, .int x3), (0, rv G.1 103), (3, .int x3)] (by decide) rfl dX13_least_48 ?_
  refine g_sub [2, 1, 0, 3] rfl ?_
  exact kX13_least_b49 h ha11 hf

theorem kX13_least_l11 {G : GX} (h : OKm G cX13_least RX13 4 (some .int) { frames := 10, cells := 0, slots := 0, locals := 232 }) : ∀ (n : Nat) (M : Mem) (x1 : Int32) (x2 : Int32) (x3 : Int32) (res : (Int32 × Mem)), fX13_least_l11 n M x1 x2 x3 = some res → GG G (Qm G (Pwi res) 0 0) 0 0 11 [(0, rv G.1 103), (1, .int x1), (2, .int x2), (3, .int x3)] [] M := by
  intro n
  induction n with
  | zero => intro M x1 x2 x3 res hf; rw [fX13_least_l11] at hf; cases hf
  | succ n ih =>
    intro M x1 x2 x3 res hf
    rw [fX13_least_l11] at hf
    refine g_iload_n h 3 rfl dX13_least_11 ?_
    refine g_iconst h 5 (v := 5) (by decide) dX13_least_12 ?_
    refine g_ic_gt h 55 (by decide) hf dX13_least_13 (fun hf => ?_) (fun hf => ?_)
    · refine g_iload_n h 1 rfl dX13_least_55 ?_
      cases hf
      exact g_iret h rfl ⟨rfl, rfl⟩ (Nat.le_refl _) (Nat.le_refl _) dX13_least_56
    · refine g_aload_n h 0 rfl dX13_least_16 ?_
      refine g_iload_n h 3 rfl dX13_least_17 ?_
      obtain ⟨M2, hq, hf⟩ := bd_some hf
      refine g_callVwv (As := [.int x3]) (rest := []) h ceX13_goesByTerm mlX13_435 imX13_goesByTerm seX13_goesByTerm (by rfl) (kd_lt (by rw [(by decide : kd 103 = 11)]; decide)) (ent_11 (by decide : kd 103 = 11)) rfl rfl ⟨by decide, by decide⟩ ⟨by decide, by decide⟩ rfl dX13_least_18 rfl (Nat.le_of_ble_eq_true rfl) (cmX13_goesByTerm hq) ?_
      refine g_iload_n h 1 rfl dX13_least_21 ?_
      refine g_if_eq h 39 (by decide) hf dX13_least_22 (fun hf => ?_) (fun hf => ?_)
      · refine g_sub [0, 3] rfl ?_
        exact kX13_least_b39 h ih hf
      · refine g_aload_n h 0 rfl dX13_least_25 ?_
        refine gfX13_108 h (by decide : kd 103 = 11) dX13_least_26 ?_
        refine g_bipush h 39 (v := 39) (by decide) dX13_least_29 ?_
        refine g_iald h 186 (by decide : kd 133 = 20) (by decide) hf dX13_least_31 (fun v5 hf => ?_)
        refine g_iload_n h 2 rfl dX13_least_32 ?_
        refine g_ic_lt h 39 (by decide) hf dX13_least_33 (fun hf => ?_) (fun hf => ?_)
        · refine g_sub [0, 3] rfl ?_
          exact kX13_least_b39 h ih hf
        · refine g_goto h 49 (by decide) dX13_least_36 ?_
          refine g_sub [0, 1, 2, 3] rfl ?_
          exact kX13_least_b49 h ih hf

theorem kX13_least_e0 {G : GX} (h : OKm G cX13_least RX13 4 (some .int) { frames := 10, cells := 0, slots := 0, locals := 232 }) {M : Mem} {res : (Int32 × Mem)} (hf : fX13_least M = some res) : GG G (Qm G (Pwi res) 0 0) 0 0 0 [(0, rv G.1 103)] [] M := by
  unfold fX13_least at hf
  refine g_aload_n h 0 rfl dX13_least_0 ?_
  refine g_iconst h 0 (v := 0) (by decide) dX13_least_1 ?_
  refine pfX13_141 h (by decide : kd 103 = 11) dX13_least_2 ?_
  refine g_nmM hf (fun M1 hf => ?_)
  refine g_iconst h 0 (v := 0) (by decide) dX13_least_5 ?_
  refine g_istore_n h rfl [(1, .int 0), (0, rv G.1 103)] (by decide) rfl dX13_least_6 ?_
  refine g_iconst h 0 (v := 0) (by decide) dX13_least_7 ?_
  refine g_istore_n h rfl [(2, .int 0), (1, .int 0), (0, rv G.1 103)] (by decide) rfl dX13_least_8 ?_
  refine g_iconst h 1 (v := 1) (by decide) dX13_least_9 ?_
  refine g_istore_n h rfl [(3, .int 1), (2, .int 0), (1, .int 0), (0, rv G.1 103)] (by decide) rfl dX13_least_10 ?_
  refine g_sub [3, 2, 1, 0] rfl ?_
  exact kX13_least_l11 h _ _ _ _ _ _ hf

theorem cmX13_least {l : Launch} {w : WX} {M : Mem} {res : (Int32 × Mem)} (hf : fX13_least M = some res) : CM l w yX13_least cX13_least 4 (some .int) { frames := 10, cells := 0, slots := 0, locals := 232 } 0 0 [rv w 103] M (Pwi res) := by
  refine CM_of (by decide) (by decide) (fun G hw hl h => ?_)
  subst hw
  exact kX13_least_e0 h hf

-- X13_loan
theorem kX13_loan_e0 {G : GX} (h : OKm G cX13_loan RX13 2 (some .int) { frames := 1, cells := 0, slots := 0, locals := 22 }) {M : Mem} {x1 : Int32} {res : (Int32 × Mem)} (hf : fX13_loan M x1 = some res) : GG G (Qm G (Pwi res) 0 0) 0 0 0 [(0, rv G.1 103), (1, .int x1)] [] M := by
  unfold fX13_loan at hf
  refine g_aload_n h 0 rfl dX13_loan_0 ?_
  refine g_iconst h 0 (v := 0) (by decide) dX13_loan_1 ?_
  refine pfX13_141 h (by decide : kd 103 = 11) dX13_loan_2 ?_
  refine g_nmM hf (fun M1 hf => ?_)
  refine g_iload_n h 1 rfl dX13_loan_5 ?_
  refine g_iconst h 1 (v := 1) (by decide) dX13_loan_6 ?_
  refine g_bipush h 99 (v := 99) (by decide) dX13_loan_7 ?_
  obtain ⟨v2, hq, hf⟩ := bd_some hf
  refine g_callSri (As := [.int x1, .int 1, .int 99]) (rest := []) h ceX13_within mlX13_407 smX13_within rfl rfl ⟨by decide, by decide⟩ ⟨by decide, by decide⟩ rfl dX13_loan_9 rfl (Nat.le_of_ble_eq_true rfl) (cmX13_within hq) ?_
  refine g_if_ne h 21 (by decide) hf dX13_loan_12 (fun hf => ?_) (fun hf => ?_)
  · refine g_aload_n h 0 rfl dX13_loan_21 ?_
    obtain ⟨M3, hq, hf⟩ := bd_some hf
    refine g_callVwv (As := []) (rest := []) h ceX13_keeps mlX13_426 imX13_keeps seX13_keeps (by rfl) (kd_lt (by rw [(by decide : kd 103 = 11)]; decide)) (ent_11 (by decide : kd 103 = 11)) rfl rfl ⟨by decide, by decide⟩ ⟨by decide, by decide⟩ rfl dX13_loan_22 rfl (Nat.le_of_ble_eq_true rfl) (cmX13_keeps hq) ?_
    refine g_aload_n h 0 rfl dX13_loan_25 ?_
    refine gfX13_108 h (by decide : kd 103 = 11) dX13_loan_26 ?_
    refine g_iconst h 0 (v := 0) (by decide) dX13_loan_29 ?_
    refine g_aload_n h 0 rfl dX13_loan_30 ?_
    refine gfX13_108 h (by decide : kd 103 = 11) dX13_loan_31 ?_
    refine g_iconst h 0 (v := 0) (by decide) dX13_loan_34 ?_
    refine g_iald h 186 (by decide : kd 133 = 20) (by decide) hf dX13_loan_35 (fun v4 hf => ?_)
    refine g_iload_n h 1 rfl dX13_loan_36 ?_
    refine g_iadd h dX13_loan_37 ?_
    refine g_iconst h 0 (v := 0) (by decide) dX13_loan_38 ?_
    refine g_sipush h 999 (v := 999) (by decide) dX13_loan_39 ?_
    obtain ⟨v5, hq, hf⟩ := bd_some hf
    refine g_callSri (As := [.int (v4 + x1), .int 0, .int 999]) (rest := [.int 0, rv G.1 133]) h ceX13_kept mlX13_381 smX13_kept rfl rfl ⟨by decide, by decide⟩ ⟨by decide, by decide⟩ rfl dX13_loan_42 rfl (Nat.le_of_ble_eq_true rfl) (cmX13_kept hq) ?_
    refine g_iast h 186 (by decide : kd 133 = 20) (by decide) hf dX13_loan_45 (fun M6 hf => ?_)
    refine g_aload_n h 0 rfl dX13_loan_46 ?_
    refine gfX13_108 h (by decide : kd 103 = 11) dX13_loan_47 ?_
    refine g_iconst h 2 (v := 2) (by decide) dX13_loan_50 ?_
    refine g_aload_n h 0 rfl dX13_loan_51 ?_
    refine gfX13_108 h (by decide : kd 103 = 11) dX13_loan_52 ?_
    refine g_iconst h 2 (v := 2) (by decide) dX13_loan_55 ?_
    refine g_iald h 186 (by decide : kd 133 = 20) (by decide) hf dX13_loan_56 (fun v7 hf => ?_)
    refine g_iload_n h 1 rfl dX13_loan_57 ?_
    refine g_iadd h dX13_loan_58 ?_
    refine g_iconst h 0 (v := 0) (by decide) dX13_loan_59 ?_
    refine g_sipush h 999 (v := 999) (by decide) dX13_loan_60 ?_
    obtain ⟨v8, hq, hf⟩ := bd_some hf
    refine g_callSri (As := [.int (v7 + x1), .int 0, .int 999]) (rest := [.int 2, rv G.1 133]) h ceX13_kept mlX13_381 smX13_kept rfl rfl ⟨by decide, by decide⟩ ⟨by decide, by decide⟩ rfl dX13_loan_63 rfl (Nat.le_of_ble_eq_true rfl) (cmX13_kept hq) ?_
    refine g_iast h 186 (by decide : kd 133 = 20) (by decide) hf dX13_loan_66 (fun M9 hf => ?_)
    refine g_aload_n h 0 rfl dX13_loan_67 ?_
    refine gfX13_108 h (by decide : kd 103 = 11) dX13_loan_68 ?_
    refine g_iconst h 0 (v := 0) (by decide) dX13_loan_71 ?_
    refine g_iald h 186 (by decide : kd 133 = 20) (by decide) hf dX13_loan_72 (fun v10 hf => ?_)
    cases hf
    exact g_iret h rfl ⟨rfl, rfl⟩ (Nat.le_refl _) (Nat.le_refl _) dX13_loan_73
  · refine g_aload_n h 0 rfl dX13_loan_15 ?_
    refine g_iconst h 1 (v := 1) (by decide) dX13_loan_16 ?_
    obtain ⟨v11, M12, hq, hf⟩ := b2_some hf
    refine g_callVwi (As := [.int 1]) (rest := []) h ceX13_refuses mlX13_423 imX13_refuses seX13_refuses (by rfl) (kd_lt (by rw [(by decide : kd 103 = 11)]; decide)) (ent_11 (by decide : kd 103 = 11)) rfl rfl ⟨by decide, by decide⟩ ⟨by decide, by decide⟩ rfl dX13_loan_17 rfl (Nat.le_of_ble_eq_true rfl) (cmX13_refuses hq) ?_
    cases hf
    exact g_iret h rfl ⟨rfl, rfl⟩ (Nat.le_refl _) (Nat.le_refl _) dX13_loan_20

theorem cmX13_loan {l : Launch} {w : WX} {M : Mem} {x1 : Int32} {res : (Int32 × Mem)} (hf : fX13_loan M x1 = some res) : CM l w yX13_loan cX13_loan 2 (some .int) { frames := 1, cells := 0, slots := 0, locals := 22 } 0 0 [rv w 103, .int x1] M (Pwi res) := by
  refine CM_of (by decide) (by decide) (fun G hw hl h => ?_)
  subst hw
  exact kX13_loan_e0 h hf

-- X13_moved
theorem kX13_moved_b79 {G : GX} (h : OKm G cX13_moved RX13 5 (some .int) { frames := 4, cells := 0, slots := 0, locals := 97 }) {a35 : Mem → Int32 → Int32 → Int32 → Int32 → Option (Int32 × Mem)} (ha35 : ∀ (M : Mem) (x1 : Int32) (x2 : Int32) (x3 : Int32) (x4 : Int32) (res : (Int32 × Mem)), a35 M x1 x2 x3 x4 = some res → GG G (Qm G (Pwi res) 0 0) 0 0 35 [(0, rv G.1 103), (1, .int x1), (2, .int x2), (3, .int x3), (4, .int x4)] [] M) {M : Mem} {x1 : Int32} {x2 : Int32} {x4 : Int32} {s0 : Int32} {s1 : Int32} {res : (Int32 × Mem)} (hf : fX13_moved_b79 a35 M x1 x2 x4 s0 s1 = some res) : GG G (Qm G (Pwi res) 0 0) 0 0 79 [(0, rv G.1 103), (1, .int x1), (2, .int x2), (4, .int x4)] [.int s0, .int s1] M := by
  unfold fX13_moved_b79 at hf
  refine g_ior h dX13_moved_79 ?_
  refine g_nmI hf (fun v10 hf => ?_)
  refine g_istore_n h rfl [(3, .int v10), (0, rv G.1 103), (1, .int x1), (2, .int x2), (4, .int x4)] (by decide) rfl dX13_moved_80 ?_
  refine g_iinc h 4 4 rfl (v := x4 + 1) rfl [(4, .int (x4 + 1)), (3, .int v10), (0, rv G.1 103), (1, .int x1), (2, .int x2)] (by decide) rfl dX13_moved_81 ?_
  refine g_nmV hf (fun v11 hf => ?_)
  refine g_goto h 35 (by decide) dX13_moved_84 ?_
  refine g_sub [2, 3, 4, 1, 0] rfl ?_
  exact ha35 _ _ _ _ _ _ hf

theorem kX13_moved_b78 {G : GX} (h : OKm G cX13_moved RX13 5 (some .int) { frames := 4, cells := 0, slots := 0, locals := 97 }) {a35 : Mem → Int32 → Int32 → Int32 → Int32 → Option (Int32 × Mem)} (ha35 : ∀ (M : Mem) (x1 : Int32) (x2 : Int32) (x3 : Int32) (x4 : Int32) (res : (Int32 × Mem)), a35 M x1 x2 x3 x4 = some res → GG G (Qm G (Pwi res) 0 0) 0 0 35 [(0, rv G.1 103), (1, .int x1), (2, .int x2), (3, .int x3), (4, .int x4)] [] M) {M : Mem} {x1 : Int32} {x2 : Int32} {x4 : Int32} {s0 : Int32} {res : (Int32 × Mem)} (hf : fX13_moved_b78 a35 M x1 x2 x4 s0 = some res) : GG G (Qm G (Pwi res) 0 0) 0 0 78 [(0, rv G.1 103), (1, .int x1), (2, .int x2), (4, .int x4)] [.int s0] M := by
  unfold fX13_moved_b78 at hf
  refine g_iconst h 0 (v := 0) (by decide) dX13_moved_78 ?_
  refine g_sub [0, 1, 2, 3] rfl ?_
  exact kX13_moved_b79 h ha35 hf

theorem kX13_moved_l35 {G : GX} (h : OKm G cX13_moved RX13 5 (some .int) { frames := 4, cells := 0, slots := 0, locals := 97 }) : ∀ (n : Nat) (M : Mem) (x1 : Int32) (x2 : Int32) (x3 : Int32) (x4 : Int32) (res : (Int32 × Mem)), fX13_moved_l35 n M x1 x2 x3 x4 = some res → GG G (Qm G (Pwi res) 0 0) 0 0 35 [(0, rv G.1 103), (1, .int x1), (2, .int x2), (3, .int x3), (4, .int x4)] [] M := by
  intro n
  induction n with
  | zero => intro M x1 x2 x3 x4 res hf; rw [fX13_moved_l35] at hf; cases hf
  | succ n ih =>
    intro M x1 x2 x3 x4 res hf
    rw [fX13_moved_l35] at hf
    refine g_iload h 4 rfl dX13_moved_35 ?_
    refine g_aload_n h 0 rfl dX13_moved_37 ?_
    refine gfX13_339 h (by decide : kd 103 = 11) dX13_moved_38 ?_
    refine g_nmI hf (fun v7 hf => ?_)
    refine g_ic_ge h 87 (by decide) hf dX13_moved_41 (fun hf => ?_) (fun hf => ?_)
    · refine g_iload_n h 3 rfl dX13_moved_87 ?_
      cases hf
      exact g_iret h rfl ⟨rfl, rfl⟩ (Nat.le_refl _) (Nat.le_refl _) dX13_moved_88
    · refine g_iload_n h 3 rfl dX13_moved_44 ?_
      refine g_aload_n h 0 rfl dX13_moved_45 ?_
      refine g_iconst h 0 (v := 0) (by decide) dX13_moved_46 ?_
      refine g_iload h 4 rfl dX13_moved_47 ?_
      refine g_iconst h 0 (v := 0) (by decide) dX13_moved_49 ?_
      refine g_iconst h 0 (v := 0) (by decide) dX13_moved_50 ?_
      obtain ⟨v8, M9, hq, hf⟩ := b2_some hf
      refine g_callVwi (As := [.int 0, .int x4, .int 0, .int 0]) (rest := [.int x3]) h ceX13_follows mlX13_372 imX13_follows seX13_follows (by rfl) (kd_lt (by rw [(by decide : kd 103 = 11)]; decide)) (ent_11 (by decide : kd 103 = 11)) rfl rfl ⟨by decide, by decide⟩ ⟨by decide, by decide⟩ rfl dX13_moved_51 rfl (Nat.le_of_ble_eq_true rfl) (cmX13_follows hq) ?_
      refine g_iload_n h 1 rfl dX13_moved_54 ?_
      refine g_ic_eq h 78 (by decide) hf dX13_moved_55 (fun hf => ?_) (fun hf => ?_)
      · refine g_sub [0, 1, 2, 4] rfl ?_
        exact kX13_moved_b78 h ih hf
      · refine g_aload_n h 0 rfl dX13_moved_58 ?_
        refine g_iconst h 0 (v := 0) (by decide) dX13_moved_59 ?_
        refine g_iload h 4 rfl dX13_moved_60 ?_
        refine g_iload_n h 1 rfl dX13_moved_62 ?_
        refine g_iload_n h 2 rfl dX13_moved_63 ?_
        obtain ⟨v12, M13, hq, hf⟩ := b2_some hf
        refine g_callVwi (As := [.int 0, .int x4, .int x1, .int x2]) (rest := [.int x3]) h ceX13_follows mlX13_372 imX13_follows seX13_follows (by rfl) (kd_lt (by rw [(by decide : kd 103 = 11)]; decide)) (ent_11 (by decide : kd 103 = 11)) rfl rfl ⟨by decide, by decide⟩ ⟨by decide, by decide⟩ rfl dX13_moved_64 rfl (Nat.le_of_ble_eq_true rfl) (cmX13_follows hq) ?_
        refine g_iload_n h 1 rfl dX13_moved_67 ?_
        refine g_ic_ne h 78 (by decide) hf dX13_moved_68 (fun hf => ?_) (fun hf => ?_)
        · refine g_sub [0, 1, 2, 4] rfl ?_
          exact kX13_moved_b78 h ih hf
        · refine g_iconst h 1 (v := 1) (by decide) dX13_moved_71 ?_
          refine g_iload h 4 rfl dX13_moved_72 ?_
          refine g_ishl h dX13_moved_74 ?_
          refine g_goto h 79 (by decide) dX13_moved_75 ?_
          refine g_sub [0, 1, 2, 4] rfl ?_
          exact kX13_moved_b79 h ih hf

theorem kX13_moved_e0 {G : GX} (h : OKm G cX13_moved RX13 5 (some .int) { frames := 4, cells := 0, slots := 0, locals := 97 }) {M : Mem} {x1 : Int32} {x2 : Int32} {res : (Int32 × Mem)} (hf : fX13_moved M x1 x2 = some res) : GG G (Qm G (Pwi res) 0 0) 0 0 0 [(0, rv G.1 103), (1, .int x1), (2, .int x2)] [] M := by
  unfold fX13_moved at hf
  refine g_aload_n h 0 rfl dX13_moved_0 ?_
  refine g_iconst h 0 (v := 0) (by decide) dX13_moved_1 ?_
  refine pfX13_141 h (by decide : kd 103 = 11) dX13_moved_2 ?_
  refine g_nmM hf (fun M1 hf => ?_)
  refine g_aload_n h 0 rfl dX13_moved_5 ?_
  refine g_iload_n h 1 rfl dX13_moved_6 ?_
  obtain ⟨v2, M3, hq, hf⟩ := b2_some hf
  refine g_callVwi (As := [.int x1]) (rest := []) h ceX13_isBrother mlX13_417 imX13_isBrother seX13_isBrother (by rfl) (kd_lt (by rw [(by decide : kd 103 = 11)]; decide)) (ent_11 (by decide : kd 103 = 11)) rfl rfl ⟨by decide, by decide⟩ ⟨by decide, by decide⟩ rfl dX13_moved_7 rfl (Nat.le_of_ble_eq_true rfl) (cmX13_isBrother hq) ?_
  refine g_if_eq h 28 (by decide) hf dX13_moved_10 (fun hf => ?_) (fun hf => ?_)
  · refine g_iconst h 0 (v := 0) (by decide) dX13_moved_28 ?_
    cases hf
    exact g_iret h rfl ⟨rfl, rfl⟩ (Nat.le_refl _) (Nat.le_refl _) dX13_moved_29
  · refine g_aload_n h 0 rfl dX13_moved_13 ?_
    refine g_iload_n h 2 rfl dX13_moved_14 ?_
    refine g_iconst h 1 (v := 1) (by decide) dX13_moved_15 ?_
    refine g_bipush h 99 (v := 99) (by decide) dX13_moved_16 ?_
    obtain ⟨v4, hq, hf⟩ := bd_some hf
    refine g_callSri (As := [.int x2, .int 1, .int 99]) (rest := [rv G.1 103]) h ceX13_within mlX13_407 smX13_within rfl rfl ⟨by decide, by decide⟩ ⟨by decide, by decide⟩ rfl dX13_moved_18 rfl (Nat.le_of_ble_eq_true rfl) (cmX13_within hq) ?_
    refine g_iconst h 2 (v := 2) (by decide) dX13_moved_21 ?_
    obtain ⟨v5, M6, hq, hf⟩ := b2_some hf
    refine g_callVwi (As := [.int v4, .int 2]) (rest := []) h ceX13_right mlX13_326 imX13_right seX13_right (by rfl) (kd_lt (by rw [(by decide : kd 103 = 11)]; decide)) (ent_11 (by decide : kd 103 = 11)) rfl rfl ⟨by decide, by decide⟩ ⟨by decide, by decide⟩ rfl dX13_moved_22 rfl (Nat.le_of_ble_eq_true rfl) (cmX13_right hq) ?_
    refine g_if_ne h 30 (by decide) hf dX13_moved_25 (fun hf => ?_) (fun hf => ?_)
    · refine g_iconst h 0 (v := 0) (by decide) dX13_moved_30 ?_
      refine g_istore_n h rfl [(3, .int 0), (0, rv G.1 103), (1, .int x1), (2, .int x2)] (by decide) rfl dX13_moved_31 ?_
      refine g_iconst h 0 (v := 0) (by decide) dX13_moved_32 ?_
      refine g_istore h [(4, .int 0), (3, .int 0), (0, rv G.1 103), (1, .int x1), (2, .int x2)] (by decide) rfl dX13_moved_33 ?_
      refine g_sub [2, 3, 4, 1, 0] rfl ?_
      exact kX13_moved_l35 h _ _ _ _ _ _ _ hf
    · refine g_iconst h 0 (v := 0) (by decide) dX13_moved_28 ?_
      cases hf
      exact g_iret h rfl ⟨rfl, rfl⟩ (Nat.le_refl _) (Nat.le_refl _) dX13_moved_29

theorem cmX13_moved {l : Launch} {w : WX} {M : Mem} {x1 : Int32} {x2 : Int32} {res : (Int32 × Mem)} (hf : fX13_moved M x1 x2 = some res) : CM l w yX13_moved cX13_moved 5 (some .int) { frames := 4, cells := 0, slots := 0, locals := 97 } 0 0 [rv w 103, .int x1, .int x2] M (Pwi res) := by
  refine CM_of (by decide) (by decide) (fun G hw hl h => ?_)
  subst hw
  exact kX13_moved_e0 h hf

-- X13_next
theorem kX13_next_b228 {G : GX} (h : OKm G cX13_next RX13 10 (some .int) { frames := 9, cells := 0, slots := 0, locals := 211 }) {a109 : Mem → Int32 → Int32 → Int32 → Int32 → Int32 → Option (Int32 × Mem)} (ha109 : ∀ (M : Mem) (x1 : Int32) (x2 : Int32) (x3 : Int32) (x4 : Int32) (x5 : Int32) (res : (Int32 × Mem)), a109 M x1 x2 x3 x4 x5 = some res → GG G (Qm G (Pwi res) 0 0) 0 0 109 [(0, rv G.1 103), (1, .int x1), (2, .int x2), (3, .int x3), (4, .int x4), (5, .int x5)] [] M) {M : Mem} {x1 : Int32} {x2 : Int32} {x3 : Int32} {x4 : Int32} {x5 : Int32} {res : (Int32 × Mem)} (hf : fX13_next_b228 a109 M x1 x2 x3 x4 x5 = some res) : GG G (Qm G (Pwi res) 0 0) 0 0 228 [(0, rv G.1 103), (1, .int x1), (2, .int x2), (3, .int x3), (4, .int x4), (5, .int x5)] [] M := by
  unfold fX13_next_b228 at hf
  refine g_iinc h 5 5 rfl (v := x5 + 1) rfl [(5, .int (x5 + 1)), (0, rv G.1 103), (1, .int x1), (2, .int x2), (3, .int x3), (4, .int x4)] (by decide) rfl dX13_next_228 ?_
  refine g_nmV hf (fun v5 hf => ?_)
  refine g_goto h 109 (by decide) dX13_next_231 ?_
  refine g_sub [1, 2, 3, 4, 5, 0] rfl ?_
  exact ha109 _ _ _ _ _ _ _ hf

theorem kX13_next_b200 {G : GX} (h : OKm G cX13_next RX13 10 (some .int) { frames := 9, cells := 0, slots := 0, locals := 211 }) {a109 : Mem → Int32 → Int32 → Int32 → Int32 → Int32 → Option (Int32 × Mem)} (ha109 : ∀ (M : Mem) (x1 : Int32) (x2 : Int32) (x3 : Int32) (x4 : Int32) (x5 : Int32) (res : (Int32 × Mem)), a109 M x1 x2 x3 x4 x5 = some res → GG G (Qm G (Pwi res) 0 0) 0 0 109 [(0, rv G.1 103), (1, .int x1), (2, .int x2), (3, .int x3), (4, .int x4), (5, .int x5)] [] M) {a122 : Mem → Int32 → Int32 → Int32 → Int32 → Int32 → Int32 → Int32 → Option (Int32 × Mem)} (ha122 : ∀ (M : Mem) (x1 : Int32) (x2 : Int32) (x3 : Int32) (x4 : Int32) (x5 : Int32) (x6 : Int32) (x7 : Int32) (res : (Int32 × Mem)), a122 M x1 x2 x3 x4 x5 x6 x7 = some res → GG G (Qm G (Pwi res) 0 0) 0 0 122 [(0, rv G.1 103), (1, .int x1), (2, .int x2), (3, .int x3), (4, .int x4), (5, .int x5), (6, .int x6), (7, .int x7)] [] M) {M : Mem} {x1 : Int32} {x2 : Int32} {x3 : Int32} {x4 : Int32} {x5 : Int32} {x7 : Int32} {s0 : Int32} {s1 : Int32} {res : (Int32 × Mem)} (hf : fX13_next_b200 a109 a122 M x1 x2 x3 x4 x5 x7 s0 s1 = some res) : GG G (Qm G (Pwi res) 0 0) 0 0 200 [(0, rv G.1 103), (1, .int x1), (2, .int x2), (3, .int x3), (4, .int x4), (5, .int x5), (7, .int x7)] [.int s0, .int s1] M := by
  unfold fX13_next_b200 at hf
  refine g_iadd h dX13_next_200 ?_
  refine g_nmI hf (fun v6 hf => ?_)
  refine g_istore h [(6, .int v6), (0, rv G.1 103), (1, .int x1), (2, .int x2), (3, .int x3), (4, .int x4), (5, .int x5), (7, .int x7)] (by decide) rfl dX13_next_201 ?_
  refine g_iinc h 7 7 rfl (v := x7 + 1) rfl [(7, .int (x7 + 1)), (6, .int v6), (0, rv G.1 103), (1, .int x1), (2, .int x2), (3, .int x3), (4, .int x4), (5, .int x5)] (by decide) rfl dX13_next_203 ?_
  refine g_nmV hf (fun v7 hf => ?_)
  refine g_goto h 122 (by decide) dX13_next_206 ?_
  refine g_sub [2, 3, 4, 5, 6, 7, 1, 0] rfl ?_
  exact ha122 _ _ _ _ _ _ _ _ _ hf

theorem kX13_next_b188 {G : GX} (h : OKm G cX13_next RX13 10 (some .int) { frames := 9, cells := 0, slots := 0, locals := 211 }) {a109 : Mem → Int32 → Int32 → Int32 → Int32 → Int32 → Option (Int32 × Mem)} (ha109 : ∀ (M : Mem) (x1 : Int32) (x2 : Int32) (x3 : Int32) (x4 : Int32) (x5 : Int32) (res : (Int32 × Mem)), a109 M x1 x2 x3 x4 x5 = some res → GG G (Qm G (Pwi res) 0 0) 0 0 109 [(0, rv G.1 103), (1, .int x1), (2, .int x2), (3, .int x3), (4, .int x4), (5, .int x5)] [] M) {a122 : Mem → Int32 → Int32 → Int32 → Int32 → Int32 → Int32 → Int32 → Option (Int32 × Mem)} (ha122 : ∀ (M : Mem) (x1 : Int32) (x2 : Int32) (x3 : Int32) (x4 : Int32) (x5 : Int32) (x6 : Int32) (x7 : Int32) (res : (Int32 × Mem)), a122 M x1 x2 x3 x4 x5 x6 x7 = some res → GG G (Qm G (Pwi res) 0 0) 0 0 122 [(0, rv G.1 103), (1, .int x1), (2, .int x2), (3, .int x3), (4, .int x4), (5, .int x5), (6, .int x6), (7, .int x7)] [] M) {M : Mem} {x1 : Int32} {x2 : Int32} {x3 : Int32} {x4 : Int32} {x5 : Int32} {x6 : Int32} {x7 : Int32} {x8 : Int32} {res : (Int32 × Mem)} (hf : fX13_next_b188 a109 a122 M x1 x2 x3 x4 x5 x6 x7 x8 = some res) : GG G (Qm G (Pwi res) 0 0) 0 0 188 [(0, rv G.1 103), (1, .int x1), (2, .int x2), (3, .int x3), (4, .int x4), (5, .int x5), (6, .int x6), (7, .int x7), (8, .int x8)] [] M := by
  unfold fX13_next_b188 at hf
  refine g_iload h 6 rfl dX13_next_188 ?_
  refine g_iload h 8 rfl dX13_next_190 ?_
  refine g_if_eq h 199 (by decide) hf dX13_next_192 (fun hf => ?_) (fun hf => ?_)
  · refine g_iconst h 0 (v := 0) (by decide) dX13_next_199 ?_
    refine g_sub [0, 1, 2, 3, 4, 5, 7] rfl ?_
    exact kX13_next_b200 h ha109 ha122 hf
  · refine g_iconst h 1 (v := 1) (by decide) dX13_next_195 ?_
    refine g_goto h 200 (by decide) dX13_next_196 ?_
    refine g_sub [0, 1, 2, 3, 4, 5, 7] rfl ?_
    exact kX13_next_b200 h ha109 ha122 hf

theorem kX13_next_b180 {G : GX} (h : OKm G cX13_next RX13 10 (some .int) { frames := 9, cells := 0, slots := 0, locals := 211 }) {a109 : Mem → Int32 → Int32 → Int32 → Int32 → Int32 → Option (Int32 × Mem)} (ha109 : ∀ (M : Mem) (x1 : Int32) (x2 : Int32) (x3 : Int32) (x4 : Int32) (x5 : Int32) (res : (Int32 × Mem)), a109 M x1 x2 x3 x4 x5 = some res → GG G (Qm G (Pwi res) 0 0) 0 0 109 [(0, rv G.1 103), (1, .int x1), (2, .int x2), (3, .int x3), (4, .int x4), (5, .int x5)] [] M) {a122 : Mem → Int32 → Int32 → Int32 → Int32 → Int32 → Int32 → Int32 → Option (Int32 × Mem)} (ha122 : ∀ (M : Mem) (x1 : Int32) (x2 : Int32) (x3 : Int32) (x4 : Int32) (x5 : Int32) (x6 : Int32) (x7 : Int32) (res : (Int32 × Mem)), a122 M x1 x2 x3 x4 x5 x6 x7 = some res → GG G (Qm G (Pwi res) 0 0) 0 0 122 [(0, rv G.1 103), (1, .int x1), (2, .int x2), (3, .int x3), (4, .int x4), (5, .int x5), (6, .int x6), (7, .int x7)] [] M) {a134 : Mem → Int32 → Int32 → Int32 → Int32 → Int32 → Int32 → Int32 → Int32 → Int32 → Option (Int32 × Mem)} (ha134 : ∀ (M : Mem) (x1 : Int32) (x2 : Int32) (x3 : Int32) (x4 : Int32) (x5 : Int32) (x6 : Int32) (x7 : Int32) (x8 : Int32) (x9 : Int32) (res : (Int32 × Mem)), a134 M x1 x2 x3 x4 x5 x6 x7 x8 x9 = some res → GG G (Qm G (Pwi res) 0 0) 0 0 134 [(0, rv G.1 103), (1, .int x1), (2, .int x2), (3, .int x3), (4, .int x4), (5, .int x5), (6, .int x6), (7, .int x7), (8, .int x8), (9, .int x9)] [] M) {M : Mem} {x1 : Int32} {x2 : Int32} {x3 : Int32} {x4 : Int32} {x5 : Int32} {x6 : Int32} {x7 : Int32} {x9 : Int32} {s0 : Int32} {res : (Int32 × Mem)} (hf : fX13_next_b180 a109 a122 a134 M x1 x2 x3 x4 x5 x6 x7 x9 s0 = some res) : GG G (Qm G (Pwi res) 0 0) 0 0 180 [(0, rv G.1 103), (1, .int x1), (2, .int x2), (3, .int x3), (4, .int x4), (5, .int x5), (6, .int x6), (7, .int x7), (9, .int x9)] [.int s0] M := by
  unfold fX13_next_b180 at hf
  refine g_istore h [(8, .int s0), (0, rv G.1 103), (1, .int x1), (2, .int x2), (3, .int x3), (4, .int x4), (5, .int x5), (6, .int x6), (7, .int x7), (9, .int x9)] (by decide) rfl dX13_next_180 ?_
  refine g_iinc h 9 9 rfl (v := x9 + 1) rfl [(9, .int (x9 + 1)), (8, .int s0), (0, rv G.1 103), (1, .int x1), (2, .int x2), (3, .int x3), (4, .int x4), (5, .int x5), (6, .int x6), (7, .int x7)] (by decide) rfl dX13_next_182 ?_
  refine g_nmV hf (fun v10 hf => ?_)
  refine g_goto h 134 (by decide) dX13_next_185 ?_
  refine g_sub [2, 3, 4, 5, 6, 7, 8, 9, 1, 0] rfl ?_
  exact ha134 _ _ _ _ _ _ _ _ _ _ _ hf

theorem kX13_next_l134 {G : GX} (h : OKm G cX13_next RX13 10 (some .int) { frames := 9, cells := 0, slots := 0, locals := 211 }) {a109 : Mem → Int32 → Int32 → Int32 → Int32 → Int32 → Option (Int32 × Mem)} (ha109 : ∀ (M : Mem) (x1 : Int32) (x2 : Int32) (x3 : Int32) (x4 : Int32) (x5 : Int32) (res : (Int32 × Mem)), a109 M x1 x2 x3 x4 x5 = some res → GG G (Qm G (Pwi res) 0 0) 0 0 109 [(0, rv G.1 103), (1, .int x1), (2, .int x2), (3, .int x3), (4, .int x4), (5, .int x5)] [] M) {a122 : Mem → Int32 → Int32 → Int32 → Int32 → Int32 → Int32 → Int32 → Option (Int32 × Mem)} (ha122 : ∀ (M : Mem) (x1 : Int32) (x2 : Int32) (x3 : Int32) (x4 : Int32) (x5 : Int32) (x6 : Int32) (x7 : Int32) (res : (Int32 × Mem)), a122 M x1 x2 x3 x4 x5 x6 x7 = some res → GG G (Qm G (Pwi res) 0 0) 0 0 122 [(0, rv G.1 103), (1, .int x1), (2, .int x2), (3, .int x3), (4, .int x4), (5, .int x5), (6, .int x6), (7, .int x7)] [] M) : ∀ (n : Nat) (M : Mem) (x1 : Int32) (x2 : Int32) (x3 : Int32) (x4 : Int32) (x5 : Int32) (x6 : Int32) (x7 : Int32) (x8 : Int32) (x9 : Int32) (res : (Int32 × Mem)), fX13_next_l134 a109 a122 n M x1 x2 x3 x4 x5 x6 x7 x8 x9 = some res → GG G (Qm G (Pwi res) 0 0) 0 0 134 [(0, rv G.1 103), (1, .int x1), (2, .int x2), (3, .int x3), (4, .int x4), (5, .int x5), (6, .int x6), (7, .int x7), (8, .int x8), (9, .int x9)] [] M := by
  intro n
  induction n with
  | zero => intro M x1 x2 x3 x4 x5 x6 x7 x8 x9 res hf; rw [fX13_next_l134] at hf; cases hf
  | succ n ih =>
    intro M x1 x2 x3 x4 x5 x6 x7 x8 x9 res hf
    rw [fX13_next_l134] at hf
    refine g_iload h 9 rfl dX13_next_134 ?_
    refine g_iload h 7 rfl dX13_next_136 ?_
    refine g_ic_ge h 188 (by decide) hf dX13_next_138 (fun hf => ?_) (fun hf => ?_)
    · refine g_sub [0, 1, 2, 3, 4, 5, 6, 7, 8] rfl ?_
      exact kX13_next_b188 h ha109 ha122 hf
    · refine g_iload h 8 rfl dX13_next_141 ?_
      refine g_if_eq h 188 (by decide) hf dX13_next_143 (fun hf => ?_) (fun hf => ?_)
      · refine g_sub [0, 1, 2, 3, 4, 5, 6, 7, 8] rfl ?_
        exact kX13_next_b188 h ha109 ha122 hf
      · refine g_aload_n h 0 rfl dX13_next_146 ?_
        refine gfX13_129 h (by decide : kd 103 = 11) dX13_next_147 ?_
        refine g_bipush h 30 (v := 30) (by decide) dX13_next_150 ?_
        refine g_iload h 7 rfl dX13_next_152 ?_
        refine g_imul h dX13_next_154 ?_
        refine g_iload h 5 rfl dX13_next_155 ?_
        refine g_iadd h dX13_next_157 ?_
        refine g_iald h 2520 (by decide : kd 140 = 20) (by decide) hf dX13_next_158 (fun v8 hf => ?_)
        refine g_aload_n h 0 rfl dX13_next_159 ?_
        refine gfX13_129 h (by decide : kd 103 = 11) dX13_next_160 ?_
        refine g_bipush h 30 (v := 30) (by decide) dX13_next_163 ?_
        refine g_iload h 9 rfl dX13_next_165 ?_
        refine g_imul h dX13_next_167 ?_
        refine g_iload h 5 rfl dX13_next_168 ?_
        refine g_iadd h dX13_next_170 ?_
        refine g_iald h 2520 (by decide : kd 140 = 20) (by decide) hf dX13_next_171 (fun v9 hf => ?_)
        refine g_ic_eq h 179 (by decide) hf dX13_next_172 (fun hf => ?_) (fun hf => ?_)
        · refine g_iconst h 0 (v := 0) (by decide) dX13_next_179 ?_
          refine g_sub [0, 1, 2, 3, 4, 5, 6, 7, 9] rfl ?_
          exact kX13_next_b180 h ha109 ha122 ih hf
        · refine g_iconst h 1 (v := 1) (by decide) dX13_next_175 ?_
          refine g_goto h 180 (by decide) dX13_next_176 ?_
          refine g_sub [0, 1, 2, 3, 4, 5, 6, 7, 9] rfl ?_
          exact kX13_next_b180 h ha109 ha122 ih hf

theorem kX13_next_l122 {G : GX} (h : OKm G cX13_next RX13 10 (some .int) { frames := 9, cells := 0, slots := 0, locals := 211 }) {a109 : Mem → Int32 → Int32 → Int32 → Int32 → Int32 → Option (Int32 × Mem)} (ha109 : ∀ (M : Mem) (x1 : Int32) (x2 : Int32) (x3 : Int32) (x4 : Int32) (x5 : Int32) (res : (Int32 × Mem)), a109 M x1 x2 x3 x4 x5 = some res → GG G (Qm G (Pwi res) 0 0) 0 0 109 [(0, rv G.1 103), (1, .int x1), (2, .int x2), (3, .int x3), (4, .int x4), (5, .int x5)] [] M) : ∀ (n : Nat) (M : Mem) (x1 : Int32) (x2 : Int32) (x3 : Int32) (x4 : Int32) (x5 : Int32) (x6 : Int32) (x7 : Int32) (res : (Int32 × Mem)), fX13_next_l122 a109 n M x1 x2 x3 x4 x5 x6 x7 = some res → GG G (Qm G (Pwi res) 0 0) 0 0 122 [(0, rv G.1 103), (1, .int x1), (2, .int x2), (3, .int x3), (4, .int x4), (5, .int x5), (6, .int x6), (7, .int x7)] [] M := by
  intro n
  induction n with
  | zero => intro M x1 x2 x3 x4 x5 x6 x7 res hf; rw [fX13_next_l122] at hf; cases hf
  | succ n ih =>
    intro M x1 x2 x3 x4 x5 x6 x7 res hf
    rw [fX13_next_l122] at hf
    refine g_iload h 7 rfl dX13_next_122 ?_
    refine g_iload_n h 2 rfl dX13_next_124 ?_
    refine g_ic_ge h 209 (by decide) hf dX13_next_125 (fun hf => ?_) (fun hf => ?_)
    · refine g_iload h 6 rfl dX13_next_209 ?_
      refine g_iload h 4 rfl dX13_next_211 ?_
      refine g_ic_gt h 219 (by decide) hf dX13_next_213 (fun hf => ?_) (fun hf => ?_)
      · refine g_iload h 5 rfl dX13_next_219 ?_
        refine g_iconst h 1 (v := 1) (by decide) dX13_next_221 ?_
        refine g_iadd h dX13_next_222 ?_
        refine g_nmI hf (fun v4 hf => ?_)
        refine g_istore_n h rfl [(3, .int v4), (0, rv G.1 103), (1, .int x1), (2, .int x2), (4, .int x4), (5, .int x5), (6, .int x6), (7, .int x7)] (by decide) rfl dX13_next_223 ?_
        refine g_iload h 6 rfl dX13_next_224 ?_
        refine g_istore h [(4, .int x6), (3, .int v4), (0, rv G.1 103), (1, .int x1), (2, .int x2), (5, .int x5), (6, .int x6), (7, .int x7)] (by decide) rfl dX13_next_226 ?_
        refine g_sub [2, 3, 4, 1, 0, 5] rfl ?_
        exact kX13_next_b228 h ha109 hf
      · refine g_goto h 228 (by decide) dX13_next_216 ?_
        refine g_sub [0, 1, 2, 3, 4, 5] rfl ?_
        exact kX13_next_b228 h ha109 hf
    · refine g_iconst h 1 (v := 1) (by decide) dX13_next_128 ?_
      refine g_istore h [(8, .int 1), (0, rv G.1 103), (1, .int x1), (2, .int x2), (3, .int x3), (4, .int x4), (5, .int x5), (6, .int x6), (7, .int x7)] (by decide) rfl dX13_next_129 ?_
      refine g_iconst h 0 (v := 0) (by decide) dX13_next_131 ?_
      refine g_istore h [(9, .int 0), (8, .int 1), (0, rv G.1 103), (1, .int x1), (2, .int x2), (3, .int x3), (4, .int x4), (5, .int x5), (6, .int x6), (7, .int x7)] (by decide) rfl dX13_next_132 ?_
      refine g_sub [2, 3, 4, 5, 6, 7, 8, 9, 1, 0] rfl ?_
      exact kX13_next_l134 h ha109 ih _ _ _ _ _ _ _ _ _ _ _ _ hf

theorem kX13_next_l109 {G : GX} (h : OKm G cX13_next RX13 10 (some .int) { frames := 9, cells := 0, slots := 0, locals := 211 }) : ∀ (n : Nat) (M : Mem) (x1 : Int32) (x2 : Int32) (x3 : Int32) (x4 : Int32) (x5 : Int32) (res : (Int32 × Mem)), fX13_next_l109 n M x1 x2 x3 x4 x5 = some res → GG G (Qm G (Pwi res) 0 0) 0 0 109 [(0, rv G.1 103), (1, .int x1), (2, .int x2), (3, .int x3), (4, .int x4), (5, .int x5)] [] M := by
  intro n
  induction n with
  | zero => intro M x1 x2 x3 x4 x5 res hf; rw [fX13_next_l109] at hf; cases hf
  | succ n ih =>
    intro M x1 x2 x3 x4 x5 res hf
    rw [fX13_next_l109] at hf
    refine g_iload h 5 rfl dX13_next_109 ?_
    refine g_bipush h 30 (v := 30) (by decide) dX13_next_111 ?_
    refine g_ic_ge h 234 (by decide) hf dX13_next_113 (fun hf => ?_) (fun hf => ?_)
    · refine g_iload_n h 1 rfl dX13_next_234 ?_
      refine g_if_ne h 242 (by decide) hf dX13_next_235 (fun hf => ?_) (fun hf => ?_)
      · refine g_iload h 4 rfl dX13_next_242 ?_
        cases hf
        exact g_iret h rfl ⟨rfl, rfl⟩ (Nat.le_refl _) (Nat.le_refl _) dX13_next_244
      · refine g_iload_n h 3 rfl dX13_next_238 ?_
        refine g_goto h 244 (by decide) dX13_next_239 ?_
        cases hf
        exact g_iret h rfl ⟨rfl, rfl⟩ (Nat.le_refl _) (Nat.le_refl _) dX13_next_244
    · refine g_iconst h 0 (v := 0) (by decide) dX13_next_116 ?_
      refine g_istore h [(6, .int 0), (0, rv G.1 103), (1, .int x1), (2, .int x2), (3, .int x3), (4, .int x4), (5, .int x5)] (by decide) rfl dX13_next_117 ?_
      refine g_iconst h 0 (v := 0) (by decide) dX13_next_119 ?_
      refine g_istore h [(7, .int 0), (6, .int 0), (0, rv G.1 103), (1, .int x1), (2, .int x2), (3, .int x3), (4, .int x4), (5, .int x5)] (by decide) rfl dX13_next_120 ?_
      refine g_sub [2, 3, 4, 5, 6, 7, 1, 0] rfl ?_
      exact kX13_next_l122 h ih _ _ _ _ _ _ _ _ _ _ hf

theorem kX13_next_b89 {G : GX} (h : OKm G cX13_next RX13 10 (some .int) { frames := 9, cells := 0, slots := 0, locals := 211 }) {a20 : Mem → Int32 → Int32 → Int32 → Option (Int32 × Mem)} (ha20 : ∀ (M : Mem) (x1 : Int32) (x2 : Int32) (x3 : Int32) (res : (Int32 × Mem)), a20 M x1 x2 x3 = some res → GG G (Qm G (Pwi res) 0 0) 0 0 20 [(0, rv G.1 103), (1, .int x1), (2, .int x2), (3, .int x3)] [] M) {a29 : Mem → Int32 → Int32 → Int32 → Int32 → Option (Int32 × Mem)} (ha29 : ∀ (M : Mem) (x1 : Int32) (x2 : Int32) (x3 : Int32) (x4 : Int32) (res : (Int32 × Mem)), a29 M x1 x2 x3 x4 = some res → GG G (Qm G (Pwi res) 0 0) 0 0 29 [(0, rv G.1 103), (1, .int x1), (2, .int x2), (3, .int x3), (4, .int x4)] [] M) {M : Mem} {x1 : Int32} {x2 : Int32} {x3 : Int32} {x4 : Int32} {res : (Int32 × Mem)} (hf : fX13_next_b89 a20 a29 M x1 x2 x3 x4 = some res) : GG G (Qm G (Pwi res) 0 0) 0 0 89 [(0, rv G.1 103), (1, .int x1), (2, .int x2), (3, .int x3), (4, .int x4)] [] M := by
  unfold fX13_next_b89 at hf
  refine g_iinc h 4 4 rfl (v := x4 + 1) rfl [(4, .int (x4 + 1)), (0, rv G.1 103), (1, .int x1), (2, .int x2), (3, .int x3)] (by decide) rfl dX13_next_89 ?_
  refine g_nmV hf (fun v16 hf => ?_)
  refine g_goto h 29 (by decide) dX13_next_92 ?_
  refine g_sub [1, 2, 3, 4, 0] rfl ?_
  exact ha29 _ _ _ _ _ _ hf

theorem kX13_next_l54 {G : GX} (h : OKm G cX13_next RX13 10 (some .int) { frames := 9, cells := 0, slots := 0, locals := 211 }) {a20 : Mem → Int32 → Int32 → Int32 → Option (Int32 × Mem)} (ha20 : ∀ (M : Mem) (x1 : Int32) (x2 : Int32) (x3 : Int32) (res : (Int32 × Mem)), a20 M x1 x2 x3 = some res → GG G (Qm G (Pwi res) 0 0) 0 0 20 [(0, rv G.1 103), (1, .int x1), (2, .int x2), (3, .int x3)] [] M) {a29 : Mem → Int32 → Int32 → Int32 → Int32 → Option (Int32 × Mem)} (ha29 : ∀ (M : Mem) (x1 : Int32) (x2 : Int32) (x3 : Int32) (x4 : Int32) (res : (Int32 × Mem)), a29 M x1 x2 x3 x4 = some res → GG G (Qm G (Pwi res) 0 0) 0 0 29 [(0, rv G.1 103), (1, .int x1), (2, .int x2), (3, .int x3), (4, .int x4)] [] M) : ∀ (n : Nat) (M : Mem) (x1 : Int32) (x2 : Int32) (x3 : Int32) (x4 : Int32) (x5 : Int32) (res : (Int32 × Mem)), fX13_next_l54 a20 a29 n M x1 x2 x3 x4 x5 = some res → GG G (Qm G (Pwi res) 0 0) 0 0 54 [(0, rv G.1 103), (1, .int x1), (2, .int x2), (3, .int x3), (4, .int x4), (5, .int x5)] [] M := by
  intro n
  induction n with
  | zero => intro M x1 x2 x3 x4 x5 res hf; rw [fX13_next_l54] at hf; cases hf
  | succ n ih =>
    intro M x1 x2 x3 x4 x5 res hf
    rw [fX13_next_l54] at hf
    refine g_iload h 5 rfl dX13_next_54 ?_
    refine g_bipush h 30 (v := 30) (by decide) dX13_next_56 ?_
    refine g_ic_ge h 86 (by decide) hf dX13_next_58 (fun hf => ?_) (fun hf => ?_)
    · refine g_iinc h 2 2 rfl (v := x2 + 1) rfl [(2, .int (x2 + 1)), (0, rv G.1 103), (1, .int x1), (3, .int x3), (4, .int x4), (5, .int x5)] (by decide) rfl dX13_next_86 ?_
      refine g_nmV hf (fun v15 hf => ?_)
      refine g_sub [1, 2, 0, 3, 4] rfl ?_
      exact kX13_next_b89 h ha20 ha29 hf
    · refine g_aload_n h 0 rfl dX13_next_61 ?_
      refine gfX13_129 h (by decide : kd 103 = 11) dX13_next_62 ?_
      refine g_bipush h 30 (v := 30) (by decide) dX13_next_65 ?_
      refine g_iload_n h 2 rfl dX13_next_67 ?_
      refine g_imul h dX13_next_68 ?_
      refine g_iload h 5 rfl dX13_next_69 ?_
      refine g_iadd h dX13_next_71 ?_
      refine g_aload_n h 0 rfl dX13_next_72 ?_
      refine gfX13_126 h (by decide : kd 103 = 11) dX13_next_73 ?_
      refine g_iload h 5 rfl dX13_next_76 ?_
      refine g_iald h 30 (by decide : kd 139 = 20) (by decide) hf dX13_next_78 (fun v17 hf => ?_)
      refine g_iast h 2520 (by decide : kd 140 = 20) (by decide) hf dX13_next_79 (fun M18 hf => ?_)
      refine g_iinc h 5 5 rfl (v := x5 + 1) rfl [(5, .int (x5 + 1)), (0, rv G.1 103), (1, .int x1), (2, .int x2), (3, .int x3), (4, .int x4)] (by decide) rfl dX13_next_80 ?_
      refine g_nmV hf (fun v19 hf => ?_)
      refine g_goto h 54 (by decide) dX13_next_83 ?_
      refine g_sub [1, 2, 3, 4, 5, 0] rfl ?_
      exact ih _ _ _ _ _ _ _ hf

theorem kX13_next_l29 {G : GX} (h : OKm G cX13_next RX13 10 (some .int) { frames := 9, cells := 0, slots := 0, locals := 211 }) {a20 : Mem → Int32 → Int32 → Int32 → Option (Int32 × Mem)} (ha20 : ∀ (M : Mem) (x1 : Int32) (x2 : Int32) (x3 : Int32) (res : (Int32 × Mem)), a20 M x1 x2 x3 = some res → GG G (Qm G (Pwi res) 0 0) 0 0 20 [(0, rv G.1 103), (1, .int x1), (2, .int x2), (3, .int x3)] [] M) : ∀ (n : Nat) (M : Mem) (x1 : Int32) (x2 : Int32) (x3 : Int32) (x4 : Int32) (res : (Int32 × Mem)), fX13_next_l29 a20 n M x1 x2 x3 x4 = some res → GG G (Qm G (Pwi res) 0 0) 0 0 29 [(0, rv G.1 103), (1, .int x1), (2, .int x2), (3, .int x3), (4, .int x4)] [] M := by
  intro n
  induction n with
  | zero => intro M x1 x2 x3 x4 res hf; rw [fX13_next_l29] at hf; cases hf
  | succ n ih =>
    intro M x1 x2 x3 x4 res hf
    rw [fX13_next_l29] at hf
    refine g_iload h 4 rfl dX13_next_29 ?_
    refine g_aload_n h 0 rfl dX13_next_31 ?_
    refine gfX13_333 h (by decide : kd 103 = 11) dX13_next_32 ?_
    refine g_nmI hf (fun v11 hf => ?_)
    refine g_ic_ge h 95 (by decide) hf dX13_next_35 (fun hf => ?_) (fun hf => ?_)
    · refine g_iinc h 3 3 rfl (v := x3 + 1) rfl [(3, .int (x3 + 1)), (0, rv G.1 103), (1, .int x1), (2, .int x2), (4, .int x4)] (by decide) rfl dX13_next_95 ?_
      refine g_nmV hf (fun v12 hf => ?_)
      refine g_goto h 20 (by decide) dX13_next_98 ?_
      refine g_sub [1, 2, 3, 0] rfl ?_
      exact ha20 _ _ _ _ _ hf
    · refine g_aload_n h 0 rfl dX13_next_38 ?_
      refine g_iload_n h 3 rfl dX13_next_39 ?_
      refine g_iload h 4 rfl dX13_next_40 ?_
      obtain ⟨v13, M14, hq, hf⟩ := b2_some hf
      refine g_callVwi (As := [.int x3, .int x4]) (rest := []) h ceX13_isSeen mlX13_474 imX13_isSeen seX13_isSeen (by rfl) (kd_lt (by rw [(by decide : kd 103 = 11)]; decide)) (ent_11 (by decide : kd 103 = 11)) rfl rfl ⟨by decide, by decide⟩ ⟨by decide, by decide⟩ rfl dX13_next_42 rfl (Nat.le_of_ble_eq_true rfl) (cmX13_isSeen hq) ?_
      refine g_if_ne h 51 (by decide) hf dX13_next_45 (fun hf => ?_) (fun hf => ?_)
      · refine g_iconst h 0 (v := 0) (by decide) dX13_next_51 ?_
        refine g_istore h [(5, .int 0), (0, rv G.1 103), (1, .int x1), (2, .int x2), (3, .int x3), (4, .int x4)] (by decide) rfl dX13_next_52 ?_
        refine g_sub [1, 2, 3, 4, 5, 0] rfl ?_
        exact kX13_next_l54 h ha20 ih _ _ _ _ _ _ _ _ hf
      · refine g_goto h 89 (by decide) dX13_next_48 ?_
        refine g_sub [0, 1, 2, 3, 4] rfl ?_
        exact kX13_next_b89 h ha20 ih hf

theorem kX13_next_l20 {G : GX} (h : OKm G cX13_next RX13 10 (some .int) { frames := 9, cells := 0, slots := 0, locals := 211 }) : ∀ (n : Nat) (M : Mem) (x1 : Int32) (x2 : Int32) (x3 : Int32) (res : (Int32 × Mem)), fX13_next_l20 n M x1 x2 x3 = some res → GG G (Qm G (Pwi res) 0 0) 0 0 20 [(0, rv G.1 103), (1, .int x1), (2, .int x2), (3, .int x3)] [] M := by
  intro n
  induction n with
  | zero => intro M x1 x2 x3 res hf; rw [fX13_next_l20] at hf; cases hf
  | succ n ih =>
    intro M x1 x2 x3 res hf
    rw [fX13_next_l20] at hf
    refine g_iload_n h 3 rfl dX13_next_20 ?_
    refine g_bipush h 12 (v := 12) (by decide) dX13_next_21 ?_
    refine g_ic_gt h 101 (by decide) hf dX13_next_23 (fun hf => ?_) (fun hf => ?_)
    · refine g_iconst h (-1) (v := (-1)) (by decide) dX13_next_101 ?_
      refine g_istore_n h rfl [(3, .int (-1)), (0, rv G.1 103), (1, .int x1), (2, .int x2)] (by decide) rfl dX13_next_102 ?_
      refine g_iconst h 0 (v := 0) (by decide) dX13_next_103 ?_
      refine g_istore h [(4, .int 0), (3, .int (-1)), (0, rv G.1 103), (1, .int x1), (2, .int x2)] (by decide) rfl dX13_next_104 ?_
      refine g_iconst h 0 (v := 0) (by decide) dX13_next_106 ?_
      refine g_istore h [(5, .int 0), (4, .int 0), (3, .int (-1)), (0, rv G.1 103), (1, .int x1), (2, .int x2)] (by decide) rfl dX13_next_107 ?_
      refine g_sub [3, 4, 5, 2, 1, 0] rfl ?_
      exact kX13_next_l109 h _ _ _ _ _ _ _ _ hf
    · refine g_iconst h 0 (v := 0) (by decide) dX13_next_26 ?_
      refine g_istore h [(4, .int 0), (0, rv G.1 103), (1, .int x1), (2, .int x2), (3, .int x3)] (by decide) rfl dX13_next_27 ?_
      refine g_sub [1, 2, 3, 4, 0] rfl ?_
      exact kX13_next_l29 h ih _ _ _ _ _ _ _ hf

theorem kX13_next_e0 {G : GX} (h : OKm G cX13_next RX13 10 (some .int) { frames := 9, cells := 0, slots := 0, locals := 211 }) {M : Mem} {x1 : Int32} {res : (Int32 × Mem)} (hf : fX13_next M x1 = some res) : GG G (Qm G (Pwi res) 0 0) 0 0 0 [(0, rv G.1 103), (1, .int x1)] [] M := by
  unfold fX13_next at hf
  refine g_aload_n h 0 rfl dX13_next_0 ?_
  refine g_iconst h 0 (v := 0) (by decide) dX13_next_1 ?_
  refine pfX13_141 h (by decide : kd 103 = 11) dX13_next_2 ?_
  refine g_nmM hf (fun M1 hf => ?_)
  refine g_aload_n h 0 rfl dX13_next_5 ?_
  refine g_iload_n h 1 rfl dX13_next_6 ?_
  refine g_iconst h 1 (v := 1) (by decide) dX13_next_7 ?_
  obtain ⟨v2, M3, hq, hf⟩ := b2_some hf
  refine g_callVwi (As := [.int x1, .int 1]) (rest := []) h ceX13_isWhat mlX13_414 imX13_isWhat seX13_isWhat (by rfl) (kd_lt (by rw [(by decide : kd 103 = 11)]; decide)) (ent_11 (by decide : kd 103 = 11)) rfl rfl ⟨by decide, by decide⟩ ⟨by decide, by decide⟩ rfl dX13_next_8 rfl (Nat.le_of_ble_eq_true rfl) (cmX13_isWhat hq) ?_
  refine g_if_ne h 16 (by decide) hf dX13_next_11 (fun hf => ?_) (fun hf => ?_)
  · refine g_iconst h 0 (v := 0) (by decide) dX13_next_16 ?_
    refine g_istore_n h rfl [(2, .int 0), (0, rv G.1 103), (1, .int x1)] (by decide) rfl dX13_next_17 ?_
    refine g_iconst h 1 (v := 1) (by decide) dX13_next_18 ?_
    refine g_istore_n h rfl [(3, .int 1), (2, .int 0), (0, rv G.1 103), (1, .int x1)] (by decide) rfl dX13_next_19 ?_
    refine g_sub [2, 3, 1, 0] rfl ?_
    exact kX13_next_l20 h _ _ _ _ _ _ hf
  · refine g_iconst h 0 (v := 0) (by decide) dX13_next_14 ?_
    cases hf
    exact g_iret h rfl ⟨rfl, rfl⟩ (Nat.le_refl _) (Nat.le_refl _) dX13_next_15

theorem cmX13_next {l : Launch} {w : WX} {M : Mem} {x1 : Int32} {res : (Int32 × Mem)} (hf : fX13_next M x1 = some res) : CM l w yX13_next cX13_next 10 (some .int) { frames := 9, cells := 0, slots := 0, locals := 211 } 0 0 [rv w 103, .int x1] M (Pwi res) := by
  refine CM_of (by decide) (by decide) (fun G hw hl h => ?_)
  subst hw
  exact kX13_next_e0 h hf

-- X13_odds
theorem kX13_odds_b155 {G : GX} (h : OKm G cX13_odds RX13 9 (some .int) { frames := 5, cells := 0, slots := 0, locals := 121 }) {a62 : Mem → Int32 → Int32 → Int32 → Int32 → Int32 → Option (Int32 × Mem)} (ha62 : ∀ (M : Mem) (x2 : Int32) (x3 : Int32) (x4 : Int32) (x5 : Int32) (x6 : Int32) (res : (Int32 × Mem)), a62 M x2 x3 x4 x5 x6 = some res → GG G (Qm G (Pwi res) 0 0) 0 0 62 [(0, rv G.1 103), (2, .int x2), (3, .int x3), (4, .int x4), (5, .int x5), (6, .int x6)] [] M) {M : Mem} {x2 : Int32} {x3 : Int32} {x4 : Int32} {x5 : Int32} {x6 : Int32} {res : (Int32 × Mem)} (hf : fX13_odds_b155 a62 M x2 x3 x4 x5 x6 = some res) : GG G (Qm G (Pwi res) 0 0) 0 0 155 [(0, rv G.1 103), (2, .int x2), (3, .int x3), (4, .int x4), (5, .int x5), (6, .int x6)] [] M := by
  unfold fX13_odds_b155 at hf
  refine g_iinc h 6 5 rfl (v := x6 + 1) rfl [(6, .int (x6 + 1)), (0, rv G.1 103), (2, .int x2), (3, .int x3), (4, .int x4), (5, .int x5)] (by decide) rfl dX13_odds_155 ?_
  refine g_nmV hf (fun v9 hf => ?_)
  refine g_goto h 62 (by decide) dX13_odds_158 ?_
  refine g_sub [1, 2, 3, 4, 5, 0] rfl ?_
  exact ha62 _ _ _ _ _ _ _ hf

theorem kX13_odds_b142 {G : GX} (h : OKm G cX13_odds RX13 9 (some .int) { frames := 5, cells := 0, slots := 0, locals := 121 }) {a62 : Mem → Int32 → Int32 → Int32 → Int32 → Int32 → Option (Int32 × Mem)} (ha62 : ∀ (M : Mem) (x2 : Int32) (x3 : Int32) (x4 : Int32) (x5 : Int32) (x6 : Int32) (res : (Int32 × Mem)), a62 M x2 x3 x4 x5 x6 = some res → GG G (Qm G (Pwi res) 0 0) 0 0 62 [(0, rv G.1 103), (2, .int x2), (3, .int x3), (4, .int x4), (5, .int x5), (6, .int x6)] [] M) {a98 : Mem → Int32 → Int32 → Int32 → Int32 → Int32 → Int32 → Int32 → Option (Int32 × Mem)} (ha98 : ∀ (M : Mem) (x2 : Int32) (x3 : Int32) (x4 : Int32) (x5 : Int32) (x6 : Int32) (x7 : Int32) (x8 : Int32) (res : (Int32 × Mem)), a98 M x2 x3 x4 x5 x6 x7 x8 = some res → GG G (Qm G (Pwi res) 0 0) 0 0 98 [(0, rv G.1 103), (2, .int x2), (3, .int x3), (4, .int x4), (5, .int x5), (6, .int x6), (7, .int x7), (8, .int x8)] [] M) {M : Mem} {x2 : Int32} {x3 : Int32} {x4 : Int32} {x5 : Int32} {x6 : Int32} {x7 : Int32} {x8 : Int32} {res : (Int32 × Mem)} (hf : fX13_odds_b142 a62 a98 M x2 x3 x4 x5 x6 x7 x8 = some res) : GG G (Qm G (Pwi res) 0 0) 0 0 142 [(0, rv G.1 103), (2, .int x2), (3, .int x3), (4, .int x4), (5, .int x5), (6, .int x6), (7, .int x7), (8, .int x8)] [] M := by
  unfold fX13_odds_b142 at hf
  refine g_iinc h 8 7 rfl (v := x8 + 1) rfl [(8, .int (x8 + 1)), (0, rv G.1 103), (2, .int x2), (3, .int x3), (4, .int x4), (5, .int x5), (6, .int x6), (7, .int x7)] (by decide) rfl dX13_odds_142 ?_
  refine g_nmV hf (fun v13 hf => ?_)
  refine g_goto h 98 (by decide) dX13_odds_145 ?_
  refine g_sub [1, 2, 3, 4, 5, 6, 7, 0] rfl ?_
  exact ha98 _ _ _ _ _ _ _ _ _ hf

theorem kX13_odds_b139 {G : GX} (h : OKm G cX13_odds RX13 9 (some .int) { frames := 5, cells := 0, slots := 0, locals := 121 }) {a62 : Mem → Int32 → Int32 → Int32 → Int32 → Int32 → Option (Int32 × Mem)} (ha62 : ∀ (M : Mem) (x2 : Int32) (x3 : Int32) (x4 : Int32) (x5 : Int32) (x6 : Int32) (res : (Int32 × Mem)), a62 M x2 x3 x4 x5 x6 = some res → GG G (Qm G (Pwi res) 0 0) 0 0 62 [(0, rv G.1 103), (2, .int x2), (3, .int x3), (4, .int x4), (5, .int x5), (6, .int x6)] [] M) {a98 : Mem → Int32 → Int32 → Int32 → Int32 → Int32 → Int32 → Int32 → Option (Int32 × Mem)} (ha98 : ∀ (M : Mem) (x2 : Int32) (x3 : Int32) (x4 : Int32) (x5 : Int32) (x6 : Int32) (x7 : Int32) (x8 : Int32) (res : (Int32 × Mem)), a98 M x2 x3 x4 x5 x6 x7 x8 = some res → GG G (Qm G (Pwi res) 0 0) 0 0 98 [(0, rv G.1 103), (2, .int x2), (3, .int x3), (4, .int x4), (5, .int x5), (6, .int x6), (7, .int x7), (8, .int x8)] [] M) {M : Mem} {x2 : Int32} {x3 : Int32} {x4 : Int32} {x5 : Int32} {x6 : Int32} {x8 : Int32} {s0 : Int32} {s1 : Int32} {res : (Int32 × Mem)} (hf : fX13_odds_b139 a62 a98 M x2 x3 x4 x5 x6 x8 s0 s1 = some res) : GG G (Qm G (Pwi res) 0 0) 0 0 139 [(0, rv G.1 103), (2, .int x2), (3, .int x3), (4, .int x4), (5, .int x5), (6, .int x6), (8, .int x8)] [.int s0, .int s1] M := by
  unfold fX13_odds_b139 at hf
  refine g_imul h dX13_odds_139 ?_
  refine g_nmI hf (fun v14 hf => ?_)
  refine g_istore h [(7, .int v14), (0, rv G.1 103), (2, .int x2), (3, .int x3), (4, .int x4), (5, .int x5), (6, .int x6), (8, .int x8)] (by decide) rfl dX13_odds_140 ?_
  refine g_sub [1, 2, 3, 4, 5, 6, 0, 7] rfl ?_
  exact kX13_odds_b142 h ha62 ha98 hf

theorem kX13_odds_l98 {G : GX} (h : OKm G cX13_odds RX13 9 (some .int) { frames := 5, cells := 0, slots := 0, locals := 121 }) {a62 : Mem → Int32 → Int32 → Int32 → Int32 → Int32 → Option (Int32 × Mem)} (ha62 : ∀ (M : Mem) (x2 : Int32) (x3 : Int32) (x4 : Int32) (x5 : Int32) (x6 : Int32) (res : (Int32 × Mem)), a62 M x2 x3 x4 x5 x6 = some res → GG G (Qm G (Pwi res) 0 0) 0 0 62 [(0, rv G.1 103), (2, .int x2), (3, .int x3), (4, .int x4), (5, .int x5), (6, .int x6)] [] M) : ∀ (n : Nat) (M : Mem) (x2 : Int32) (x3 : Int32) (x4 : Int32) (x5 : Int32) (x6 : Int32) (x7 : Int32) (x8 : Int32) (res : (Int32 × Mem)), fX13_odds_l98 a62 n M x2 x3 x4 x5 x6 x7 x8 = some res → GG G (Qm G (Pwi res) 0 0) 0 0 98 [(0, rv G.1 103), (2, .int x2), (3, .int x3), (4, .int x4), (5, .int x5), (6, .int x6), (7, .int x7), (8, .int x8)] [] M := by
  intro n
  induction n with
  | zero => intro M x2 x3 x4 x5 x6 x7 x8 res hf; rw [fX13_odds_l98] at hf; cases hf
  | succ n ih =>
    intro M x2 x3 x4 x5 x6 x7 x8 res hf
    rw [fX13_odds_l98] at hf
    refine g_iload h 7 rfl dX13_odds_98 ?_
    refine g_aload_n h 0 rfl dX13_odds_100 ?_
    refine gfX13_339 h (by decide : kd 103 = 11) dX13_odds_101 ?_
    refine g_nmI hf (fun v11 hf => ?_)
    refine g_ic_ge h 148 (by decide) hf dX13_odds_104 (fun hf => ?_) (fun hf => ?_)
    · refine g_iload h 4 rfl dX13_odds_148 ?_
      refine g_iload h 6 rfl dX13_odds_150 ?_
      refine g_iadd h dX13_odds_152 ?_
      refine g_nmI hf (fun v12 hf => ?_)
      refine g_istore h [(5, .int v12), (0, rv G.1 103), (2, .int x2), (3, .int x3), (4, .int x4), (6, .int x6), (7, .int x7), (8, .int x8)] (by decide) rfl dX13_odds_153 ?_
      refine g_sub [1, 2, 3, 4, 0, 5] rfl ?_
      exact kX13_odds_b155 h ha62 hf
    · refine g_iload h 3 rfl dX13_odds_107 ?_
      refine g_iload h 7 rfl dX13_odds_109 ?_
      refine g_ishr h dX13_odds_111 ?_
      refine g_iconst h 1 (v := 1) (by decide) dX13_odds_112 ?_
      refine g_iand h dX13_odds_113 ?_
      refine g_iconst h 1 (v := 1) (by decide) dX13_odds_114 ?_
      refine g_ic_ne h 142 (by decide) hf dX13_odds_115 (fun hf => ?_) (fun hf => ?_)
      · refine g_sub [0, 1, 2, 3, 4, 5, 6, 7] rfl ?_
        exact kX13_odds_b142 h ha62 ih hf
      · refine g_iload h 6 rfl dX13_odds_118 ?_
        refine g_iload h 5 rfl dX13_odds_120 ?_
        refine g_iload h 7 rfl dX13_odds_122 ?_
        refine g_ishr h dX13_odds_124 ?_
        refine g_iconst h 1 (v := 1) (by decide) dX13_odds_125 ?_
        refine g_iand h dX13_odds_126 ?_
        refine g_iconst h 1 (v := 1) (by decide) dX13_odds_127 ?_
        refine g_ic_ne h 135 (by decide) hf dX13_odds_128 (fun hf => ?_) (fun hf => ?_)
        · refine g_bipush h 10 (v := 10) (by decide) dX13_odds_135 ?_
          refine g_iload_n h 1 rfl dX13_odds_137 ?_
          refine g_isub h dX13_odds_138 ?_
          refine g_sub [0, 1, 2, 3, 4, 5, 7] rfl ?_
          exact kX13_odds_b139 h ha62 ih hf
        · refine g_iload_n h 1 rfl dX13_odds_131 ?_
          refine g_goto h 139 (by decide) dX13_odds_132 ?_
          refine g_sub [0, 1, 2, 3, 4, 5, 7] rfl ?_
          exact kX13_odds_b139 h ha62 ih hf

theorem kX13_odds_l62 {G : GX} (h : OKm G cX13_odds RX13 9 (some .int) { frames := 5, cells := 0, slots := 0, locals := 121 }) : ∀ (n : Nat) (M : Mem) (x2 : Int32) (x3 : Int32) (x4 : Int32) (x5 : Int32) (x6 : Int32) (res : (Int32 × Mem)), fX13_odds_l62 n M x2 x3 x4 x5 x6 = some res → GG G (Qm G (Pwi res) 0 0) 0 0 62 [(0, rv G.1 103), (2, .int x2), (3, .int x3), (4, .int x4), (5, .int x5), (6, .int x6)] [] M := by
  intro n
  induction n with
  | zero => intro M x2 x3 x4 x5 x6 res hf; rw [fX13_odds_l62] at hf; cases hf
  | succ n ih =>
    intro M x2 x3 x4 x5 x6 res hf
    rw [fX13_odds_l62] at hf
    refine g_iload h 5 rfl dX13_odds_62 ?_
    refine g_iload h 3 rfl dX13_odds_64 ?_
    refine g_ic_gt h 161 (by decide) hf dX13_odds_66 (fun hf => ?_) (fun hf => ?_)
    · refine g_iload h 4 rfl dX13_odds_161 ?_
      cases hf
      exact g_iret h rfl ⟨rfl, rfl⟩ (Nat.le_refl _) (Nat.le_refl _) dX13_odds_163
    · refine g_iload h 5 rfl dX13_odds_69 ?_
      refine g_iload h 3 rfl dX13_odds_71 ?_
      refine g_iconst h (-1) (v := (-1)) (by decide) dX13_odds_73 ?_
      refine g_ixor h dX13_odds_74 ?_
      refine g_iand h dX13_odds_75 ?_
      refine g_if_ne h 155 (by decide) hf dX13_odds_76 (fun hf => ?_) (fun hf => ?_)
      · refine g_sub [0, 1, 2, 3, 4, 5] rfl ?_
        exact kX13_odds_b155 h ih hf
      · refine g_aload_n h 0 rfl dX13_odds_79 ?_
        refine g_iload h 5 rfl dX13_odds_80 ?_
        obtain ⟨v10, hq, hf⟩ := bd_some hf
        refine g_callVri (As := [.int x6]) (rest := []) h ceX13_menOf mlX13_378 imX13_menOf seX13_menOf (by rfl) (kd_lt (by rw [(by decide : kd 103 = 11)]; decide)) (ent_11 (by decide : kd 103 = 11)) rfl rfl ⟨by decide, by decide⟩ ⟨by decide, by decide⟩ rfl dX13_odds_82 rfl (Nat.le_of_ble_eq_true rfl) (cmX13_menOf hq) ?_
        refine g_iload_n h 2 rfl dX13_odds_85 ?_
        refine g_ic_ge h 92 (by decide) hf dX13_odds_86 (fun hf => ?_) (fun hf => ?_)
        · refine g_iconst h 1 (v := 1) (by decide) dX13_odds_92 ?_
          refine g_istore h [(7, .int 1), (0, rv G.1 103), (2, .int x2), (3, .int x3), (4, .int x4), (5, .int x5), (6, .int x6)] (by decide) rfl dX13_odds_93 ?_
          refine g_iconst h 0 (v := 0) (by decide) dX13_odds_95 ?_
          refine g_istore h [(8, .int 0), (7, .int 1), (0, rv G.1 103), (2, .int x2), (3, .int x3), (4, .int x4), (5, .int x5), (6, .int x6)] (by decide) rfl dX13_odds_96 ?_
          refine g_sub [2, 3, 4, 5, 6, 7, 1, 0] rfl ?_
          exact kX13_odds_l98 h ih _ _ _ _ _ _ _ _ _ _ hf
        · refine g_goto h 155 (by decide) dX13_odds_89 ?_
          refine g_sub [0, 1, 2, 3, 4, 5] rfl ?_
          exact kX13_odds_b155 h ih hf

theorem kX13_odds_b39 {G : GX} (h : OKm G cX13_odds RX13 9 (some .int) { frames := 5, cells := 0, slots := 0, locals := 121 }) {M : Mem} {x1 : Int32} {x2 : Int32} {x3 : Int32} {s0 : Int32} {res : (Int32 × Mem)} (hf : fX13_odds_b39 M x1 x2 x3 s0 = some res) : GG G (Qm G (Pwi res) 0 0) 0 0 39 [(0, rv G.1 103), (1, .int x1), (2, .int x2), (3, .int x3)] [.int s0, rv G.1 103] M := by
  unfold fX13_odds_b39 at hf
  refine g_iconst h 2 (v := 2) (by decide) dX13_odds_39 ?_
  obtain ⟨v5, M6, hq, hf⟩ := b2_some hf
  refine g_callVwi (As := [.int s0, .int 2]) (rest := []) h ceX13_right mlX13_326 imX13_right seX13_right (by rfl) (kd_lt (by rw [(by decide : kd 103 = 11)]; decide)) (ent_11 (by decide : kd 103 = 11)) rfl rfl ⟨by decide, by decide⟩ ⟨by decide, by decide⟩ rfl dX13_odds_40 rfl (Nat.le_of_ble_eq_true rfl) (cmX13_right hq) ?_
  refine g_if_ne h 48 (by decide) hf dX13_odds_43 (fun hf => ?_) (fun hf => ?_)
  · refine g_aload_n h 0 rfl dX13_odds_48 ?_
    refine g_iconst h 0 (v := 0) (by decide) dX13_odds_49 ?_
    refine g_iload_n h 1 rfl dX13_odds_50 ?_
    obtain ⟨v7, M8, hq, hf⟩ := b2_some hf
    refine g_callVwi (As := [.int 0, .int x1]) (rest := []) h ceX13_followers mlX13_375 imX13_followers seX13_followers (by rfl) (kd_lt (by rw [(by decide : kd 103 = 11)]; decide)) (ent_11 (by decide : kd 103 = 11)) rfl rfl ⟨by decide, by decide⟩ ⟨by decide, by decide⟩ rfl dX13_odds_51 rfl (Nat.le_of_ble_eq_true rfl) (cmX13_followers hq) ?_
    refine g_istore h [(4, .int v7), (0, rv G.1 103), (1, .int x1), (2, .int x2), (3, .int x3)] (by decide) rfl dX13_odds_54 ?_
    refine g_iconst h 0 (v := 0) (by decide) dX13_odds_56 ?_
    refine g_istore h [(5, .int 0), (4, .int v7), (0, rv G.1 103), (1, .int x1), (2, .int x2), (3, .int x3)] (by decide) rfl dX13_odds_57 ?_
    refine g_iconst h 0 (v := 0) (by decide) dX13_odds_59 ?_
    refine g_istore h [(6, .int 0), (5, .int 0), (4, .int v7), (0, rv G.1 103), (1, .int x1), (2, .int x2), (3, .int x3)] (by decide) rfl dX13_odds_60 ?_
    refine g_sub [3, 5, 6, 2, 1, 0] rfl ?_
    exact kX13_odds_l62 h _ _ _ _ _ _ _ _ hf
  · refine g_iconst h 0 (v := 0) (by decide) dX13_odds_46 ?_
    cases hf
    exact g_iret h rfl ⟨rfl, rfl⟩ (Nat.le_refl _) (Nat.le_refl _) dX13_odds_47

theorem kX13_odds_b38 {G : GX} (h : OKm G cX13_odds RX13 9 (some .int) { frames := 5, cells := 0, slots := 0, locals := 121 }) {M : Mem} {x1 : Int32} {x2 : Int32} {x3 : Int32} {res : (Int32 × Mem)} (hf : fX13_odds_b38 M x1 x2 x3 = some res) : GG G (Qm G (Pwi res) 0 0) 0 0 38 [(0, rv G.1 103), (1, .int x1), (2, .int x2), (3, .int x3)] [rv G.1 103] M := by
  unfold fX13_odds_b38 at hf
  refine g_iconst h 0 (v := 0) (by decide) dX13_odds_38 ?_
  refine g_sub [0, 1, 2, 3] rfl ?_
  exact kX13_odds_b39 h hf

theorem kX13_odds_e0 {G : GX} (h : OKm G cX13_odds RX13 9 (some .int) { frames := 5, cells := 0, slots := 0, locals := 121 }) {M : Mem} {x1 : Int32} {x2 : Int32} {x3 : Int32} {res : (Int32 × Mem)} (hf : fX13_odds M x1 x2 x3 = some res) : GG G (Qm G (Pwi res) 0 0) 0 0 0 [(0, rv G.1 103), (1, .int x1), (2, .int x2), (3, .int x3)] [] M := by
  unfold fX13_odds at hf
  refine g_aload_n h 0 rfl dX13_odds_0 ?_
  refine g_iconst h 0 (v := 0) (by decide) dX13_odds_1 ?_
  refine pfX13_141 h (by decide : kd 103 = 11) dX13_odds_2 ?_
  refine g_nmM hf (fun M1 hf => ?_)
  refine g_aload_n h 0 rfl dX13_odds_5 ?_
  refine g_iload_n h 1 rfl dX13_odds_6 ?_
  obtain ⟨v2, M3, hq, hf⟩ := b2_some hf
  refine g_callVwi (As := [.int x1]) (rest := []) h ceX13_isBrother mlX13_417 imX13_isBrother seX13_isBrother (by rfl) (kd_lt (by rw [(by decide : kd 103 = 11)]; decide)) (ent_11 (by decide : kd 103 = 11)) rfl rfl ⟨by decide, by decide⟩ ⟨by decide, by decide⟩ rfl dX13_odds_7 rfl (Nat.le_of_ble_eq_true rfl) (cmX13_isBrother hq) ?_
  refine g_if_eq h 46 (by decide) hf dX13_odds_10 (fun hf => ?_) (fun hf => ?_)
  · refine g_iconst h 0 (v := 0) (by decide) dX13_odds_46 ?_
    cases hf
    exact g_iret h rfl ⟨rfl, rfl⟩ (Nat.le_refl _) (Nat.le_refl _) dX13_odds_47
  · refine g_aload_n h 0 rfl dX13_odds_13 ?_
    refine g_iload_n h 2 rfl dX13_odds_14 ?_
    refine g_iconst h 1 (v := 1) (by decide) dX13_odds_15 ?_
    refine g_bipush h 9 (v := 9) (by decide) dX13_odds_16 ?_
    obtain ⟨v4, hq, hf⟩ := bd_some hf
    refine g_callSri (As := [.int x2, .int 1, .int 9]) (rest := [rv G.1 103]) h ceX13_within mlX13_407 smX13_within rfl rfl ⟨by decide, by decide⟩ ⟨by decide, by decide⟩ rfl dX13_odds_18 rfl (Nat.le_of_ble_eq_true rfl) (cmX13_within hq) ?_
    refine g_if_eq h 38 (by decide) hf dX13_odds_21 (fun hf => ?_) (fun hf => ?_)
    · refine g_sub [0, 1, 2, 3] rfl ?_
      exact kX13_odds_b38 h hf
    · refine g_iload_n h 3 rfl dX13_odds_24 ?_
      refine g_iconst h 0 (v := 0) (by decide) dX13_odds_25 ?_
      refine g_bipush h 54 (v := 54) (by decide) dX13_odds_26 ?_
      obtain ⟨v15, hq, hf⟩ := bd_some hf
      refine g_callSri (As := [.int x3, .int 0, .int 54]) (rest := [rv G.1 103]) h ceX13_within mlX13_407 smX13_within rfl rfl ⟨by decide, by decide⟩ ⟨by decide, by decide⟩ rfl dX13_odds_28 rfl (Nat.le_of_ble_eq_true rfl) (cmX13_within hq) ?_
      refine g_if_eq h 38 (by decide) hf dX13_odds_31 (fun hf => ?_) (fun hf => ?_)
      · refine g_sub [0, 1, 2, 3] rfl ?_
        exact kX13_odds_b38 h hf
      · refine g_iconst h 1 (v := 1) (by decide) dX13_odds_34 ?_
        refine g_goto h 39 (by decide) dX13_odds_35 ?_
        refine g_sub [0, 1, 2, 3] rfl ?_
        exact kX13_odds_b39 h hf

theorem cmX13_odds {l : Launch} {w : WX} {M : Mem} {x1 : Int32} {x2 : Int32} {x3 : Int32} {res : (Int32 × Mem)} (hf : fX13_odds M x1 x2 x3 = some res) : CM l w yX13_odds cX13_odds 9 (some .int) { frames := 5, cells := 0, slots := 0, locals := 121 } 0 0 [rv w 103, .int x1, .int x2, .int x3] M (Pwi res) := by
  refine CM_of (by decide) (by decide) (fun G hw hl h => ?_)
  subst hw
  exact kX13_odds_e0 h hf

-- X13_parties
theorem kX13_parties_b57 {G : GX} (h : OKm G cX13_parties RX13 5 (some .int) { frames := 2, cells := 0, slots := 0, locals := 44 }) {a23 : Mem → Int32 → Int32 → Int32 → Int32 → Option (Int32 × Mem)} (ha23 : ∀ (M : Mem) (x1 : Int32) (x2 : Int32) (x3 : Int32) (x4 : Int32) (res : (Int32 × Mem)), a23 M x1 x2 x3 x4 = some res → GG G (Qm G (Pwi res) 0 0) 0 0 23 [(0, rv G.1 103), (1, .int x1), (2, .int x2), (3, .int x3), (4, .int x4)] [] M) {M : Mem} {x1 : Int32} {x2 : Int32} {x3 : Int32} {x4 : Int32} {res : (Int32 × Mem)} (hf : fX13_parties_b57 a23 M x1 x2 x3 x4 = some res) : GG G (Qm G (Pwi res) 0 0) 0 0 57 [(0, rv G.1 103), (1, .int x1), (2, .int x2), (3, .int x3), (4, .int x4)] [] M := by
  unfold fX13_parties_b57 at hf
  refine g_iinc h 4 4 rfl (v := x4 + 1) rfl [(4, .int (x4 + 1)), (0, rv G.1 103), (1, .int x1), (2, .int x2), (3, .int x3)] (by decide) rfl dX13_parties_57 ?_
  refine g_nmV hf (fun v7 hf => ?_)
  refine g_goto h 23 (by decide) dX13_parties_60 ?_
  refine g_sub [1, 2, 3, 4, 0] rfl ?_
  exact ha23 _ _ _ _ _ _ hf

theorem kX13_parties_l23 {G : GX} (h : OKm G cX13_parties RX13 5 (some .int) { frames := 2, cells := 0, slots := 0, locals := 44 }) : ∀ (n : Nat) (M : Mem) (x1 : Int32) (x2 : Int32) (x3 : Int32) (x4 : Int32) (res : (Int32 × Mem)), fX13_parties_l23 n M x1 x2 x3 x4 = some res → GG G (Qm G (Pwi res) 0 0) 0 0 23 [(0, rv G.1 103), (1, .int x1), (2, .int x2), (3, .int x3), (4, .int x4)] [] M := by
  intro n
  induction n with
  | zero => intro M x1 x2 x3 x4 res hf; rw [fX13_parties_l23] at hf; cases hf
  | succ n ih =>
    intro M x1 x2 x3 x4 res hf
    rw [fX13_parties_l23] at hf
    refine g_iload h 4 rfl dX13_parties_23 ?_
    refine g_iconst h 1 (v := 1) (by decide) dX13_parties_25 ?_
    refine g_aload_n h 0 rfl dX13_parties_26 ?_
    refine gfX13_339 h (by decide : kd 103 = 11) dX13_parties_27 ?_
    refine g_nmI hf (fun v4 hf => ?_)
    refine g_ishl h dX13_parties_30 ?_
    refine g_ic_ge h 63 (by decide) hf dX13_parties_31 (fun hf => ?_) (fun hf => ?_)
    · refine g_iload_n h 1 rfl dX13_parties_63 ?_
      refine g_if_ne h 71 (by decide) hf dX13_parties_64 (fun hf => ?_) (fun hf => ?_)
      · refine g_iload_n h 3 rfl dX13_parties_71 ?_
        cases hf
        exact g_iret h rfl ⟨rfl, rfl⟩ (Nat.le_refl _) (Nat.le_refl _) dX13_parties_72
      · refine g_iload_n h 2 rfl dX13_parties_67 ?_
        refine g_goto h 72 (by decide) dX13_parties_68 ?_
        cases hf
        exact g_iret h rfl ⟨rfl, rfl⟩ (Nat.le_refl _) (Nat.le_refl _) dX13_parties_72
    · refine g_aload_n h 0 rfl dX13_parties_34 ?_
      refine g_iload h 4 rfl dX13_parties_35 ?_
      obtain ⟨v5, hq, hf⟩ := bd_some hf
      refine g_callVri (As := [.int x4]) (rest := []) h ceX13_isResting mlX13_471 imX13_isResting seX13_isResting (by rfl) (kd_lt (by rw [(by decide : kd 103 = 11)]; decide)) (ent_11 (by decide : kd 103 = 11)) rfl rfl ⟨by decide, by decide⟩ ⟨by decide, by decide⟩ rfl dX13_parties_37 rfl (Nat.le_of_ble_eq_true rfl) (cmX13_isResting hq) ?_
      refine g_if_ne h 46 (by decide) hf dX13_parties_40 (fun hf => ?_) (fun hf => ?_)
      · refine g_iinc h 2 2 rfl (v := x2 + 1) rfl [(2, .int (x2 + 1)), (0, rv G.1 103), (1, .int x1), (3, .int x3), (4, .int x4)] (by decide) rfl dX13_parties_46 ?_
        refine g_nmV hf (fun v6 hf => ?_)
        refine g_iload_n h 3 rfl dX13_parties_49 ?_
        refine g_iconst h (-1) (v := (-1)) (by decide) dX13_parties_50 ?_
        refine g_ic_ne h 57 (by decide) hf dX13_parties_51 (fun hf => ?_) (fun hf => ?_)
        · refine g_sub [1, 2, 0, 3, 4] rfl ?_
          exact kX13_parties_b57 h ih hf
        · refine g_iload h 4 rfl dX13_parties_54 ?_
          refine g_istore_n h rfl [(3, .int x4), (2, .int v6), (0, rv G.1 103), (1, .int x1), (4, .int x4)] (by decide) rfl dX13_parties_56 ?_
          refine g_sub [2, 3, 1, 0, 4] rfl ?_
          exact kX13_parties_b57 h ih hf
      · refine g_goto h 57 (by decide) dX13_parties_43 ?_
        refine g_sub [0, 1, 2, 3, 4] rfl ?_
        exact kX13_parties_b57 h ih hf

theorem kX13_parties_e0 {G : GX} (h : OKm G cX13_parties RX13 5 (some .int) { frames := 2, cells := 0, slots := 0, locals := 44 }) {M : Mem} {x1 : Int32} {res : (Int32 × Mem)} (hf : fX13_parties M x1 = some res) : GG G (Qm G (Pwi res) 0 0) 0 0 0 [(0, rv G.1 103), (1, .int x1)] [] M := by
  unfold fX13_parties at hf
  refine g_aload_n h 0 rfl dX13_parties_0 ?_
  refine g_iconst h 0 (v := 0) (by decide) dX13_parties_1 ?_
  refine pfX13_141 h (by decide : kd 103 = 11) dX13_parties_2 ?_
  refine g_nmM hf (fun M1 hf => ?_)
  refine g_aload_n h 0 rfl dX13_parties_5 ?_
  refine g_iload_n h 1 rfl dX13_parties_6 ?_
  refine g_iconst h 1 (v := 1) (by decide) dX13_parties_7 ?_
  obtain ⟨v2, M3, hq, hf⟩ := b2_some hf
  refine g_callVwi (As := [.int x1, .int 1]) (rest := []) h ceX13_isWhat mlX13_414 imX13_isWhat seX13_isWhat (by rfl) (kd_lt (by rw [(by decide : kd 103 = 11)]; decide)) (ent_11 (by decide : kd 103 = 11)) rfl rfl ⟨by decide, by decide⟩ ⟨by decide, by decide⟩ rfl dX13_parties_8 rfl (Nat.le_of_ble_eq_true rfl) (cmX13_isWhat hq) ?_
  refine g_if_ne h 16 (by decide) hf dX13_parties_11 (fun hf => ?_) (fun hf => ?_)
  · refine g_iconst h 0 (v := 0) (by decide) dX13_parties_16 ?_
    refine g_istore_n h rfl [(2, .int 0), (0, rv G.1 103), (1, .int x1)] (by decide) rfl dX13_parties_17 ?_
    refine g_iconst h (-1) (v := (-1)) (by decide) dX13_parties_18 ?_
    refine g_istore_n h rfl [(3, .int (-1)), (2, .int 0), (0, rv G.1 103), (1, .int x1)] (by decide) rfl dX13_parties_19 ?_
    refine g_iconst h 0 (v := 0) (by decide) dX13_parties_20 ?_
    refine g_istore h [(4, .int 0), (3, .int (-1)), (2, .int 0), (0, rv G.1 103), (1, .int x1)] (by decide) rfl dX13_parties_21 ?_
    refine g_sub [3, 4, 2, 1, 0] rfl ?_
    exact kX13_parties_l23 h _ _ _ _ _ _ _ hf
  · refine g_iconst h 0 (v := 0) (by decide) dX13_parties_14 ?_
    cases hf
    exact g_iret h rfl ⟨rfl, rfl⟩ (Nat.le_refl _) (Nat.le_refl _) dX13_parties_15

theorem cmX13_parties {l : Launch} {w : WX} {M : Mem} {x1 : Int32} {res : (Int32 × Mem)} (hf : fX13_parties M x1 = some res) : CM l w yX13_parties cX13_parties 5 (some .int) { frames := 2, cells := 0, slots := 0, locals := 44 } 0 0 [rv w 103, .int x1] M (Pwi res) := by
  refine CM_of (by decide) (by decide) (fun G hw hl h => ?_)
  subst hw
  exact kX13_parties_e0 h hf

-- X13_triesDeed
theorem kX13_triesDeed_b56 {G : GX} (h : OKm G cX13_triesDeed RX13 3 (some .boolean) { frames := 7, cells := 0, slots := 0, locals := 166 }) {M : Mem} {x1 : Int32} {x2 : Int32} {res : (Int32 × Mem)} (hf : fX13_triesDeed_b56 M x1 x2 = some res) : GG G (Qm G (Pwi res) 0 0) 0 0 56 [(0, rv G.1 103), (1, .int x1), (2, .int x2)] [] M := by
  unfold fX13_triesDeed_b56 at hf
  refine g_aload_n h 0 rfl dX13_triesDeed_56 ?_
  refine g_iload_n h 1 rfl dX13_triesDeed_57 ?_
  refine g_bipush h 31 (v := 31) (by decide) dX13_triesDeed_58 ?_
  refine g_iadd h dX13_triesDeed_60 ?_
  refine g_iload_n h 2 rfl dX13_triesDeed_61 ?_
  obtain ⟨v5, M6, hq, hf⟩ := b2_some hf
  refine g_callVwi (As := [.int (x1 + 31), .int x2]) (rest := []) h ceX13_does mlX13_396 imX13_does seX13_does (by rfl) (kd_lt (by rw [(by decide : kd 103 = 11)]; decide)) (ent_11 (by decide : kd 103 = 11)) rfl rfl ⟨by decide, by decide⟩ ⟨by decide, by decide⟩ rfl dX13_triesDeed_62 rfl (Nat.le_of_ble_eq_true rfl) (cmX13_does hq) ?_
  refine g_pop h rfl dX13_triesDeed_65 ?_
  refine g_aload_n h 0 rfl dX13_triesDeed_66 ?_
  refine g_iload_n h 1 rfl dX13_triesDeed_67 ?_
  refine g_bipush h 31 (v := 31) (by decide) dX13_triesDeed_68 ?_
  refine g_iadd h dX13_triesDeed_70 ?_
  refine g_iconst h 1 (v := 1) (by decide) dX13_triesDeed_71 ?_
  obtain ⟨M7, hq, hf⟩ := bd_some hf
  refine g_callVwv (As := [.int (x1 + 31), .int 1]) (rest := []) h ceX13_ends mlX13_400 imX13_ends seX13_ends (by rfl) (kd_lt (by rw [(by decide : kd 103 = 11)]; decide)) (ent_11 (by decide : kd 103 = 11)) rfl rfl ⟨by decide, by decide⟩ ⟨by decide, by decide⟩ rfl dX13_triesDeed_72 rfl (Nat.le_of_ble_eq_true rfl) (cmX13_ends hq) ?_
  refine g_iconst h 1 (v := 1) (by decide) dX13_triesDeed_75 ?_
  cases hf
  exact g_zret h (by decide) rfl ⟨rfl, rfl⟩ (Nat.le_refl _) (Nat.le_refl _) dX13_triesDeed_76

theorem kX13_triesDeed_e0 {G : GX} (h : OKm G cX13_triesDeed RX13 3 (some .boolean) { frames := 7, cells := 0, slots := 0, locals := 166 }) {M : Mem} {x1 : Int32} {x2 : Int32} {res : (Int32 × Mem)} (hf : fX13_triesDeed M x1 x2 = some res) : GG G (Qm G (Pwi res) 0 0) 0 0 0 [(0, rv G.1 103), (1, .int x1), (2, .int x2)] [] M := by
  unfold fX13_triesDeed at hf
  refine g_aload_n h 0 rfl dX13_triesDeed_0 ?_
  refine g_iload_n h 1 rfl dX13_triesDeed_1 ?_
  refine g_iload_n h 1 rfl dX13_triesDeed_2 ?_
  refine g_bipush h 31 (v := 31) (by decide) dX13_triesDeed_3 ?_
  refine g_iadd h dX13_triesDeed_5 ?_
  obtain ⟨M1, hq, hf⟩ := bd_some hf
  refine g_callVwv (As := [.int x1, .int (x1 + 31)]) (rest := []) h ceX13_lays0 mlX13_432 imX13_lays0 seX13_lays0 (by rfl) (kd_lt (by rw [(by decide : kd 103 = 11)]; decide)) (ent_11 (by decide : kd 103 = 11)) rfl rfl ⟨by decide, by decide⟩ ⟨by decide, by decide⟩ rfl dX13_triesDeed_6 rfl (Nat.le_of_ble_eq_true rfl) (cmX13_lays0 hq) ?_
  refine g_aload_n h 0 rfl dX13_triesDeed_9 ?_
  refine g_iload_n h 1 rfl dX13_triesDeed_10 ?_
  refine g_bipush h 31 (v := 31) (by decide) dX13_triesDeed_11 ?_
  refine g_iadd h dX13_triesDeed_13 ?_
  refine g_aload_n h 0 rfl dX13_triesDeed_14 ?_
  refine g_aload_n h 0 rfl dX13_triesDeed_15 ?_
  refine gfX13_108 h (by decide : kd 103 = 11) dX13_triesDeed_16 ?_
  refine g_iload_n h 1 rfl dX13_triesDeed_19 ?_
  refine g_iconst h 3 (v := 3) (by decide) dX13_triesDeed_20 ?_
  refine g_iadd h dX13_triesDeed_21 ?_
  refine g_iald h 186 (by decide : kd 133 = 20) (by decide) hf dX13_triesDeed_22 (fun v2 hf => ?_)
  obtain ⟨v3, hq, hf⟩ := bd_some hf
  refine g_callVri (As := [.int v2]) (rest := [.int (x1 + 31), rv G.1 103]) h ceX13_harvestOf mlX13_387 imX13_harvestOf seX13_harvestOf (by rfl) (kd_lt (by rw [(by decide : kd 103 = 11)]; decide)) (ent_11 (by decide : kd 103 = 11)) rfl rfl ⟨by decide, by decide⟩ ⟨by decide, by decide⟩ rfl dX13_triesDeed_23 rfl (Nat.le_of_ble_eq_true rfl) (cmX13_harvestOf hq) ?_
  obtain ⟨M4, hq, hf⟩ := bd_some hf
  refine g_callVwv (As := [.int (x1 + 31), .int v3]) (rest := []) h ceX13_gathers mlX13_390 imX13_gathers seX13_gathers (by rfl) (kd_lt (by rw [(by decide : kd 103 = 11)]; decide)) (ent_11 (by decide : kd 103 = 11)) rfl rfl ⟨by decide, by decide⟩ ⟨by decide, by decide⟩ rfl dX13_triesDeed_26 rfl (Nat.le_of_ble_eq_true rfl) (cmX13_gathers hq) ?_
  refine g_iload_n h 2 rfl dX13_triesDeed_29 ?_
  refine g_iconst h (-1) (v := (-1)) (by decide) dX13_triesDeed_30 ?_
  refine g_ic_eq h 56 (by decide) hf dX13_triesDeed_31 (fun hf => ?_) (fun hf => ?_)
  · refine g_sub [0, 1, 2] rfl ?_
    exact kX13_triesDeed_b56 h hf
  · refine g_aload_n h 0 rfl dX13_triesDeed_34 ?_
    refine gfX13_16 h (by decide : kd 103 = 11) dX13_triesDeed_35 ?_
    refine g_iload_n h 2 rfl dX13_triesDeed_38 ?_
    refine g_iald h 7 (by decide : kd 104 = 20) (by decide) hf dX13_triesDeed_39 (fun v8 hf => ?_)
    refine g_aload_n h 0 rfl dX13_triesDeed_40 ?_
    refine gfX13_108 h (by decide : kd 103 = 11) dX13_triesDeed_41 ?_
    refine g_iload_n h 1 rfl dX13_triesDeed_44 ?_
    refine g_bipush h 31 (v := 31) (by decide) dX13_triesDeed_45 ?_
    refine g_iadd h dX13_triesDeed_47 ?_
    refine g_iconst h 0 (v := 0) (by decide) dX13_triesDeed_48 ?_
    refine g_iadd h dX13_triesDeed_49 ?_
    refine g_iald h 186 (by decide : kd 133 = 20) (by decide) hf dX13_triesDeed_50 (fun v9 hf => ?_)
    refine g_ic_le h 56 (by decide) hf dX13_triesDeed_51 (fun hf => ?_) (fun hf => ?_)
    · refine g_sub [0, 1, 2] rfl ?_
      exact kX13_triesDeed_b56 h hf
    · refine g_iconst h 0 (v := 0) (by decide) dX13_triesDeed_54 ?_
      cases hf
      exact g_zret h (by decide) rfl ⟨rfl, rfl⟩ (Nat.le_refl _) (Nat.le_refl _) dX13_triesDeed_55

theorem cmX13_triesDeed {l : Launch} {w : WX} {M : Mem} {x1 : Int32} {x2 : Int32} {res : (Int32 × Mem)} (hf : fX13_triesDeed M x1 x2 = some res) : CM l w yX13_triesDeed cX13_triesDeed 3 (some .boolean) { frames := 7, cells := 0, slots := 0, locals := 166 } 0 0 [rv w 103, .int x1, .int x2] M (Pwi res) := by
  refine CM_of (by decide) (by decide) (fun G hw hl h => ?_)
  subst hw
  exact kX13_triesDeed_e0 h hf

-- X13_planOne
theorem kX13_planOne_b103 {G : GX} (h : OKm G cX13_planOne RX13 8 (some .int) { frames := 8, cells := 0, slots := 0, locals := 188 }) {a9 : Mem → Int32 → Int32 → Int32 → Int32 → Int32 → Option (Int32 × Mem)} (ha9 : ∀ (M : Mem) (x1 : Int32) (x2 : Int32) (x3 : Int32) (x4 : Int32) (x5 : Int32) (res : (Int32 × Mem)), a9 M x1 x2 x3 x4 x5 = some res → GG G (Qm G (Pwi res) 0 0) 0 0 9 [(0, rv G.1 103), (1, .int x1), (2, .int x2), (3, .int x3), (4, .int x4), (5, .int x5)] [] M) {M : Mem} {x1 : Int32} {x2 : Int32} {x3 : Int32} {x4 : Int32} {x5 : Int32} {res : (Int32 × Mem)} (hf : fX13_planOne_b103 a9 M x1 x2 x3 x4 x5 = some res) : GG G (Qm G (Pwi res) 0 0) 0 0 103 [(0, rv G.1 103), (1, .int x1), (2, .int x2), (3, .int x3), (4, .int x4), (5, .int x5)] [] M := by
  unfold fX13_planOne_b103 at hf
  refine g_iinc h 5 5 rfl (v := x5 + 1) rfl [(5, .int (x5 + 1)), (0, rv G.1 103), (1, .int x1), (2, .int x2), (3, .int x3), (4, .int x4)] (by decide) rfl dX13_planOne_103 ?_
  refine g_nmV hf (fun v7 hf => ?_)
  refine g_goto h 9 (by decide) dX13_planOne_106 ?_
  refine g_sub [1, 2, 3, 4, 5, 0] rfl ?_
  exact ha9 _ _ _ _ _ _ _ hf

theorem kX13_planOne_b96 {G : GX} (h : OKm G cX13_planOne RX13 8 (some .int) { frames := 8, cells := 0, slots := 0, locals := 188 }) {a9 : Mem → Int32 → Int32 → Int32 → Int32 → Int32 → Option (Int32 × Mem)} (ha9 : ∀ (M : Mem) (x1 : Int32) (x2 : Int32) (x3 : Int32) (x4 : Int32) (x5 : Int32) (res : (Int32 × Mem)), a9 M x1 x2 x3 x4 x5 = some res → GG G (Qm G (Pwi res) 0 0) 0 0 9 [(0, rv G.1 103), (1, .int x1), (2, .int x2), (3, .int x3), (4, .int x4), (5, .int x5)] [] M) {M : Mem} {x1 : Int32} {x2 : Int32} {x5 : Int32} {x6 : Int32} {x7 : Int32} {res : (Int32 × Mem)} (hf : fX13_planOne_b96 a9 M x1 x2 x5 x6 x7 = some res) : GG G (Qm G (Pwi res) 0 0) 0 0 96 [(0, rv G.1 103), (1, .int x1), (2, .int x2), (5, .int x5), (6, .int x6), (7, .int x7)] [] M := by
  unfold fX13_planOne_b96 at hf
  refine g_iload h 5 rfl dX13_planOne_96 ?_
  refine g_istore_n h rfl [(3, .int x7), (0, rv G.1 103), (1, .int x1), (2, .int x2), (5, .int x5), (6, .int x6), (7, .int x7)] (by decide) rfl dX13_planOne_98 ?_
  refine g_iload h 5 rfl dX13_planOne_99 ?_
  refine g_istore h [(4, .int x6), (3, .int x7), (0, rv G.1 103), (1, .int x1), (2, .int x2), (5, .int x5), (6, .int x6), (7, .int x7)] (by decide) rfl dX13_planOne_101 ?_
  refine g_sub [2, 3, 4, 1, 0, 5] rfl ?_
  exact kX13_planOne_b103 h ha9 hf

theorem kX13_planOne_b33 {G : GX} (h : OKm G cX13_planOne RX13 8 (some .int) { frames := 8, cells := 0, slots := 0, locals := 188 }) {a9 : Mem → Int32 → Int32 → Int32 → Int32 → Int32 → Option (Int32 × Mem)} (ha9 : ∀ (M : Mem) (x1 : Int32) (x2 : Int32) (x3 : Int32) (x4 : Int32) (x5 : Int32) (res : (Int32 × Mem)), a9 M x1 x2 x3 x4 x5 = some res → GG G (Qm G (Pwi res) 0 0) 0 0 9 [(0, rv G.1 103), (1, .int x1), (2, .int x2), (3, .int x3), (4, .int x4), (5, .int x5)] [] M) {M : Mem} {x1 : Int32} {x2 : Int32} {x3 : Int32} {x4 : Int32} {x5 : Int32} {s0 : Int32} {res : (Int32 × Mem)} (hf : fX13_planOne_b33 a9 M x1 x2 x3 x4 x5 s0 = some res) : GG G (Qm G (Pwi res) 0 0) 0 0 33 [(0, rv G.1 103), (1, .int x1), (2, .int x2), (3, .int x3), (4, .int x4), (5, .int x5)] [.int s0] M := by
  unfold fX13_planOne_b33 at hf
  refine g_istore h [(6, .int s0), (0, rv G.1 103), (1, .int x1), (2, .int x2), (3, .int x3), (4, .int x4), (5, .int x5)] (by decide) rfl dX13_planOne_33 ?_
  refine g_aload_n h 1 rfl dX13_planOne_35 ?_
  refine g_iload_n h 2 rfl dX13_planOne_36 ?_
  refine g_iload h 0 rfl dX13_planOne_37 ?_
  obtain ⟨v4, M5, hq, hf⟩ := b2_some hf
  refine g_callVwi (As := [.int x1, .int s0]) (rest := []) h ceX13_triesDeed mlX13_438 imX13_triesDeed seX13_triesDeed (by rfl) (kd_lt (by rw [(by decide : kd 103 = 11)]; decide)) (ent_11 (by decide : kd 103 = 11)) rfl rfl ⟨by decide, by decide⟩ ⟨by decide, by decide⟩ rfl dX13_planOne_39 rfl (Nat.le_of_ble_eq_true rfl) (cmX13_triesDeed hq) ?_
  refine g_if_ne h 48 (by decide) hf dX13_planOne_42 (fun hf => ?_) (fun hf => ?_)
  · refine g_aload_n h 1 rfl dX13_planOne_48 ?_
    refine g_iload_n h 2 rfl dX13_planOne_49 ?_
    refine g_bipush h 31 (v := 31) (by decide) dX13_planOne_50 ?_
    refine g_iadd h dX13_planOne_52 ?_
    refine g_iload_n h 3 rfl dX13_planOne_53 ?_
    obtain ⟨v6, hq, hf⟩ := bd_some hf
    refine g_callVri (As := [.int (x1 + 31), .int x2]) (rest := []) h ceX13_ahead0 mlX13_441 imX13_ahead0 seX13_ahead0 (by rfl) (kd_lt (by rw [(by decide : kd 103 = 11)]; decide)) (ent_11 (by decide : kd 103 = 11)) rfl rfl ⟨by decide, by decide⟩ ⟨by decide, by decide⟩ rfl dX13_planOne_54 rfl (Nat.le_of_ble_eq_true rfl) (cmX13_ahead0 hq) ?_
    refine g_istore h [(7, .int v6), (6, .int s0), (0, rv G.1 103), (1, .int x1), (2, .int x2), (3, .int x3), (4, .int x4), (5, .int x5)] (by decide) rfl dX13_planOne_57 ?_
    refine g_iload h 6 rfl dX13_planOne_59 ?_
    refine g_bipush h (-2) (v := (-2)) (by decide) dX13_planOne_61 ?_
    refine g_ic_eq h 96 (by decide) hf dX13_planOne_63 (fun hf => ?_) (fun hf => ?_)
    · refine g_sub [2, 3, 4, 7, 1, 0] rfl ?_
      exact kX13_planOne_b96 h ha9 hf
    · refine g_aload_n h 2 rfl dX13_planOne_66 ?_
      refine gfX13_108 h (by decide : kd 103 = 11) dX13_planOne_67 ?_
      refine g_iload_n h 3 rfl dX13_planOne_70 ?_
      refine g_iconst h 4 (v := 4) (by decide) dX13_planOne_71 ?_
      refine g_iadd h dX13_planOne_72 ?_
      refine g_iald h 186 (by decide : kd 133 = 20) (by decide) hf dX13_planOne_73 (fun v8 hf => ?_)
      refine g_iload_n h 4 rfl dX13_planOne_74 ?_
      refine g_ic_ne h 87 (by decide) hf dX13_planOne_75 (fun hf => ?_) (fun hf => ?_)
      · refine g_iload h 0 rfl dX13_planOne_87 ?_
        refine g_iload_n h 5 rfl dX13_planOne_89 ?_
        refine g_ic_lt h 96 (by decide) hf dX13_planOne_90 (fun hf => ?_) (fun hf => ?_)
        · refine g_sub [2, 3, 4, 7, 1, 0] rfl ?_
          exact kX13_planOne_b96 h ha9 hf
        · refine g_goto h 103 (by decide) dX13_planOne_93 ?_
          refine g_sub [2, 3, 4, 5, 6, 7] rfl ?_
          exact kX13_planOne_b103 h ha9 hf
      · refine g_iload h 0 rfl dX13_planOne_78 ?_
        refine g_iload_n h 5 rfl dX13_planOne_80 ?_
        refine g_ic_gt h 96 (by decide) hf dX13_planOne_81 (fun hf => ?_) (fun hf => ?_)
        · refine g_sub [2, 3, 4, 7, 1, 0] rfl ?_
          exact kX13_planOne_b96 h ha9 hf
        · refine g_goto h 103 (by decide) dX13_planOne_84 ?_
          refine g_sub [2, 3, 4, 5, 6, 7] rfl ?_
          exact kX13_planOne_b103 h ha9 hf
  · refine g_goto h 103 (by decide) dX13_planOne_45 ?_
    refine g_sub [1, 2, 3, 4, 5, 6] rfl ?_
    exact kX13_planOne_b103 h ha9 hf

theorem kX13_planOne_l9 {G : GX} (h : OKm G cX13_planOne RX13 8 (some .int) { frames := 8, cells := 0, slots := 0, locals := 188 }) : ∀ (n : Nat) (M : Mem) (x1 : Int32) (x2 : Int32) (x3 : Int32) (x4 : Int32) (x5 : Int32) (res : (Int32 × Mem)), fX13_planOne_l9 n M x1 x2 x3 x4 x5 = some res → GG G (Qm G (Pwi res) 0 0) 0 0 9 [(0, rv G.1 103), (1, .int x1), (2, .int x2), (3, .int x3), (4, .int x4), (5, .int x5)] [] M := by
  intro n
  induction n with
  | zero => intro M x1 x2 x3 x4 x5 res hf; rw [fX13_planOne_l9] at hf; cases hf
  | succ n ih =>
    intro M x1 x2 x3 x4 x5 res hf
    rw [fX13_planOne_l9] at hf
    refine g_iload h 5 rfl dX13_planOne_9 ?_
    refine g_aload_n h 0 rfl dX13_planOne_11 ?_
    refine gfX13_333 h (by decide : kd 103 = 11) dX13_planOne_12 ?_
    refine g_nmI hf (fun v1 hf => ?_)
    refine g_ic_gt h 109 (by decide) hf dX13_planOne_15 (fun hf => ?_) (fun hf => ?_)
    · refine g_aload_n h 0 rfl dX13_planOne_109 ?_
      refine g_iload h 4 rfl dX13_planOne_110 ?_
      refine pfX13_444 h (by decide : kd 103 = 11) dX13_planOne_112 ?_
      refine g_nmM hf (fun M2 hf => ?_)
      refine g_iload_n h 3 rfl dX13_planOne_115 ?_
      cases hf
      exact g_iret h rfl ⟨rfl, rfl⟩ (Nat.le_refl _) (Nat.le_refl _) dX13_planOne_116
    · refine g_iload h 5 rfl dX13_planOne_18 ?_
      refine g_aload_n h 0 rfl dX13_planOne_20 ?_
      refine gfX13_333 h (by decide : kd 103 = 11) dX13_planOne_21 ?_
      refine g_nmI hf (fun v3 hf => ?_)
      refine g_ic_ne h 31 (by decide) hf dX13_planOne_24 (fun hf => ?_) (fun hf => ?_)
      · refine g_iload h 5 rfl dX13_planOne_31 ?_
        refine g_sub [0, 1, 2, 3, 4, 5] rfl ?_
        exact kX13_planOne_b33 h ih hf
      · refine g_iconst h (-1) (v := (-1)) (by decide) dX13_planOne_27 ?_
        refine g_goto h 33 (by decide) dX13_planOne_28 ?_
        refine g_sub [0, 1, 2, 3, 4, 5] rfl ?_
        exact kX13_planOne_b33 h ih hf

theorem kX13_planOne_e0 {G : GX} (h : OKm G cX13_planOne RX13 8 (some .int) { frames := 8, cells := 0, slots := 0, locals := 188 }) {M : Mem} {x1 : Int32} {x2 : Int32} {res : (Int32 × Mem)} (hf : fX13_planOne M x1 x2 = some res) : GG G (Qm G (Pwi res) 0 0) 0 0 0 [(0, rv G.1 103), (1, .int x1), (2, .int x2)] [] M := by
  unfold fX13_planOne at hf
  refine g_iconst h 0 (v := 0) (by decide) dX13_planOne_0 ?_
  refine g_istore_n h rfl [(3, .int 0), (0, rv G.1 103), (1, .int x1), (2, .int x2)] (by decide) rfl dX13_planOne_1 ?_
  refine g_bipush h (-2) (v := (-2)) (by decide) dX13_planOne_2 ?_
  refine g_istore h [(4, .int (-2)), (3, .int 0), (0, rv G.1 103), (1, .int x1), (2, .int x2)] (by decide) rfl dX13_planOne_4 ?_
  refine g_iconst h 0 (v := 0) (by decide) dX13_planOne_6 ?_
  refine g_istore h [(5, .int 0), (4, .int (-2)), (3, .int 0), (0, rv G.1 103), (1, .int x1), (2, .int x2)] (by decide) rfl dX13_planOne_7 ?_
  refine g_sub [3, 4, 5, 2, 1, 0] rfl ?_
  exact kX13_planOne_l9 h _ _ _ _ _ _ _ _ hf

theorem cmX13_planOne {l : Launch} {w : WX} {M : Mem} {x1 : Int32} {x2 : Int32} {res : (Int32 × Mem)} (hf : fX13_planOne M x1 x2 = some res) : CM l w yX13_planOne cX13_planOne 8 (some .int) { frames := 8, cells := 0, slots := 0, locals := 188 } 0 0 [rv w 103, .int x1, .int x2] M (Pwi res) := by
  refine CM_of (by decide) (by decide) (fun G hw hl h => ?_)
  subst hw
  exact kX13_planOne_e0 h hf

-- X13_planTwo
theorem kX13_planTwo_b103 {G : GX} (h : OKm G cX13_planTwo RX13 8 (some .int) { frames := 9, cells := 0, slots := 0, locals := 215 }) {a9 : Mem → Int32 → Int32 → Int32 → Int32 → Int32 → Option (Int32 × Mem)} (ha9 : ∀ (M : Mem) (x1 : Int32) (x2 : Int32) (x3 : Int32) (x4 : Int32) (x5 : Int32) (res : (Int32 × Mem)), a9 M x1 x2 x3 x4 x5 = some res → GG G (Qm G (Pwi res) 0 0) 0 0 9 [(0, rv G.1 103), (1, .int x1), (2, .int x2), (3, .int x3), (4, .int x4), (5, .int x5)] [] M) {M : Mem} {x1 : Int32} {x2 : Int32} {x3 : Int32} {x4 : Int32} {x5 : Int32} {res : (Int32 × Mem)} (hf : fX13_planTwo_b103 a9 M x1 x2 x3 x4 x5 = some res) : GG G (Qm G (Pwi res) 0 0) 0 0 103 [(0, rv G.1 103), (1, .int x1), (2, .int x2), (3, .int x3), (4, .int x4), (5, .int x5)] [] M := by
  unfold fX13_planTwo_b103 at hf
  refine g_iinc h 5 5 rfl (v := x5 + 1) rfl [(5, .int (x5 + 1)), (0, rv G.1 103), (1, .int x1), (2, .int x2), (3, .int x3), (4, .int x4)] (by decide) rfl dX13_planTwo_103 ?_
  refine g_nmV hf (fun v8 hf => ?_)
  refine g_goto h 9 (by decide) dX13_planTwo_106 ?_
  refine g_sub [1, 2, 3, 4, 5, 0] rfl ?_
  exact ha9 _ _ _ _ _ _ _ hf

theorem kX13_planTwo_b96 {G : GX} (h : OKm G cX13_planTwo RX13 8 (some .int) { frames := 9, cells := 0, slots := 0, locals := 215 }) {a9 : Mem → Int32 → Int32 → Int32 → Int32 → Int32 → Option (Int32 × Mem)} (ha9 : ∀ (M : Mem) (x1 : Int32) (x2 : Int32) (x3 : Int32) (x4 : Int32) (x5 : Int32) (res : (Int32 × Mem)), a9 M x1 x2 x3 x4 x5 = some res → GG G (Qm G (Pwi res) 0 0) 0 0 9 [(0, rv G.1 103), (1, .int x1), (2, .int x2), (3, .int x3), (4, .int x4), (5, .int x5)] [] M) {M : Mem} {x1 : Int32} {x2 : Int32} {x5 : Int32} {x6 : Int32} {x7 : Int32} {res : (Int32 × Mem)} (hf : fX13_planTwo_b96 a9 M x1 x2 x5 x6 x7 = some res) : GG G (Qm G (Pwi res) 0 0) 0 0 96 [(0, rv G.1 103), (1, .int x1), (2, .int x2), (5, .int x5), (6, .int x6), (7, .int x7)] [] M := by
  unfold fX13_planTwo_b96 at hf
  refine g_iload h 5 rfl dX13_planTwo_96 ?_
  refine g_istore_n h rfl [(3, .int x7), (0, rv G.1 103), (1, .int x1), (2, .int x2), (5, .int x5), (6, .int x6), (7, .int x7)] (by decide) rfl dX13_planTwo_98 ?_
  refine g_iload h 5 rfl dX13_planTwo_99 ?_
  refine g_istore h [(4, .int x6), (3, .int x7), (0, rv G.1 103), (1, .int x1), (2, .int x2), (5, .int x5), (6, .int x6), (7, .int x7)] (by decide) rfl dX13_planTwo_101 ?_
  refine g_sub [2, 3, 4, 1, 0, 5] rfl ?_
  exact kX13_planTwo_b103 h ha9 hf

theorem kX13_planTwo_b33 {G : GX} (h : OKm G cX13_planTwo RX13 8 (some .int) { frames := 9, cells := 0, slots := 0, locals := 215 }) {a9 : Mem → Int32 → Int32 → Int32 → Int32 → Int32 → Option (Int32 × Mem)} (ha9 : ∀ (M : Mem) (x1 : Int32) (x2 : Int32) (x3 : Int32) (x4 : Int32) (x5 : Int32) (res : (Int32 × Mem)), a9 M x1 x2 x3 x4 x5 = some res → GG G (Qm G (Pwi res) 0 0) 0 0 9 [(0, rv G.1 103), (1, .int x1), (2, .int x2), (3, .int x3), (4, .int x4), (5, .int x5)] [] M) {M : Mem} {x1 : Int32} {x2 : Int32} {x3 : Int32} {x4 : Int32} {x5 : Int32} {s0 : Int32} {res : (Int32 × Mem)} (hf : fX13_planTwo_b33 a9 M x1 x2 x3 x4 x5 s0 = some res) : GG G (Qm G (Pwi res) 0 0) 0 0 33 [(0, rv G.1 103), (1, .int x1), (2, .int x2), (3, .int x3), (4, .int x4), (5, .int x5)] [.int s0] M := by
  unfold fX13_planTwo_b33 at hf
  refine g_istore h [(6, .int s0), (0, rv G.1 103), (1, .int x1), (2, .int x2), (3, .int x3), (4, .int x4), (5, .int x5)] (by decide) rfl dX13_planTwo_33 ?_
  refine g_aload_n h 1 rfl dX13_planTwo_35 ?_
  refine g_iload_n h 2 rfl dX13_planTwo_36 ?_
  refine g_iload h 0 rfl dX13_planTwo_37 ?_
  obtain ⟨v4, M5, hq, hf⟩ := b2_some hf
  refine g_callVwi (As := [.int x1, .int s0]) (rest := []) h ceX13_triesDeed mlX13_438 imX13_triesDeed seX13_triesDeed (by rfl) (kd_lt (by rw [(by decide : kd 103 = 11)]; decide)) (ent_11 (by decide : kd 103 = 11)) rfl rfl ⟨by decide, by decide⟩ ⟨by decide, by decide⟩ rfl dX13_planTwo_39 rfl (Nat.le_of_ble_eq_true rfl) (cmX13_triesDeed hq) ?_
  refine g_if_ne h 48 (by decide) hf dX13_planTwo_42 (fun hf => ?_) (fun hf => ?_)
  · refine g_aload_n h 1 rfl dX13_planTwo_48 ?_
    refine g_iload_n h 2 rfl dX13_planTwo_49 ?_
    refine g_bipush h 31 (v := 31) (by decide) dX13_planTwo_50 ?_
    refine g_iadd h dX13_planTwo_52 ?_
    refine g_iload_n h 3 rfl dX13_planTwo_53 ?_
    obtain ⟨v6, M7, hq, hf⟩ := b2_some hf
    refine g_callVwi (As := [.int (x1 + 31), .int x2]) (rest := []) h ceX13_planOne mlX13_447 imX13_planOne seX13_planOne (by rfl) (kd_lt (by rw [(by decide : kd 103 = 11)]; decide)) (ent_11 (by decide : kd 103 = 11)) rfl rfl ⟨by decide, by decide⟩ ⟨by decide, by decide⟩ rfl dX13_planTwo_54 rfl (Nat.le_of_ble_eq_true rfl) (cmX13_planOne hq) ?_
    refine g_istore h [(7, .int v6), (6, .int s0), (0, rv G.1 103), (1, .int x1), (2, .int x2), (3, .int x3), (4, .int x4), (5, .int x5)] (by decide) rfl dX13_planTwo_57 ?_
    refine g_iload h 6 rfl dX13_planTwo_59 ?_
    refine g_bipush h (-2) (v := (-2)) (by decide) dX13_planTwo_61 ?_
    refine g_ic_eq h 96 (by decide) hf dX13_planTwo_63 (fun hf => ?_) (fun hf => ?_)
    · refine g_sub [2, 3, 4, 7, 1, 0] rfl ?_
      exact kX13_planTwo_b96 h ha9 hf
    · refine g_aload_n h 2 rfl dX13_planTwo_66 ?_
      refine gfX13_108 h (by decide : kd 103 = 11) dX13_planTwo_67 ?_
      refine g_iload_n h 3 rfl dX13_planTwo_70 ?_
      refine g_iconst h 4 (v := 4) (by decide) dX13_planTwo_71 ?_
      refine g_iadd h dX13_planTwo_72 ?_
      refine g_iald h 186 (by decide : kd 133 = 20) (by decide) hf dX13_planTwo_73 (fun v9 hf => ?_)
      refine g_iload_n h 4 rfl dX13_planTwo_74 ?_
      refine g_ic_ne h 87 (by decide) hf dX13_planTwo_75 (fun hf => ?_) (fun hf => ?_)
      · refine g_iload h 0 rfl dX13_planTwo_87 ?_
        refine g_iload_n h 5 rfl dX13_planTwo_89 ?_
        refine g_ic_lt h 96 (by decide) hf dX13_planTwo_90 (fun hf => ?_) (fun hf => ?_)
        · refine g_sub [2, 3, 4, 7, 1, 0] rfl ?_
          exact kX13_planTwo_b96 h ha9 hf
        · refine g_goto h 103 (by decide) dX13_planTwo_93 ?_
          refine g_sub [2, 3, 4, 5, 6, 7] rfl ?_
          exact kX13_planTwo_b103 h ha9 hf
      · refine g_iload h 0 rfl dX13_planTwo_78 ?_
        refine g_iload_n h 5 rfl dX13_planTwo_80 ?_
        refine g_ic_gt h 96 (by decide) hf dX13_planTwo_81 (fun hf => ?_) (fun hf => ?_)
        · refine g_sub [2, 3, 4, 7, 1, 0] rfl ?_
          exact kX13_planTwo_b96 h ha9 hf
        · refine g_goto h 103 (by decide) dX13_planTwo_84 ?_
          refine g_sub [2, 3, 4, 5, 6, 7] rfl ?_
          exact kX13_planTwo_b103 h ha9 hf
  · refine g_goto h 103 (by decide) dX13_planTwo_45 ?_
    refine g_sub [1, 2, 3, 4, 5, 6] rfl ?_
    exact kX13_planTwo_b103 h ha9 hf

theorem kX13_planTwo_l9 {G : GX} (h : OKm G cX13_planTwo RX13 8 (some .int) { frames := 9, cells := 0, slots := 0, locals := 215 }) : ∀ (n : Nat) (M : Mem) (x1 : Int32) (x2 : Int32) (x3 : Int32) (x4 : Int32) (x5 : Int32) (res : (Int32 × Mem)), fX13_planTwo_l9 n M x1 x2 x3 x4 x5 = some res → GG G (Qm G (Pwi res) 0 0) 0 0 9 [(0, rv G.1 103), (1, .int x1), (2, .int x2), (3, .int x3), (4, .int x4), (5, .int x5)] [] M := by
  intro n
  induction n with
  | zero => intro M x1 x2 x3 x4 x5 res hf; rw [fX13_planTwo_l9] at hf; cases hf
  | succ n ih =>
    intro M x1 x2 x3 x4 x5 res hf
    rw [fX13_planTwo_l9] at hf
    refine g_iload h 5 rfl dX13_planTwo_9 ?_
    refine g_aload_n h 0 rfl dX13_planTwo_11 ?_
    refine gfX13_333 h (by decide : kd 103 = 11) dX13_planTwo_12 ?_
    refine g_nmI hf (fun v1 hf => ?_)
    refine g_ic_gt h 109 (by decide) hf dX13_planTwo_15 (fun hf => ?_) (fun hf => ?_)
    · refine g_aload_n h 0 rfl dX13_planTwo_109 ?_
      refine g_iload h 4 rfl dX13_planTwo_110 ?_
      refine pfX13_444 h (by decide : kd 103 = 11) dX13_planTwo_112 ?_
      refine g_nmM hf (fun M2 hf => ?_)
      refine g_iload_n h 3 rfl dX13_planTwo_115 ?_
      cases hf
      exact g_iret h rfl ⟨rfl, rfl⟩ (Nat.le_refl _) (Nat.le_refl _) dX13_planTwo_116
    · refine g_iload h 5 rfl dX13_planTwo_18 ?_
      refine g_aload_n h 0 rfl dX13_planTwo_20 ?_
      refine gfX13_333 h (by decide : kd 103 = 11) dX13_planTwo_21 ?_
      refine g_nmI hf (fun v3 hf => ?_)
      refine g_ic_ne h 31 (by decide) hf dX13_planTwo_24 (fun hf => ?_) (fun hf => ?_)
      · refine g_iload h 5 rfl dX13_planTwo_31 ?_
        refine g_sub [0, 1, 2, 3, 4, 5] rfl ?_
        exact kX13_planTwo_b33 h ih hf
      · refine g_iconst h (-1) (v := (-1)) (by decide) dX13_planTwo_27 ?_
        refine g_goto h 33 (by decide) dX13_planTwo_28 ?_
        refine g_sub [0, 1, 2, 3, 4, 5] rfl ?_
        exact kX13_planTwo_b33 h ih hf

theorem kX13_planTwo_e0 {G : GX} (h : OKm G cX13_planTwo RX13 8 (some .int) { frames := 9, cells := 0, slots := 0, locals := 215 }) {M : Mem} {x1 : Int32} {x2 : Int32} {res : (Int32 × Mem)} (hf : fX13_planTwo M x1 x2 = some res) : GG G (Qm G (Pwi res) 0 0) 0 0 0 [(0, rv G.1 103), (1, .int x1), (2, .int x2)] [] M := by
  unfold fX13_planTwo at hf
  refine g_iconst h 0 (v := 0) (by decide) dX13_planTwo_0 ?_
  refine g_istore_n h rfl [(3, .int 0), (0, rv G.1 103), (1, .int x1), (2, .int x2)] (by decide) rfl dX13_planTwo_1 ?_
  refine g_bipush h (-2) (v := (-2)) (by decide) dX13_planTwo_2 ?_
  refine g_istore h [(4, .int (-2)), (3, .int 0), (0, rv G.1 103), (1, .int x1), (2, .int x2)] (by decide) rfl dX13_planTwo_4 ?_
  refine g_iconst h 0 (v := 0) (by decide) dX13_planTwo_6 ?_
  refine g_istore h [(5, .int 0), (4, .int (-2)), (3, .int 0), (0, rv G.1 103), (1, .int x1), (2, .int x2)] (by decide) rfl dX13_planTwo_7 ?_
  refine g_sub [3, 4, 5, 2, 1, 0] rfl ?_
  exact kX13_planTwo_l9 h _ _ _ _ _ _ _ _ hf

theorem cmX13_planTwo {l : Launch} {w : WX} {M : Mem} {x1 : Int32} {x2 : Int32} {res : (Int32 × Mem)} (hf : fX13_planTwo M x1 x2 = some res) : CM l w yX13_planTwo cX13_planTwo 8 (some .int) { frames := 9, cells := 0, slots := 0, locals := 215 } 0 0 [rv w 103, .int x1, .int x2] M (Pwi res) := by
  refine CM_of (by decide) (by decide) (fun G hw hl h => ?_)
  subst hw
  exact kX13_planTwo_e0 h hf

-- X13_planThree
theorem kX13_planThree_b103 {G : GX} (h : OKm G cX13_planThree RX13 8 (some .int) { frames := 10, cells := 0, slots := 0, locals := 242 }) {a9 : Mem → Int32 → Int32 → Int32 → Int32 → Int32 → Option (Int32 × Mem)} (ha9 : ∀ (M : Mem) (x1 : Int32) (x2 : Int32) (x3 : Int32) (x4 : Int32) (x5 : Int32) (res : (Int32 × Mem)), a9 M x1 x2 x3 x4 x5 = some res → GG G (Qm G (Pwi res) 0 0) 0 0 9 [(0, rv G.1 103), (1, .int x1), (2, .int x2), (3, .int x3), (4, .int x4), (5, .int x5)] [] M) {M : Mem} {x1 : Int32} {x2 : Int32} {x3 : Int32} {x4 : Int32} {x5 : Int32} {res : (Int32 × Mem)} (hf : fX13_planThree_b103 a9 M x1 x2 x3 x4 x5 = some res) : GG G (Qm G (Pwi res) 0 0) 0 0 103 [(0, rv G.1 103), (1, .int x1), (2, .int x2), (3, .int x3), (4, .int x4), (5, .int x5)] [] M := by
  unfold fX13_planThree_b103 at hf
  refine g_iinc h 5 5 rfl (v := x5 + 1) rfl [(5, .int (x5 + 1)), (0, rv G.1 103), (1, .int x1), (2, .int x2), (3, .int x3), (4, .int x4)] (by decide) rfl dX13_planThree_103 ?_
  refine g_nmV hf (fun v8 hf => ?_)
  refine g_goto h 9 (by decide) dX13_planThree_106 ?_
  refine g_sub [1, 2, 3, 4, 5, 0] rfl ?_
  exact ha9 _ _ _ _ _ _ _ hf

theorem kX13_planThree_b96 {G : GX} (h : OKm G cX13_planThree RX13 8 (some .int) { frames := 10, cells := 0, slots := 0, locals := 242 }) {a9 : Mem → Int32 → Int32 → Int32 → Int32 → Int32 → Option (Int32 × Mem)} (ha9 : ∀ (M : Mem) (x1 : Int32) (x2 : Int32) (x3 : Int32) (x4 : Int32) (x5 : Int32) (res : (Int32 × Mem)), a9 M x1 x2 x3 x4 x5 = some res → GG G (Qm G (Pwi res) 0 0) 0 0 9 [(0, rv G.1 103), (1, .int x1), (2, .int x2), (3, .int x3), (4, .int x4), (5, .int x5)] [] M) {M : Mem} {x1 : Int32} {x2 : Int32} {x5 : Int32} {x6 : Int32} {x7 : Int32} {res : (Int32 × Mem)} (hf : fX13_planThree_b96 a9 M x1 x2 x5 x6 x7 = some res) : GG G (Qm G (Pwi res) 0 0) 0 0 96 [(0, rv G.1 103), (1, .int x1), (2, .int x2), (5, .int x5), (6, .int x6), (7, .int x7)] [] M := by
  unfold fX13_planThree_b96 at hf
  refine g_iload h 5 rfl dX13_planThree_96 ?_
  refine g_istore_n h rfl [(3, .int x7), (0, rv G.1 103), (1, .int x1), (2, .int x2), (5, .int x5), (6, .int x6), (7, .int x7)] (by decide) rfl dX13_planThree_98 ?_
  refine g_iload h 5 rfl dX13_planThree_99 ?_
  refine g_istore h [(4, .int x6), (3, .int x7), (0, rv G.1 103), (1, .int x1), (2, .int x2), (5, .int x5), (6, .int x6), (7, .int x7)] (by decide) rfl dX13_planThree_101 ?_
  refine g_sub [2, 3, 4, 1, 0, 5] rfl ?_
  exact kX13_planThree_b103 h ha9 hf

theorem kX13_planThree_b33 {G : GX} (h : OKm G cX13_planThree RX13 8 (some .int) { frames := 10, cells := 0, slots := 0, locals := 242 }) {a9 : Mem → Int32 → Int32 → Int32 → Int32 → Int32 → Option (Int32 × Mem)} (ha9 : ∀ (M : Mem) (x1 : Int32) (x2 : Int32) (x3 : Int32) (x4 : Int32) (x5 : Int32) (res : (Int32 × Mem)), a9 M x1 x2 x3 x4 x5 = some res → GG G (Qm G (Pwi res) 0 0) 0 0 9 [(0, rv G.1 103), (1, .int x1), (2, .int x2), (3, .int x3), (4, .int x4), (5, .int x5)] [] M) {M : Mem} {x1 : Int32} {x2 : Int32} {x3 : Int32} {x4 : Int32} {x5 : Int32} {s0 : Int32} {res : (Int32 × Mem)} (hf : fX13_planThree_b33 a9 M x1 x2 x3 x4 x5 s0 = some res) : GG G (Qm G (Pwi res) 0 0) 0 0 33 [(0, rv G.1 103), (1, .int x1), (2, .int x2), (3, .int x3), (4, .int x4), (5, .int x5)] [.int s0] M := by
  unfold fX13_planThree_b33 at hf
  refine g_istore h [(6, .int s0), (0, rv G.1 103), (1, .int x1), (2, .int x2), (3, .int x3), (4, .int x4), (5, .int x5)] (by decide) rfl dX13_planThree_33 ?_
  refine g_aload_n h 1 rfl dX13_planThree_35 ?_
  refine g_iload_n h 2 rfl dX13_planThree_36 ?_
  refine g_iload h 0 rfl dX13_planThree_37 ?_
  obtain ⟨v4, M5, hq, hf⟩ := b2_some hf
  refine g_callVwi (As := [.int x1, .int s0]) (rest := []) h ceX13_triesDeed mlX13_438 imX13_triesDeed seX13_triesDeed (by rfl) (kd_lt (by rw [(by decide : kd 103 = 11)]; decide)) (ent_11 (by decide : kd 103 = 11)) rfl rfl ⟨by decide, by decide⟩ ⟨by decide, by decide⟩ rfl dX13_planThree_39 rfl (Nat.le_of_ble_eq_true rfl) (cmX13_triesDeed hq) ?_
  refine g_if_ne h 48 (by decide) hf dX13_planThree_42 (fun hf => ?_) (fun hf => ?_)
  · refine g_aload_n h 1 rfl dX13_planThree_48 ?_
    refine g_iload_n h 2 rfl dX13_planThree_49 ?_
    refine g_bipush h 31 (v := 31) (by decide) dX13_planThree_50 ?_
    refine g_iadd h dX13_planThree_52 ?_
    refine g_iload_n h 3 rfl dX13_planThree_53 ?_
    obtain ⟨v6, M7, hq, hf⟩ := b2_some hf
    refine g_callVwi (As := [.int (x1 + 31), .int x2]) (rest := []) h ceX13_planTwo mlX13_450 imX13_planTwo seX13_planTwo (by rfl) (kd_lt (by rw [(by decide : kd 103 = 11)]; decide)) (ent_11 (by decide : kd 103 = 11)) rfl rfl ⟨by decide, by decide⟩ ⟨by decide, by decide⟩ rfl dX13_planThree_54 rfl (Nat.le_of_ble_eq_true rfl) (cmX13_planTwo hq) ?_
    refine g_istore h [(7, .int v6), (6, .int s0), (0, rv G.1 103), (1, .int x1), (2, .int x2), (3, .int x3), (4, .int x4), (5, .int x5)] (by decide) rfl dX13_planThree_57 ?_
    refine g_iload h 6 rfl dX13_planThree_59 ?_
    refine g_bipush h (-2) (v := (-2)) (by decide) dX13_planThree_61 ?_
    refine g_ic_eq h 96 (by decide) hf dX13_planThree_63 (fun hf => ?_) (fun hf => ?_)
    · refine g_sub [2, 3, 4, 7, 1, 0] rfl ?_
      exact kX13_planThree_b96 h ha9 hf
    · refine g_aload_n h 2 rfl dX13_planThree_66 ?_
      refine gfX13_108 h (by decide : kd 103 = 11) dX13_planThree_67 ?_
      refine g_iload_n h 3 rfl dX13_planThree_70 ?_
      refine g_iconst h 4 (v := 4) (by decide) dX13_planThree_71 ?_
      refine g_iadd h dX13_planThree_72 ?_
      refine g_iald h 186 (by decide : kd 133 = 20) (by decide) hf dX13_planThree_73 (fun v9 hf => ?_)
      refine g_iload_n h 4 rfl dX13_planThree_74 ?_
      refine g_ic_ne h 87 (by decide) hf dX13_planThree_75 (fun hf => ?_) (fun hf => ?_)
      · refine g_iload h 0 rfl dX13_planThree_87 ?_
        refine g_iload_n h 5 rfl dX13_planThree_89 ?_
        refine g_ic_lt h 96 (by decide) hf dX13_planThree_90 (fun hf => ?_) (fun hf => ?_)
        · refine g_sub [2, 3, 4, 7, 1, 0] rfl ?_
          exact kX13_planThree_b96 h ha9 hf
        · refine g_goto h 103 (by decide) dX13_planThree_93 ?_
          refine g_sub [2, 3, 4, 5, 6, 7] rfl ?_
          exact kX13_planThree_b103 h ha9 hf
      · refine g_iload h 0 rfl dX13_planThree_78 ?_
        refine g_iload_n h 5 rfl dX13_planThree_80 ?_
        refine g_ic_gt h 96 (by decide) hf dX13_planThree_81 (fun hf => ?_) (fun hf => ?_)
        · refine g_sub [2, 3, 4, 7, 1, 0] rfl ?_
          exact kX13_planThree_b96 h ha9 hf
        · refine g_goto h 103 (by decide) dX13_planThree_84 ?_
          refine g_sub [2, 3, 4, 5, 6, 7] rfl ?_
          exact kX13_planThree_b103 h ha9 hf
  · refine g_goto h 103 (by decide) dX13_planThree_45 ?_
    refine g_sub [1, 2, 3, 4, 5, 6] rfl ?_
    exact kX13_planThree_b103 h ha9 hf

theorem kX13_planThree_l9 {G : GX} (h : OKm G cX13_planThree RX13 8 (some .int) { frames := 10, cells := 0, slots := 0, locals := 242 }) : ∀ (n : Nat) (M : Mem) (x1 : Int32) (x2 : Int32) (x3 : Int32) (x4 : Int32) (x5 : Int32) (res : (Int32 × Mem)), fX13_planThree_l9 n M x1 x2 x3 x4 x5 = some res → GG G (Qm G (Pwi res) 0 0) 0 0 9 [(0, rv G.1 103), (1, .int x1), (2, .int x2), (3, .int x3), (4, .int x4), (5, .int x5)] [] M := by
  intro n
  induction n with
  | zero => intro M x1 x2 x3 x4 x5 res hf; rw [fX13_planThree_l9] at hf; cases hf
  | succ n ih =>
    intro M x1 x2 x3 x4 x5 res hf
    rw [fX13_planThree_l9] at hf
    refine g_iload h 5 rfl dX13_planThree_9 ?_
    refine g_aload_n h 0 rfl dX13_planThree_11 ?_
    refine gfX13_333 h (by decide : kd 103 = 11) dX13_planThree_12 ?_
    refine g_nmI hf (fun v1 hf => ?_)
    refine g_ic_gt h 109 (by decide) hf dX13_planThree_15 (fun hf => ?_) (fun hf => ?_)
    · refine g_aload_n h 0 rfl dX13_planThree_109 ?_
      refine g_iload h 4 rfl dX13_planThree_110 ?_
      refine pfX13_444 h (by decide : kd 103 = 11) dX13_planThree_112 ?_
      refine g_nmM hf (fun M2 hf => ?_)
      refine g_iload_n h 3 rfl dX13_planThree_115 ?_
      cases hf
      exact g_iret h rfl ⟨rfl, rfl⟩ (Nat.le_refl _) (Nat.le_refl _) dX13_planThree_116
    · refine g_iload h 5 rfl dX13_planThree_18 ?_
      refine g_aload_n h 0 rfl dX13_planThree_20 ?_
      refine gfX13_333 h (by decide : kd 103 = 11) dX13_planThree_21 ?_
      refine g_nmI hf (fun v3 hf => ?_)
      refine g_ic_ne h 31 (by decide) hf dX13_planThree_24 (fun hf => ?_) (fun hf => ?_)
      · refine g_iload h 5 rfl dX13_planThree_31 ?_
        refine g_sub [0, 1, 2, 3, 4, 5] rfl ?_
        exact kX13_planThree_b33 h ih hf
      · refine g_iconst h (-1) (v := (-1)) (by decide) dX13_planThree_27 ?_
        refine g_goto h 33 (by decide) dX13_planThree_28 ?_
        refine g_sub [0, 1, 2, 3, 4, 5] rfl ?_
        exact kX13_planThree_b33 h ih hf

theorem kX13_planThree_e0 {G : GX} (h : OKm G cX13_planThree RX13 8 (some .int) { frames := 10, cells := 0, slots := 0, locals := 242 }) {M : Mem} {x1 : Int32} {x2 : Int32} {res : (Int32 × Mem)} (hf : fX13_planThree M x1 x2 = some res) : GG G (Qm G (Pwi res) 0 0) 0 0 0 [(0, rv G.1 103), (1, .int x1), (2, .int x2)] [] M := by
  unfold fX13_planThree at hf
  refine g_iconst h 0 (v := 0) (by decide) dX13_planThree_0 ?_
  refine g_istore_n h rfl [(3, .int 0), (0, rv G.1 103), (1, .int x1), (2, .int x2)] (by decide) rfl dX13_planThree_1 ?_
  refine g_bipush h (-2) (v := (-2)) (by decide) dX13_planThree_2 ?_
  refine g_istore h [(4, .int (-2)), (3, .int 0), (0, rv G.1 103), (1, .int x1), (2, .int x2)] (by decide) rfl dX13_planThree_4 ?_
  refine g_iconst h 0 (v := 0) (by decide) dX13_planThree_6 ?_
  refine g_istore h [(5, .int 0), (4, .int (-2)), (3, .int 0), (0, rv G.1 103), (1, .int x1), (2, .int x2)] (by decide) rfl dX13_planThree_7 ?_
  refine g_sub [3, 4, 5, 2, 1, 0] rfl ?_
  exact kX13_planThree_l9 h _ _ _ _ _ _ _ _ hf

theorem cmX13_planThree {l : Launch} {w : WX} {M : Mem} {x1 : Int32} {x2 : Int32} {res : (Int32 × Mem)} (hf : fX13_planThree M x1 x2 = some res) : CM l w yX13_planThree cX13_planThree 8 (some .int) { frames := 10, cells := 0, slots := 0, locals := 242 } 0 0 [rv w 103, .int x1, .int x2] M (Pwi res) := by
  refine CM_of (by decide) (by decide) (fun G hw hl h => ?_)
  subst hw
  exact kX13_planThree_e0 h hf

-- X13_planFour
theorem kX13_planFour_b103 {G : GX} (h : OKm G cX13_planFour RX13 8 (some .int) { frames := 11, cells := 0, slots := 0, locals := 269 }) {a9 : Mem → Int32 → Int32 → Int32 → Int32 → Int32 → Option (Int32 × Mem)} (ha9 : ∀ (M : Mem) (x1 : Int32) (x2 : Int32) (x3 : Int32) (x4 : Int32) (x5 : Int32) (res : (Int32 × Mem)), a9 M x1 x2 x3 x4 x5 = some res → GG G (Qm G (Pwi res) 0 0) 0 0 9 [(0, rv G.1 103), (1, .int x1), (2, .int x2), (3, .int x3), (4, .int x4), (5, .int x5)] [] M) {M : Mem} {x1 : Int32} {x2 : Int32} {x3 : Int32} {x4 : Int32} {x5 : Int32} {res : (Int32 × Mem)} (hf : fX13_planFour_b103 a9 M x1 x2 x3 x4 x5 = some res) : GG G (Qm G (Pwi res) 0 0) 0 0 103 [(0, rv G.1 103), (1, .int x1), (2, .int x2), (3, .int x3), (4, .int x4), (5, .int x5)] [] M := by
  unfold fX13_planFour_b103 at hf
  refine g_iinc h 5 5 rfl (v := x5 + 1) rfl [(5, .int (x5 + 1)), (0, rv G.1 103), (1, .int x1), (2, .int x2), (3, .int x3), (4, .int x4)] (by decide) rfl dX13_planFour_103 ?_
  refine g_nmV hf (fun v8 hf => ?_)
  refine g_goto h 9 (by decide) dX13_planFour_106 ?_
  refine g_sub [1, 2, 3, 4, 5, 0] rfl ?_
  exact ha9 _ _ _ _ _ _ _ hf

theorem kX13_planFour_b96 {G : GX} (h : OKm G cX13_planFour RX13 8 (some .int) { frames := 11, cells := 0, slots := 0, locals := 269 }) {a9 : Mem → Int32 → Int32 → Int32 → Int32 → Int32 → Option (Int32 × Mem)} (ha9 : ∀ (M : Mem) (x1 : Int32) (x2 : Int32) (x3 : Int32) (x4 : Int32) (x5 : Int32) (res : (Int32 × Mem)), a9 M x1 x2 x3 x4 x5 = some res → GG G (Qm G (Pwi res) 0 0) 0 0 9 [(0, rv G.1 103), (1, .int x1), (2, .int x2), (3, .int x3), (4, .int x4), (5, .int x5)] [] M) {M : Mem} {x1 : Int32} {x2 : Int32} {x5 : Int32} {x6 : Int32} {x7 : Int32} {res : (Int32 × Mem)} (hf : fX13_planFour_b96 a9 M x1 x2 x5 x6 x7 = some res) : GG G (Qm G (Pwi res) 0 0) 0 0 96 [(0, rv G.1 103), (1, .int x1), (2, .int x2), (5, .int x5), (6, .int x6), (7, .int x7)] [] M := by
  unfold fX13_planFour_b96 at hf
  refine g_iload h 5 rfl dX13_planFour_96 ?_
  refine g_istore_n h rfl [(3, .int x7), (0, rv G.1 103), (1, .int x1), (2, .int x2), (5, .int x5), (6, .int x6), (7, .int x7)] (by decide) rfl dX13_planFour_98 ?_
  refine g_iload h 5 rfl dX13_planFour_99 ?_
  refine g_istore h [(4, .int x6), (3, .int x7), (0, rv G.1 103), (1, .int x1), (2, .int x2), (5, .int x5), (6, .int x6), (7, .int x7)] (by decide) rfl dX13_planFour_101 ?_
  refine g_sub [2, 3, 4, 1, 0, 5] rfl ?_
  exact kX13_planFour_b103 h ha9 hf

theorem kX13_planFour_b33 {G : GX} (h : OKm G cX13_planFour RX13 8 (some .int) { frames := 11, cells := 0, slots := 0, locals := 269 }) {a9 : Mem → Int32 → Int32 → Int32 → Int32 → Int32 → Option (Int32 × Mem)} (ha9 : ∀ (M : Mem) (x1 : Int32) (x2 : Int32) (x3 : Int32) (x4 : Int32) (x5 : Int32) (res : (Int32 × Mem)), a9 M x1 x2 x3 x4 x5 = some res → GG G (Qm G (Pwi res) 0 0) 0 0 9 [(0, rv G.1 103), (1, .int x1), (2, .int x2), (3, .int x3), (4, .int x4), (5, .int x5)] [] M) {M : Mem} {x1 : Int32} {x2 : Int32} {x3 : Int32} {x4 : Int32} {x5 : Int32} {s0 : Int32} {res : (Int32 × Mem)} (hf : fX13_planFour_b33 a9 M x1 x2 x3 x4 x5 s0 = some res) : GG G (Qm G (Pwi res) 0 0) 0 0 33 [(0, rv G.1 103), (1, .int x1), (2, .int x2), (3, .int x3), (4, .int x4), (5, .int x5)] [.int s0] M := by
  unfold fX13_planFour_b33 at hf
  refine g_istore h [(6, .int s0), (0, rv G.1 103), (1, .int x1), (2, .int x2), (3, .int x3), (4, .int x4), (5, .int x5)] (by decide) rfl dX13_planFour_33 ?_
  refine g_aload_n h 1 rfl dX13_planFour_35 ?_
  refine g_iload_n h 2 rfl dX13_planFour_36 ?_
  refine g_iload h 0 rfl dX13_planFour_37 ?_
  obtain ⟨v4, M5, hq, hf⟩ := b2_some hf
  refine g_callVwi (As := [.int x1, .int s0]) (rest := []) h ceX13_triesDeed mlX13_438 imX13_triesDeed seX13_triesDeed (by rfl) (kd_lt (by rw [(by decide : kd 103 = 11)]; decide)) (ent_11 (by decide : kd 103 = 11)) rfl rfl ⟨by decide, by decide⟩ ⟨by decide, by decide⟩ rfl dX13_planFour_39 rfl (Nat.le_of_ble_eq_true rfl) (cmX13_triesDeed hq) ?_
  refine g_if_ne h 48 (by decide) hf dX13_planFour_42 (fun hf => ?_) (fun hf => ?_)
  · refine g_aload_n h 1 rfl dX13_planFour_48 ?_
    refine g_iload_n h 2 rfl dX13_planFour_49 ?_
    refine g_bipush h 31 (v := 31) (by decide) dX13_planFour_50 ?_
    refine g_iadd h dX13_planFour_52 ?_
    refine g_iload_n h 3 rfl dX13_planFour_53 ?_
    obtain ⟨v6, M7, hq, hf⟩ := b2_some hf
    refine g_callVwi (As := [.int (x1 + 31), .int x2]) (rest := []) h ceX13_planThree mlX13_453 imX13_planThree seX13_planThree (by rfl) (kd_lt (by rw [(by decide : kd 103 = 11)]; decide)) (ent_11 (by decide : kd 103 = 11)) rfl rfl ⟨by decide, by decide⟩ ⟨by decide, by decide⟩ rfl dX13_planFour_54 rfl (Nat.le_of_ble_eq_true rfl) (cmX13_planThree hq) ?_
    refine g_istore h [(7, .int v6), (6, .int s0), (0, rv G.1 103), (1, .int x1), (2, .int x2), (3, .int x3), (4, .int x4), (5, .int x5)] (by decide) rfl dX13_planFour_57 ?_
    refine g_iload h 6 rfl dX13_planFour_59 ?_
    refine g_bipush h (-2) (v := (-2)) (by decide) dX13_planFour_61 ?_
    refine g_ic_eq h 96 (by decide) hf dX13_planFour_63 (fun hf => ?_) (fun hf => ?_)
    · refine g_sub [2, 3, 4, 7, 1, 0] rfl ?_
      exact kX13_planFour_b96 h ha9 hf
    · refine g_aload_n h 2 rfl dX13_planFour_66 ?_
      refine gfX13_108 h (by decide : kd 103 = 11) dX13_planFour_67 ?_
      refine g_iload_n h 3 rfl dX13_planFour_70 ?_
      refine g_iconst h 4 (v := 4) (by decide) dX13_planFour_71 ?_
      refine g_iadd h dX13_planFour_72 ?_
      refine g_iald h 186 (by decide : kd 133 = 20) (by decide) hf dX13_planFour_73 (fun v9 hf => ?_)
      refine g_iload_n h 4 rfl dX13_planFour_74 ?_
      refine g_ic_ne h 87 (by decide) hf dX13_planFour_75 (fun hf => ?_) (fun hf => ?_)
      · refine g_iload h 0 rfl dX13_planFour_87 ?_
        refine g_iload_n h 5 rfl dX13_planFour_89 ?_
        refine g_ic_lt h 96 (by decide) hf dX13_planFour_90 (fun hf => ?_) (fun hf => ?_)
        · refine g_sub [2, 3, 4, 7, 1, 0] rfl ?_
          exact kX13_planFour_b96 h ha9 hf
        · refine g_goto h 103 (by decide) dX13_planFour_93 ?_
          refine g_sub [2, 3, 4, 5, 6, 7] rfl ?_
          exact kX13_planFour_b103 h ha9 hf
      · refine g_iload h 0 rfl dX13_planFour_78 ?_
        refine g_iload_n h 5 rfl dX13_planFour_80 ?_
        refine g_ic_gt h 96 (by decide) hf dX13_planFour_81 (fun hf => ?_) (fun hf => ?_)
        · refine g_sub [2, 3, 4, 7, 1, 0] rfl ?_
          exact kX13_planFour_b96 h ha9 hf
        · refine g_goto h 103 (by decide) dX13_planFour_84 ?_
          refine g_sub [2, 3, 4, 5, 6, 7] rfl ?_
          exact kX13_planFour_b103 h ha9 hf
  · refine g_goto h 103 (by decide) dX13_planFour_45 ?_
    refine g_sub [1, 2, 3, 4, 5, 6] rfl ?_
    exact kX13_planFour_b103 h ha9 hf

theorem kX13_planFour_l9 {G : GX} (h : OKm G cX13_planFour RX13 8 (some .int) { frames := 11, cells := 0, slots := 0, locals := 269 }) : ∀ (n : Nat) (M : Mem) (x1 : Int32) (x2 : Int32) (x3 : Int32) (x4 : Int32) (x5 : Int32) (res : (Int32 × Mem)), fX13_planFour_l9 n M x1 x2 x3 x4 x5 = some res → GG G (Qm G (Pwi res) 0 0) 0 0 9 [(0, rv G.1 103), (1, .int x1), (2, .int x2), (3, .int x3), (4, .int x4), (5, .int x5)] [] M := by
  intro n
  induction n with
  | zero => intro M x1 x2 x3 x4 x5 res hf; rw [fX13_planFour_l9] at hf; cases hf
  | succ n ih =>
    intro M x1 x2 x3 x4 x5 res hf
    rw [fX13_planFour_l9] at hf
    refine g_iload h 5 rfl dX13_planFour_9 ?_
    refine g_aload_n h 0 rfl dX13_planFour_11 ?_
    refine gfX13_333 h (by decide : kd 103 = 11) dX13_planFour_12 ?_
    refine g_nmI hf (fun v1 hf => ?_)
    refine g_ic_gt h 109 (by decide) hf dX13_planFour_15 (fun hf => ?_) (fun hf => ?_)
    · refine g_aload_n h 0 rfl dX13_planFour_109 ?_
      refine g_iload h 4 rfl dX13_planFour_110 ?_
      refine pfX13_444 h (by decide : kd 103 = 11) dX13_planFour_112 ?_
      refine g_nmM hf (fun M2 hf => ?_)
      refine g_iload_n h 3 rfl dX13_planFour_115 ?_
      cases hf
      exact g_iret h rfl ⟨rfl, rfl⟩ (Nat.le_refl _) (Nat.le_refl _) dX13_planFour_116
    · refine g_iload h 5 rfl dX13_planFour_18 ?_
      refine g_aload_n h 0 rfl dX13_planFour_20 ?_
      refine gfX13_333 h (by decide : kd 103 = 11) dX13_planFour_21 ?_
      refine g_nmI hf (fun v3 hf => ?_)
      refine g_ic_ne h 31 (by decide) hf dX13_planFour_24 (fun hf => ?_) (fun hf => ?_)
      · refine g_iload h 5 rfl dX13_planFour_31 ?_
        refine g_sub [0, 1, 2, 3, 4, 5] rfl ?_
        exact kX13_planFour_b33 h ih hf
      · refine g_iconst h (-1) (v := (-1)) (by decide) dX13_planFour_27 ?_
        refine g_goto h 33 (by decide) dX13_planFour_28 ?_
        refine g_sub [0, 1, 2, 3, 4, 5] rfl ?_
        exact kX13_planFour_b33 h ih hf

theorem kX13_planFour_e0 {G : GX} (h : OKm G cX13_planFour RX13 8 (some .int) { frames := 11, cells := 0, slots := 0, locals := 269 }) {M : Mem} {x1 : Int32} {x2 : Int32} {res : (Int32 × Mem)} (hf : fX13_planFour M x1 x2 = some res) : GG G (Qm G (Pwi res) 0 0) 0 0 0 [(0, rv G.1 103), (1, .int x1), (2, .int x2)] [] M := by
  unfold fX13_planFour at hf
  refine g_iconst h 0 (v := 0) (by decide) dX13_planFour_0 ?_
  refine g_istore_n h rfl [(3, .int 0), (0, rv G.1 103), (1, .int x1), (2, .int x2)] (by decide) rfl dX13_planFour_1 ?_
  refine g_bipush h (-2) (v := (-2)) (by decide) dX13_planFour_2 ?_
  refine g_istore h [(4, .int (-2)), (3, .int 0), (0, rv G.1 103), (1, .int x1), (2, .int x2)] (by decide) rfl dX13_planFour_4 ?_
  refine g_iconst h 0 (v := 0) (by decide) dX13_planFour_6 ?_
  refine g_istore h [(5, .int 0), (4, .int (-2)), (3, .int 0), (0, rv G.1 103), (1, .int x1), (2, .int x2)] (by decide) rfl dX13_planFour_7 ?_
  refine g_sub [3, 4, 5, 2, 1, 0] rfl ?_
  exact kX13_planFour_l9 h _ _ _ _ _ _ _ _ hf

theorem cmX13_planFour {l : Launch} {w : WX} {M : Mem} {x1 : Int32} {x2 : Int32} {res : (Int32 × Mem)} (hf : fX13_planFour M x1 x2 = some res) : CM l w yX13_planFour cX13_planFour 8 (some .int) { frames := 11, cells := 0, slots := 0, locals := 269 } 0 0 [rv w 103, .int x1, .int x2] M (Pwi res) := by
  refine CM_of (by decide) (by decide) (fun G hw hl h => ?_)
  subst hw
  exact kX13_planFour_e0 h hf

