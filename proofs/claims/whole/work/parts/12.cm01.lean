-- X13_ahead0
theorem kX13_ahead0_e0 {G : GX} (h : OKm G cX13_ahead0 RX13 3 (some .int) { frames := 0, cells := 0, slots := 0, locals := 0 }) {M : Mem} {x1 : Int32} {x2 : Int32} {res : Int32} (hf : fX13_ahead0 M x1 x2 = some res) : GG G (Qm G (Pri res M) 0 0) 0 0 0 [(0, rv G.1 103), (1, .int x1), (2, .int x2)] [] M := by
  unfold fX13_ahead0 at hf
  refine g_aload_n h 0 rfl dX13_ahead0_0 ?_
  refine gfX13_108 h (by decide : kd 103 = 11) dX13_ahead0_1 ?_
  refine g_iload_n h 1 rfl dX13_ahead0_4 ?_
  refine g_bipush h 6 (v := 6) (by decide) dX13_ahead0_5 ?_
  refine g_iadd h dX13_ahead0_7 ?_
  refine g_iload_n h 2 rfl dX13_ahead0_8 ?_
  refine g_iadd h dX13_ahead0_9 ?_
  refine g_iald h 186 (by decide : kd 133 = 20) (by decide) hf dX13_ahead0_10 (fun v1 hf => ?_)
  refine g_aload_n h 0 rfl dX13_ahead0_11 ?_
  refine gfX13_108 h (by decide : kd 103 = 11) dX13_ahead0_12 ?_
  refine g_iload_n h 1 rfl dX13_ahead0_15 ?_
  refine g_bipush h 6 (v := 6) (by decide) dX13_ahead0_16 ?_
  refine g_iadd h dX13_ahead0_18 ?_
  refine g_iconst h 1 (v := 1) (by decide) dX13_ahead0_19 ?_
  refine g_iadd h dX13_ahead0_20 ?_
  refine g_iload_n h 2 rfl dX13_ahead0_21 ?_
  refine g_isub h dX13_ahead0_22 ?_
  refine g_iald h 186 (by decide : kd 133 = 20) (by decide) hf dX13_ahead0_23 (fun v2 hf => ?_)
  refine g_isub h dX13_ahead0_24 ?_
  cases hf
  exact g_iret h rfl ⟨rfl, rfl⟩ (Nat.le_refl _) (Nat.le_refl _) dX13_ahead0_25

theorem cmX13_ahead0 {l : Launch} {w : WX} {M : Mem} {x1 : Int32} {x2 : Int32} {res : Int32} (hf : fX13_ahead0 M x1 x2 = some res) : CM l w yX13_ahead0 cX13_ahead0 3 (some .int) { frames := 0, cells := 0, slots := 0, locals := 0 } 0 0 [rv w 103, .int x1, .int x2] M (Pri res M) := by
  refine CM_of (by decide) (by decide) (fun G hw hl h => ?_)
  subst hw
  exact kX13_ahead0_e0 h hf

-- X13_isGood
theorem kX13_isGood_e0 {G : GX} (h : OKm G cX13_isGood RX13 1 (some .boolean) { frames := 0, cells := 0, slots := 0, locals := 0 }) {M : Mem} {res : Int32} (hf : fX13_isGood M = some res) : GG G (Qm G (Pri res M) 0 0) 0 0 0 [(0, rv G.1 103)] [] M := by
  unfold fX13_isGood at hf
  refine g_aload_n h 0 rfl dX13_isGood_0 ?_
  refine gfX13_197 h (by decide : kd 103 = 11) dX13_isGood_1 ?_
  refine g_nmI hf (fun v1 hf => ?_)
  refine g_if_ne h 11 (by decide) hf dX13_isGood_4 (fun hf => ?_) (fun hf => ?_)
  · refine g_iconst h 0 (v := 0) (by decide) dX13_isGood_11 ?_
    cases hf
    exact g_zret h (by decide) rfl ⟨rfl, rfl⟩ (Nat.le_refl _) (Nat.le_refl _) dX13_isGood_12
  · refine g_iconst h 1 (v := 1) (by decide) dX13_isGood_7 ?_
    refine g_goto h 12 (by decide) dX13_isGood_8 ?_
    cases hf
    exact g_zret h (by decide) rfl ⟨rfl, rfl⟩ (Nat.le_refl _) (Nat.le_refl _) dX13_isGood_12

theorem cmX13_isGood {l : Launch} {w : WX} {M : Mem} {res : Int32} (hf : fX13_isGood M = some res) : CM l w yX13_isGood cX13_isGood 1 (some .boolean) { frames := 0, cells := 0, slots := 0, locals := 0 } 0 0 [rv w 103] M (Pri res M) := by
  refine CM_of (by decide) (by decide) (fun G hw hl h => ?_)
  subst hw
  exact kX13_isGood_e0 h hf

-- X13_wrong
theorem kX13_wrong_e0 {G : GX} (h : OKm G cX13_wrong RX13 2 none { frames := 0, cells := 0, slots := 0, locals := 0 }) {M : Mem} {x1 : Int32} {res : Mem} (hf : fX13_wrong M x1 = some res) : GG G (Qm G (Pwv res) 0 0) 0 0 0 [(0, rv G.1 103), (1, .int x1)] [] M := by
  unfold fX13_wrong at hf
  refine g_aload_n h 0 rfl dX13_wrong_0 ?_
  refine gfX13_197 h (by decide : kd 103 = 11) dX13_wrong_1 ?_
  refine g_nmI hf (fun v1 hf => ?_)
  refine g_if_eq h 8 (by decide) hf dX13_wrong_4 (fun hf => ?_) (fun hf => ?_)
  · refine g_aload_n h 0 rfl dX13_wrong_8 ?_
    refine g_iload_n h 1 rfl dX13_wrong_9 ?_
    refine pfX13_197 h (by decide : kd 103 = 11) dX13_wrong_10 ?_
    refine g_nmM hf (fun M2 hf => ?_)
    refine g_aload_n h 0 rfl dX13_wrong_13 ?_
    refine g_aload_n h 0 rfl dX13_wrong_14 ?_
    refine gfX13_161 h (by decide : kd 103 = 11) dX13_wrong_15 ?_
    refine g_nmI hf (fun v3 hf => ?_)
    refine pfX13_56 h (by decide : kd 103 = 11) dX13_wrong_18 ?_
    refine g_nmM hf (fun M4 hf => ?_)
    cases hf
    exact g_vret h rfl ⟨rfl, rfl⟩ (Nat.le_refl _) (Nat.le_refl _) dX13_wrong_21
  · cases hf
    exact g_vret h rfl ⟨rfl, rfl⟩ (Nat.le_refl _) (Nat.le_refl _) dX13_wrong_7

theorem cmX13_wrong {l : Launch} {w : WX} {M : Mem} {x1 : Int32} {res : Mem} (hf : fX13_wrong M x1 = some res) : CM l w yX13_wrong cX13_wrong 2 none { frames := 0, cells := 0, slots := 0, locals := 0 } 0 0 [rv w 103, .int x1] M (Pwv res) := by
  refine CM_of (by decide) (by decide) (fun G hw hl h => ?_)
  subst hw
  exact kX13_wrong_e0 h hf

-- X13_byteAt
theorem kX13_byteAt_e0 {G : GX} (h : OKm G cX13_byteAt RX13 2 (some .int) { frames := 0, cells := 0, slots := 0, locals := 0 }) {M : Mem} {x1 : Int32} {res : Int32} (hf : fX13_byteAt M x1 = some res) : GG G (Qm G (Pri res M) 0 0) 0 0 0 [(0, rv G.1 103), (1, .int x1)] [] M := by
  unfold fX13_byteAt at hf
  refine g_iload_n h 1 rfl dX13_byteAt_0 ?_
  refine g_aload_n h 0 rfl dX13_byteAt_1 ?_
  refine gfX13_151 h (by decide : kd 103 = 11) dX13_byteAt_2 ?_
  refine g_nmI hf (fun v1 hf => ?_)
  refine g_ic_ge h 17 (by decide) hf dX13_byteAt_5 (fun hf => ?_) (fun hf => ?_)
  · refine g_iconst h 0 (v := 0) (by decide) dX13_byteAt_17 ?_
    cases hf
    exact g_iret h rfl ⟨rfl, rfl⟩ (Nat.le_refl _) (Nat.le_refl _) dX13_byteAt_18
  · refine g_aload_n h 0 rfl dX13_byteAt_8 ?_
    refine gfX13_53 h (by decide : kd 103 = 11) dX13_byteAt_9 ?_
    refine g_iload_n h 1 rfl dX13_byteAt_12 ?_
    refine g_iald h 700 (by decide : kd 116 = 20) (by decide) hf dX13_byteAt_13 (fun v2 hf => ?_)
    refine g_goto h 18 (by decide) dX13_byteAt_14 ?_
    cases hf
    exact g_iret h rfl ⟨rfl, rfl⟩ (Nat.le_refl _) (Nat.le_refl _) dX13_byteAt_18

theorem cmX13_byteAt {l : Launch} {w : WX} {M : Mem} {x1 : Int32} {res : Int32} (hf : fX13_byteAt M x1 = some res) : CM l w yX13_byteAt cX13_byteAt 2 (some .int) { frames := 0, cells := 0, slots := 0, locals := 0 } 0 0 [rv w 103, .int x1] M (Pri res M) := by
  refine CM_of (by decide) (by decide) (fun G hw hl h => ?_)
  subst hw
  exact kX13_byteAt_e0 h hf

-- X13_isLetter
theorem kX13_isLetter_e0 {G : GX} (h : OKm G cX13_isLetter RX13 1 (some .boolean) { frames := 0, cells := 0, slots := 0, locals := 0 }) {M : Mem} {x0 : Int32} {res : Int32} (hf : fX13_isLetter x0 = some res) : GG G (Qm G (Pri res M) 0 0) 0 0 0 [(0, .int x0)] [] M := by
  unfold fX13_isLetter at hf
  refine g_iload_n h 0 rfl dX13_isLetter_0 ?_
  refine g_bipush h 97 (v := 97) (by decide) dX13_isLetter_1 ?_
  refine g_ic_lt h 16 (by decide) hf dX13_isLetter_3 (fun hf => ?_) (fun hf => ?_)
  · refine g_iconst h 0 (v := 0) (by decide) dX13_isLetter_16 ?_
    cases hf
    exact g_zret h (by decide) rfl ⟨rfl, rfl⟩ (Nat.le_refl _) (Nat.le_refl _) dX13_isLetter_17
  · refine g_iload_n h 0 rfl dX13_isLetter_6 ?_
    refine g_bipush h 122 (v := 122) (by decide) dX13_isLetter_7 ?_
    refine g_ic_gt h 16 (by decide) hf dX13_isLetter_9 (fun hf => ?_) (fun hf => ?_)
    · refine g_iconst h 0 (v := 0) (by decide) dX13_isLetter_16 ?_
      cases hf
      exact g_zret h (by decide) rfl ⟨rfl, rfl⟩ (Nat.le_refl _) (Nat.le_refl _) dX13_isLetter_17
    · refine g_iconst h 1 (v := 1) (by decide) dX13_isLetter_12 ?_
      refine g_goto h 17 (by decide) dX13_isLetter_13 ?_
      cases hf
      exact g_zret h (by decide) rfl ⟨rfl, rfl⟩ (Nat.le_refl _) (Nat.le_refl _) dX13_isLetter_17

theorem cmX13_isLetter {l : Launch} {w : WX} {M : Mem} {x0 : Int32} {res : Int32} (hf : fX13_isLetter x0 = some res) : CM l w yX13_isLetter cX13_isLetter 1 (some .boolean) { frames := 0, cells := 0, slots := 0, locals := 0 } 0 0 [.int x0] M (Pri res M) := by
  refine CM_of (by decide) (by decide) (fun G hw hl h => ?_)
  subst hw
  exact kX13_isLetter_e0 h hf

-- X13_isDigit
theorem kX13_isDigit_e0 {G : GX} (h : OKm G cX13_isDigit RX13 1 (some .boolean) { frames := 0, cells := 0, slots := 0, locals := 0 }) {M : Mem} {x0 : Int32} {res : Int32} (hf : fX13_isDigit x0 = some res) : GG G (Qm G (Pri res M) 0 0) 0 0 0 [(0, .int x0)] [] M := by
  unfold fX13_isDigit at hf
  refine g_iload_n h 0 rfl dX13_isDigit_0 ?_
  refine g_bipush h 48 (v := 48) (by decide) dX13_isDigit_1 ?_
  refine g_ic_lt h 16 (by decide) hf dX13_isDigit_3 (fun hf => ?_) (fun hf => ?_)
  · refine g_iconst h 0 (v := 0) (by decide) dX13_isDigit_16 ?_
    cases hf
    exact g_zret h (by decide) rfl ⟨rfl, rfl⟩ (Nat.le_refl _) (Nat.le_refl _) dX13_isDigit_17
  · refine g_iload_n h 0 rfl dX13_isDigit_6 ?_
    refine g_bipush h 57 (v := 57) (by decide) dX13_isDigit_7 ?_
    refine g_ic_gt h 16 (by decide) hf dX13_isDigit_9 (fun hf => ?_) (fun hf => ?_)
    · refine g_iconst h 0 (v := 0) (by decide) dX13_isDigit_16 ?_
      cases hf
      exact g_zret h (by decide) rfl ⟨rfl, rfl⟩ (Nat.le_refl _) (Nat.le_refl _) dX13_isDigit_17
    · refine g_iconst h 1 (v := 1) (by decide) dX13_isDigit_12 ?_
      refine g_goto h 17 (by decide) dX13_isDigit_13 ?_
      cases hf
      exact g_zret h (by decide) rfl ⟨rfl, rfl⟩ (Nat.le_refl _) (Nat.le_refl _) dX13_isDigit_17

theorem cmX13_isDigit {l : Launch} {w : WX} {M : Mem} {x0 : Int32} {res : Int32} (hf : fX13_isDigit x0 = some res) : CM l w yX13_isDigit cX13_isDigit 1 (some .boolean) { frames := 0, cells := 0, slots := 0, locals := 0 } 0 0 [.int x0] M (Pri res M) := by
  refine CM_of (by decide) (by decide) (fun G hw hl h => ?_)
  subst hw
  exact kX13_isDigit_e0 h hf

-- X13_within
theorem kX13_within_e0 {G : GX} (h : OKm G cX13_within RX13 3 (some .boolean) { frames := 0, cells := 0, slots := 0, locals := 0 }) {M : Mem} {x0 : Int32} {x1 : Int32} {x2 : Int32} {res : Int32} (hf : fX13_within x0 x1 x2 = some res) : GG G (Qm G (Pri res M) 0 0) 0 0 0 [(0, .int x0), (1, .int x1), (2, .int x2)] [] M := by
  unfold fX13_within at hf
  refine g_iload_n h 0 rfl dX13_within_0 ?_
  refine g_iload_n h 1 rfl dX13_within_1 ?_
  refine g_ic_lt h 14 (by decide) hf dX13_within_2 (fun hf => ?_) (fun hf => ?_)
  · refine g_iconst h 0 (v := 0) (by decide) dX13_within_14 ?_
    cases hf
    exact g_zret h (by decide) rfl ⟨rfl, rfl⟩ (Nat.le_refl _) (Nat.le_refl _) dX13_within_15
  · refine g_iload_n h 0 rfl dX13_within_5 ?_
    refine g_iload_n h 2 rfl dX13_within_6 ?_
    refine g_ic_gt h 14 (by decide) hf dX13_within_7 (fun hf => ?_) (fun hf => ?_)
    · refine g_iconst h 0 (v := 0) (by decide) dX13_within_14 ?_
      cases hf
      exact g_zret h (by decide) rfl ⟨rfl, rfl⟩ (Nat.le_refl _) (Nat.le_refl _) dX13_within_15
    · refine g_iconst h 1 (v := 1) (by decide) dX13_within_10 ?_
      refine g_goto h 15 (by decide) dX13_within_11 ?_
      cases hf
      exact g_zret h (by decide) rfl ⟨rfl, rfl⟩ (Nat.le_refl _) (Nat.le_refl _) dX13_within_15

theorem cmX13_within {l : Launch} {w : WX} {M : Mem} {x0 : Int32} {x1 : Int32} {x2 : Int32} {res : Int32} (hf : fX13_within x0 x1 x2 = some res) : CM l w yX13_within cX13_within 3 (some .boolean) { frames := 0, cells := 0, slots := 0, locals := 0 } 0 0 [.int x0, .int x1, .int x2] M (Pri res M) := by
  refine CM_of (by decide) (by decide) (fun G hw hl h => ?_)
  subst hw
  exact kX13_within_e0 h hf

-- X13_right
theorem kX13_right_b16 {G : GX} (h : OKm G cX13_right RX13 3 (some .boolean) { frames := 0, cells := 0, slots := 0, locals := 0 }) {M : Mem} {res : (Int32 × Mem)} (hf : fX13_right_b16 M = some res) : GG G (Qm G (Pwi res) 0 0) 0 0 16 [(0, rv G.1 103)] [] M := by
  unfold fX13_right_b16 at hf
  refine g_aload_n h 0 rfl dX13_right_16 ?_
  refine gfX13_141 h (by decide : kd 103 = 11) dX13_right_17 ?_
  refine g_nmI hf (fun v2 hf => ?_)
  refine g_if_ne h 27 (by decide) hf dX13_right_20 (fun hf => ?_) (fun hf => ?_)
  · refine g_iconst h 0 (v := 0) (by decide) dX13_right_27 ?_
    cases hf
    exact g_zret h (by decide) rfl ⟨rfl, rfl⟩ (Nat.le_refl _) (Nat.le_refl _) dX13_right_28
  · refine g_iconst h 1 (v := 1) (by decide) dX13_right_23 ?_
    refine g_goto h 28 (by decide) dX13_right_24 ?_
    cases hf
    exact g_zret h (by decide) rfl ⟨rfl, rfl⟩ (Nat.le_refl _) (Nat.le_refl _) dX13_right_28

theorem kX13_right_e0 {G : GX} (h : OKm G cX13_right RX13 3 (some .boolean) { frames := 0, cells := 0, slots := 0, locals := 0 }) {M : Mem} {x1 : Int32} {x2 : Int32} {res : (Int32 × Mem)} (hf : fX13_right M x1 x2 = some res) : GG G (Qm G (Pwi res) 0 0) 0 0 0 [(0, rv G.1 103), (1, .int x1), (2, .int x2)] [] M := by
  unfold fX13_right at hf
  refine g_aload_n h 0 rfl dX13_right_0 ?_
  refine gfX13_141 h (by decide : kd 103 = 11) dX13_right_1 ?_
  refine g_nmI hf (fun v1 hf => ?_)
  refine g_if_ne h 16 (by decide) hf dX13_right_4 (fun hf => ?_) (fun hf => ?_)
  · refine g_sub [0] rfl ?_
    exact kX13_right_b16 h hf
  · refine g_iload_n h 1 rfl dX13_right_7 ?_
    refine g_if_ne h 16 (by decide) hf dX13_right_8 (fun hf => ?_) (fun hf => ?_)
    · refine g_sub [0] rfl ?_
      exact kX13_right_b16 h hf
    · refine g_aload_n h 0 rfl dX13_right_11 ?_
      refine g_iload_n h 2 rfl dX13_right_12 ?_
      refine pfX13_141 h (by decide : kd 103 = 11) dX13_right_13 ?_
      refine g_nmM hf (fun M3 hf => ?_)
      refine g_sub [0] rfl ?_
      exact kX13_right_b16 h hf

theorem cmX13_right {l : Launch} {w : WX} {M : Mem} {x1 : Int32} {x2 : Int32} {res : (Int32 × Mem)} (hf : fX13_right M x1 x2 = some res) : CM l w yX13_right cX13_right 3 (some .boolean) { frames := 0, cells := 0, slots := 0, locals := 0 } 0 0 [rv w 103, .int x1, .int x2] M (Pwi res) := by
  refine CM_of (by decide) (by decide) (fun G hw hl h => ?_)
  subst hw
  exact kX13_right_e0 h hf

-- X13_isWhat
theorem kX13_isWhat_e0 {G : GX} (h : OKm G cX13_isWhat RX13 3 (some .boolean) { frames := 1, cells := 0, slots := 0, locals := 22 }) {M : Mem} {x1 : Int32} {x2 : Int32} {res : (Int32 × Mem)} (hf : fX13_isWhat M x1 x2 = some res) : GG G (Qm G (Pwi res) 0 0) 0 0 0 [(0, rv G.1 103), (1, .int x1), (2, .int x2)] [] M := by
  unfold fX13_isWhat at hf
  refine g_aload_n h 0 rfl dX13_isWhat_0 ?_
  refine g_iload_n h 1 rfl dX13_isWhat_1 ?_
  refine g_iconst h 0 (v := 0) (by decide) dX13_isWhat_2 ?_
  refine g_iload_n h 2 rfl dX13_isWhat_3 ?_
  obtain ⟨v1, hq, hf⟩ := bd_some hf
  refine g_callSri (As := [.int x1, .int 0, .int x2]) (rest := [rv G.1 103]) h ceX13_within mlX13_407 smX13_within rfl rfl ⟨by decide, by decide⟩ ⟨by decide, by decide⟩ rfl dX13_isWhat_4 rfl (Nat.le_of_ble_eq_true rfl) (cmX13_within hq) ?_
  refine g_iconst h 1 (v := 1) (by decide) dX13_isWhat_7 ?_
  obtain ⟨v2, M3, hq, hf⟩ := b2_some hf
  refine g_callVwi (As := [.int v1, .int 1]) (rest := []) h ceX13_right mlX13_326 imX13_right seX13_right (by rfl) (kd_lt (by rw [(by decide : kd 103 = 11)]; decide)) (ent_11 (by decide : kd 103 = 11)) rfl rfl ⟨by decide, by decide⟩ ⟨by decide, by decide⟩ rfl dX13_isWhat_8 rfl (Nat.le_of_ble_eq_true rfl) (cmX13_right hq) ?_
  obtain ⟨hz, hf⟩ := pre_ck hf
  cases hf
  exact g_zret h hz rfl ⟨rfl, rfl⟩ (Nat.le_refl _) (Nat.le_refl _) dX13_isWhat_11

theorem cmX13_isWhat {l : Launch} {w : WX} {M : Mem} {x1 : Int32} {x2 : Int32} {res : (Int32 × Mem)} (hf : fX13_isWhat M x1 x2 = some res) : CM l w yX13_isWhat cX13_isWhat 3 (some .boolean) { frames := 1, cells := 0, slots := 0, locals := 22 } 0 0 [rv w 103, .int x1, .int x2] M (Pwi res) := by
  refine CM_of (by decide) (by decide) (fun G hw hl h => ?_)
  subst hw
  exact kX13_isWhat_e0 h hf

-- X13_lays0
theorem kX13_lays0_l2 {G : GX} (h : OKm G cX13_lays0 RX13 4 none { frames := 0, cells := 0, slots := 0, locals := 0 }) : ∀ (n : Nat) (M : Mem) (x1 : Int32) (x2 : Int32) (x3 : Int32) (res : Mem), fX13_lays0_l2 n M x1 x2 x3 = some res → GG G (Qm G (Pwv res) 0 0) 0 0 2 [(0, rv G.1 103), (1, .int x1), (2, .int x2), (3, .int x3)] [] M := by
  intro n
  induction n with
  | zero => intro M x1 x2 x3 res hf; rw [fX13_lays0_l2] at hf; cases hf
  | succ n ih =>
    intro M x1 x2 x3 res hf
    rw [fX13_lays0_l2] at hf
    refine g_iload_n h 3 rfl dX13_lays0_2 ?_
    refine g_bipush h 31 (v := 31) (by decide) dX13_lays0_3 ?_
    refine g_ic_ge h 30 (by decide) hf dX13_lays0_5 (fun hf => ?_) (fun hf => ?_)
    · cases hf
      exact g_vret h rfl ⟨rfl, rfl⟩ (Nat.le_refl _) (Nat.le_refl _) dX13_lays0_30
    · refine g_aload_n h 0 rfl dX13_lays0_8 ?_
      refine gfX13_108 h (by decide : kd 103 = 11) dX13_lays0_9 ?_
      refine g_iload_n h 2 rfl dX13_lays0_12 ?_
      refine g_iload_n h 3 rfl dX13_lays0_13 ?_
      refine g_iadd h dX13_lays0_14 ?_
      refine g_aload_n h 0 rfl dX13_lays0_15 ?_
      refine gfX13_108 h (by decide : kd 103 = 11) dX13_lays0_16 ?_
      refine g_iload_n h 1 rfl dX13_lays0_19 ?_
      refine g_iload_n h 3 rfl dX13_lays0_20 ?_
      refine g_iadd h dX13_lays0_21 ?_
      refine g_iald h 186 (by decide : kd 133 = 20) (by decide) hf dX13_lays0_22 (fun v1 hf => ?_)
      refine g_iast h 186 (by decide : kd 133 = 20) (by decide) hf dX13_lays0_23 (fun M2 hf => ?_)
      refine g_iinc h 3 3 rfl (v := x3 + 1) rfl [(3, .int (x3 + 1)), (0, rv G.1 103), (1, .int x1), (2, .int x2)] (by decide) rfl dX13_lays0_24 ?_
      refine g_nmV hf (fun v3 hf => ?_)
      refine g_goto h 2 (by decide) dX13_lays0_27 ?_
      refine g_sub [1, 2, 3, 0] rfl ?_
      exact ih _ _ _ _ _ hf

theorem kX13_lays0_e0 {G : GX} (h : OKm G cX13_lays0 RX13 4 none { frames := 0, cells := 0, slots := 0, locals := 0 }) {M : Mem} {x1 : Int32} {x2 : Int32} {res : Mem} (hf : fX13_lays0 M x1 x2 = some res) : GG G (Qm G (Pwv res) 0 0) 0 0 0 [(0, rv G.1 103), (1, .int x1), (2, .int x2)] [] M := by
  unfold fX13_lays0 at hf
  refine g_iconst h 0 (v := 0) (by decide) dX13_lays0_0 ?_
  refine g_istore_n h rfl [(3, .int 0), (0, rv G.1 103), (1, .int x1), (2, .int x2)] (by decide) rfl dX13_lays0_1 ?_
  refine g_sub [1, 2, 3, 0] rfl ?_
  exact kX13_lays0_l2 h _ _ _ _ _ _ hf

theorem cmX13_lays0 {l : Launch} {w : WX} {M : Mem} {x1 : Int32} {x2 : Int32} {res : Mem} (hf : fX13_lays0 M x1 x2 = some res) : CM l w yX13_lays0 cX13_lays0 4 none { frames := 0, cells := 0, slots := 0, locals := 0 } 0 0 [rv w 103, .int x1, .int x2] M (Pwv res) := by
  refine CM_of (by decide) (by decide) (fun G hw hl h => ?_)
  subst hw
  exact kX13_lays0_e0 h hf

-- X13_harvestOf
theorem kX13_harvestOf_e0 {G : GX} (h : OKm G cX13_harvestOf RX13 2 (some .int) { frames := 0, cells := 0, slots := 0, locals := 0 }) {M : Mem} {x1 : Int32} {res : Int32} (hf : fX13_harvestOf M x1 = some res) : GG G (Qm G (Pri res M) 0 0) 0 0 0 [(0, rv G.1 103), (1, .int x1)] [] M := by
  unfold fX13_harvestOf at hf
  refine g_aload_n h 0 rfl dX13_harvestOf_0 ?_
  refine gfX13_336 h (by decide : kd 103 = 11) dX13_harvestOf_1 ?_
  refine g_nmI hf (fun v1 hf => ?_)
  refine g_if_ne h 12 (by decide) hf dX13_harvestOf_4 (fun hf => ?_) (fun hf => ?_)
  · refine g_aload_n h 0 rfl dX13_harvestOf_12 ?_
    refine gfX13_32 h (by decide : kd 103 = 11) dX13_harvestOf_13 ?_
    refine g_iload_n h 1 rfl dX13_harvestOf_16 ?_
    refine g_aload_n h 0 rfl dX13_harvestOf_17 ?_
    refine gfX13_336 h (by decide : kd 103 = 11) dX13_harvestOf_18 ?_
    refine g_nmI hf (fun v2 hf => ?_)
    obtain ⟨hne, hf⟩ := pre_if hf
    refine g_irem h hne dX13_harvestOf_21 ?_
    refine g_iald h 10 (by decide : kd 109 = 20) (by decide) hf dX13_harvestOf_22 (fun v3 hf => ?_)
    cases hf
    exact g_iret h rfl ⟨rfl, rfl⟩ (Nat.le_refl _) (Nat.le_refl _) dX13_harvestOf_23
  · refine g_bipush h 20 (v := 20) (by decide) dX13_harvestOf_7 ?_
    refine g_goto h 23 (by decide) dX13_harvestOf_9 ?_
    cases hf
    exact g_iret h rfl ⟨rfl, rfl⟩ (Nat.le_refl _) (Nat.le_refl _) dX13_harvestOf_23

theorem cmX13_harvestOf {l : Launch} {w : WX} {M : Mem} {x1 : Int32} {res : Int32} (hf : fX13_harvestOf M x1 = some res) : CM l w yX13_harvestOf cX13_harvestOf 2 (some .int) { frames := 0, cells := 0, slots := 0, locals := 0 } 0 0 [rv w 103, .int x1] M (Pri res M) := by
  refine CM_of (by decide) (by decide) (fun G hw hl h => ?_)
  subst hw
  exact kX13_harvestOf_e0 h hf

-- X13_kept
theorem kX13_kept_e0 {G : GX} (h : OKm G cX13_kept RX13 3 (some .int) { frames := 0, cells := 0, slots := 0, locals := 0 }) {M : Mem} {x0 : Int32} {x1 : Int32} {x2 : Int32} {res : Int32} (hf : fX13_kept x0 x1 x2 = some res) : GG G (Qm G (Pri res M) 0 0) 0 0 0 [(0, .int x0), (1, .int x1), (2, .int x2)] [] M := by
  unfold fX13_kept at hf
  refine g_iload_n h 0 rfl dX13_kept_0 ?_
  refine g_iload_n h 1 rfl dX13_kept_1 ?_
  refine g_ic_ge h 9 (by decide) hf dX13_kept_2 (fun hf => ?_) (fun hf => ?_)
  · refine g_iload_n h 0 rfl dX13_kept_9 ?_
    refine g_iload_n h 2 rfl dX13_kept_10 ?_
    refine g_ic_le h 18 (by decide) hf dX13_kept_11 (fun hf => ?_) (fun hf => ?_)
    · refine g_iload_n h 0 rfl dX13_kept_18 ?_
      cases hf
      exact g_iret h rfl ⟨rfl, rfl⟩ (Nat.le_refl _) (Nat.le_refl _) dX13_kept_19
    · refine g_iload_n h 2 rfl dX13_kept_14 ?_
      refine g_goto h 19 (by decide) dX13_kept_15 ?_
      cases hf
      exact g_iret h rfl ⟨rfl, rfl⟩ (Nat.le_refl _) (Nat.le_refl _) dX13_kept_19
  · refine g_iload_n h 1 rfl dX13_kept_5 ?_
    refine g_goto h 19 (by decide) dX13_kept_6 ?_
    cases hf
    exact g_iret h rfl ⟨rfl, rfl⟩ (Nat.le_refl _) (Nat.le_refl _) dX13_kept_19

theorem cmX13_kept {l : Launch} {w : WX} {M : Mem} {x0 : Int32} {x1 : Int32} {x2 : Int32} {res : Int32} (hf : fX13_kept x0 x1 x2 = some res) : CM l w yX13_kept cX13_kept 3 (some .int) { frames := 0, cells := 0, slots := 0, locals := 0 } 0 0 [.int x0, .int x1, .int x2] M (Pri res M) := by
  refine CM_of (by decide) (by decide) (fun G hw hl h => ?_)
  subst hw
  exact kX13_kept_e0 h hf

-- X13_gathers
theorem kX13_gathers_e0 {G : GX} (h : OKm G cX13_gathers RX13 3 none { frames := 1, cells := 0, slots := 0, locals := 22 }) {M : Mem} {x1 : Int32} {x2 : Int32} {res : Mem} (hf : fX13_gathers M x1 x2 = some res) : GG G (Qm G (Pwv res) 0 0) 0 0 0 [(0, rv G.1 103), (1, .int x1), (2, .int x2)] [] M := by
  unfold fX13_gathers at hf
  refine g_aload_n h 0 rfl dX13_gathers_0 ?_
  refine gfX13_108 h (by decide : kd 103 = 11) dX13_gathers_1 ?_
  refine g_iload_n h 1 rfl dX13_gathers_4 ?_
  refine g_iconst h 0 (v := 0) (by decide) dX13_gathers_5 ?_
  refine g_iadd h dX13_gathers_6 ?_
  refine g_aload_n h 0 rfl dX13_gathers_7 ?_
  refine gfX13_108 h (by decide : kd 103 = 11) dX13_gathers_8 ?_
  refine g_iload_n h 1 rfl dX13_gathers_11 ?_
  refine g_iconst h 0 (v := 0) (by decide) dX13_gathers_12 ?_
  refine g_iadd h dX13_gathers_13 ?_
  refine g_iald h 186 (by decide : kd 133 = 20) (by decide) hf dX13_gathers_14 (fun v1 hf => ?_)
  refine g_iload_n h 2 rfl dX13_gathers_15 ?_
  refine g_iadd h dX13_gathers_16 ?_
  refine g_iconst h 0 (v := 0) (by decide) dX13_gathers_17 ?_
  refine g_sipush h 999 (v := 999) (by decide) dX13_gathers_18 ?_
  obtain ⟨v2, hq, hf⟩ := bd_some hf
  refine g_callSri (As := [.int (v1 + x2), .int 0, .int 999]) (rest := [.int (x1 + 0), rv G.1 133]) h ceX13_kept mlX13_381 smX13_kept rfl rfl ⟨by decide, by decide⟩ ⟨by decide, by decide⟩ rfl dX13_gathers_21 rfl (Nat.le_of_ble_eq_true rfl) (cmX13_kept hq) ?_
  refine g_iast h 186 (by decide : kd 133 = 20) (by decide) hf dX13_gathers_24 (fun M3 hf => ?_)
  refine g_aload_n h 0 rfl dX13_gathers_25 ?_
  refine gfX13_108 h (by decide : kd 103 = 11) dX13_gathers_26 ?_
  refine g_iload_n h 1 rfl dX13_gathers_29 ?_
  refine g_iconst h 2 (v := 2) (by decide) dX13_gathers_30 ?_
  refine g_iadd h dX13_gathers_31 ?_
  refine g_aload_n h 0 rfl dX13_gathers_32 ?_
  refine gfX13_108 h (by decide : kd 103 = 11) dX13_gathers_33 ?_
  refine g_iload_n h 1 rfl dX13_gathers_36 ?_
  refine g_iconst h 2 (v := 2) (by decide) dX13_gathers_37 ?_
  refine g_iadd h dX13_gathers_38 ?_
  refine g_iald h 186 (by decide : kd 133 = 20) (by decide) hf dX13_gathers_39 (fun v4 hf => ?_)
  refine g_aload_n h 0 rfl dX13_gathers_40 ?_
  refine gfX13_108 h (by decide : kd 103 = 11) dX13_gathers_41 ?_
  refine g_iload_n h 1 rfl dX13_gathers_44 ?_
  refine g_iconst h 2 (v := 2) (by decide) dX13_gathers_45 ?_
  refine g_iadd h dX13_gathers_46 ?_
  refine g_iald h 186 (by decide : kd 133 = 20) (by decide) hf dX13_gathers_47 (fun v5 hf => ?_)
  refine g_bipush h 10 (v := 10) (by decide) dX13_gathers_48 ?_
  refine g_idiv h (by decide) dX13_gathers_50 ?_
  refine g_iadd h dX13_gathers_51 ?_
  refine g_iconst h 0 (v := 0) (by decide) dX13_gathers_52 ?_
  refine g_sipush h 999 (v := 999) (by decide) dX13_gathers_53 ?_
  obtain ⟨v6, hq, hf⟩ := bd_some hf
  refine g_callSri (As := [.int (v4 + (v5 / 10)), .int 0, .int 999]) (rest := [.int (x1 + 2), rv G.1 133]) h ceX13_kept mlX13_381 smX13_kept rfl rfl ⟨by decide, by decide⟩ ⟨by decide, by decide⟩ rfl dX13_gathers_56 rfl (Nat.le_of_ble_eq_true rfl) (cmX13_kept hq) ?_
  refine g_iast h 186 (by decide : kd 133 = 20) (by decide) hf dX13_gathers_59 (fun M7 hf => ?_)
  cases hf
  exact g_vret h rfl ⟨rfl, rfl⟩ (Nat.le_refl _) (Nat.le_refl _) dX13_gathers_60

theorem cmX13_gathers {l : Launch} {w : WX} {M : Mem} {x1 : Int32} {x2 : Int32} {res : Mem} (hf : fX13_gathers M x1 x2 = some res) : CM l w yX13_gathers cX13_gathers 3 none { frames := 1, cells := 0, slots := 0, locals := 22 } 0 0 [rv w 103, .int x1, .int x2] M (Pwv res) := by
  refine CM_of (by decide) (by decide) (fun G hw hl h => ?_)
  subst hw
  exact kX13_gathers_e0 h hf

-- X13_wayOf
theorem kX13_wayOf_e0 {G : GX} (h : OKm G cX13_wayOf RX13 3 (some .int) { frames := 0, cells := 0, slots := 0, locals := 0 }) {M : Mem} {x1 : Int32} {x2 : Int32} {res : Int32} (hf : fX13_wayOf M x1 x2 = some res) : GG G (Qm G (Pri res M) 0 0) 0 0 0 [(0, rv G.1 103), (1, .int x1), (2, .int x2)] [] M := by
  unfold fX13_wayOf at hf
  refine g_aload_n h 0 rfl dX13_wayOf_0 ?_
  refine gfX13_29 h (by decide : kd 103 = 11) dX13_wayOf_1 ?_
  refine g_iload_n h 2 rfl dX13_wayOf_4 ?_
  refine g_iald h 2 (by decide : kd 108 = 20) (by decide) hf dX13_wayOf_5 (fun v1 hf => ?_)
  refine g_if_ne h 13 (by decide) hf dX13_wayOf_6 (fun hf => ?_) (fun hf => ?_)
  · refine g_aload_n h 0 rfl dX13_wayOf_13 ?_
    refine gfX13_108 h (by decide : kd 103 = 11) dX13_wayOf_14 ?_
    refine g_iload_n h 1 rfl dX13_wayOf_17 ?_
    refine g_bipush h 13 (v := 13) (by decide) dX13_wayOf_18 ?_
    refine g_iadd h dX13_wayOf_20 ?_
    refine g_bipush h 6 (v := 6) (by decide) dX13_wayOf_21 ?_
    refine g_iload_n h 2 rfl dX13_wayOf_23 ?_
    refine g_imul h dX13_wayOf_24 ?_
    refine g_iadd h dX13_wayOf_25 ?_
    refine g_aload_n h 0 rfl dX13_wayOf_26 ?_
    refine gfX13_108 h (by decide : kd 103 = 11) dX13_wayOf_27 ?_
    refine g_iload_n h 1 rfl dX13_wayOf_30 ?_
    refine g_bipush h 10 (v := 10) (by decide) dX13_wayOf_31 ?_
    refine g_iadd h dX13_wayOf_33 ?_
    refine g_iload_n h 2 rfl dX13_wayOf_34 ?_
    refine g_iadd h dX13_wayOf_35 ?_
    refine g_iald h 186 (by decide : kd 133 = 20) (by decide) hf dX13_wayOf_36 (fun v2 hf => ?_)
    refine g_aload_n h 0 rfl dX13_wayOf_37 ?_
    refine gfX13_29 h (by decide : kd 103 = 11) dX13_wayOf_38 ?_
    refine g_iload_n h 2 rfl dX13_wayOf_41 ?_
    refine g_iald h 2 (by decide : kd 108 = 20) (by decide) hf dX13_wayOf_42 (fun v3 hf => ?_)
    obtain ⟨hne, hf⟩ := pre_if hf
    refine g_irem h hne dX13_wayOf_43 ?_
    refine g_iadd h dX13_wayOf_44 ?_
    refine g_iald h 186 (by decide : kd 133 = 20) (by decide) hf dX13_wayOf_45 (fun v4 hf => ?_)
    cases hf
    exact g_iret h rfl ⟨rfl, rfl⟩ (Nat.le_refl _) (Nat.le_refl _) dX13_wayOf_46
  · refine g_iconst h (-1) (v := (-1)) (by decide) dX13_wayOf_9 ?_
    refine g_goto h 46 (by decide) dX13_wayOf_10 ?_
    cases hf
    exact g_iret h rfl ⟨rfl, rfl⟩ (Nat.le_refl _) (Nat.le_refl _) dX13_wayOf_46

theorem cmX13_wayOf {l : Launch} {w : WX} {M : Mem} {x1 : Int32} {x2 : Int32} {res : Int32} (hf : fX13_wayOf M x1 x2 = some res) : CM l w yX13_wayOf cX13_wayOf 3 (some .int) { frames := 0, cells := 0, slots := 0, locals := 0 } 0 0 [rv w 103, .int x1, .int x2] M (Pri res M) := by
  refine CM_of (by decide) (by decide) (fun G hw hl h => ?_)
  subst hw
  exact kX13_wayOf_e0 h hf

-- X13_does
theorem kX13_does_e0 {G : GX} (h : OKm G cX13_does RX13 3 (some .boolean) { frames := 1, cells := 0, slots := 0, locals := 22 }) {M : Mem} {x1 : Int32} {x2 : Int32} {res : (Int32 × Mem)} (hf : fX13_does M x1 x2 = some res) : GG G (Qm G (Pwi res) 0 0) 0 0 0 [(0, rv G.1 103), (1, .int x1), (2, .int x2)] [] M := by
  unfold fX13_does at hf
  refine g_iload_n h 2 rfl dX13_does_0 ?_
  refine g_iconst h (-1) (v := (-1)) (by decide) dX13_does_1 ?_
  refine g_ic_ne h 7 (by decide) hf dX13_does_2 (fun hf => ?_) (fun hf => ?_)
  · refine g_aload_n h 0 rfl dX13_does_7 ?_
    refine gfX13_16 h (by decide : kd 103 = 11) dX13_does_8 ?_
    refine g_iload_n h 2 rfl dX13_does_11 ?_
    refine g_iald h 7 (by decide : kd 104 = 20) (by decide) hf dX13_does_12 (fun v1 hf => ?_)
    refine g_aload_n h 0 rfl dX13_does_13 ?_
    refine gfX13_108 h (by decide : kd 103 = 11) dX13_does_14 ?_
    refine g_iload_n h 1 rfl dX13_does_17 ?_
    refine g_iconst h 0 (v := 0) (by decide) dX13_does_18 ?_
    refine g_iadd h dX13_does_19 ?_
    refine g_iald h 186 (by decide : kd 133 = 20) (by decide) hf dX13_does_20 (fun v2 hf => ?_)
    refine g_ic_le h 39 (by decide) hf dX13_does_21 (fun hf => ?_) (fun hf => ?_)
    · refine g_aload_n h 0 rfl dX13_does_39 ?_
      refine gfX13_108 h (by decide : kd 103 = 11) dX13_does_40 ?_
      refine g_iload_n h 1 rfl dX13_does_43 ?_
      refine g_iconst h 0 (v := 0) (by decide) dX13_does_44 ?_
      refine g_iadd h dX13_does_45 ?_
      refine g_nmI hf (fun v3 hf => ?_)
      refine g_dup2 h rfl rfl dX13_does_46 ?_
      refine g_iald h 186 (by decide : kd 133 = 20) (by decide) hf dX13_does_47 (fun v4 hf => ?_)
      refine g_aload_n h 0 rfl dX13_does_48 ?_
      refine gfX13_16 h (by decide : kd 103 = 11) dX13_does_49 ?_
      refine g_iload_n h 2 rfl dX13_does_52 ?_
      refine g_iald h 7 (by decide : kd 104 = 20) (by decide) hf dX13_does_53 (fun v5 hf => ?_)
      refine g_isub h dX13_does_54 ?_
      refine g_iast h 186 (by decide : kd 133 = 20) (by decide) hf dX13_does_55 (fun M6 hf => ?_)
      refine g_aload_n h 0 rfl dX13_does_56 ?_
      refine gfX13_108 h (by decide : kd 103 = 11) dX13_does_57 ?_
      refine g_iload_n h 1 rfl dX13_does_60 ?_
      refine g_iconst h 1 (v := 1) (by decide) dX13_does_61 ?_
      refine g_iadd h dX13_does_62 ?_
      refine g_aload_n h 0 rfl dX13_does_63 ?_
      refine gfX13_108 h (by decide : kd 103 = 11) dX13_does_64 ?_
      refine g_iload_n h 1 rfl dX13_does_67 ?_
      refine g_iconst h 1 (v := 1) (by decide) dX13_does_68 ?_
      refine g_iadd h dX13_does_69 ?_
      refine g_iald h 186 (by decide : kd 133 = 20) (by decide) hf dX13_does_70 (fun v7 hf => ?_)
      refine g_aload_n h 0 rfl dX13_does_71 ?_
      refine gfX13_20 h (by decide : kd 103 = 11) dX13_does_72 ?_
      refine g_iload_n h 2 rfl dX13_does_75 ?_
      refine g_iald h 7 (by decide : kd 105 = 20) (by decide) hf dX13_does_76 (fun v8 hf => ?_)
      refine g_iadd h dX13_does_77 ?_
      refine g_iconst h 0 (v := 0) (by decide) dX13_does_78 ?_
      refine g_bipush h 99 (v := 99) (by decide) dX13_does_79 ?_
      obtain ⟨v9, hq, hf⟩ := bd_some hf
      refine g_callSri (As := [.int (v7 + v8), .int 0, .int 99]) (rest := [.int (x1 + 1), rv G.1 133]) h ceX13_kept mlX13_381 smX13_kept rfl rfl ⟨by decide, by decide⟩ ⟨by decide, by decide⟩ rfl dX13_does_81 rfl (Nat.le_of_ble_eq_true rfl) (cmX13_kept hq) ?_
      refine g_iast h 186 (by decide : kd 133 = 20) (by decide) hf dX13_does_84 (fun M10 hf => ?_)
      refine g_aload_n h 0 rfl dX13_does_85 ?_
      refine gfX13_108 h (by decide : kd 103 = 11) dX13_does_86 ?_
      refine g_iload_n h 1 rfl dX13_does_89 ?_
      refine g_iconst h 2 (v := 2) (by decide) dX13_does_90 ?_
      refine g_iadd h dX13_does_91 ?_
      refine g_aload_n h 0 rfl dX13_does_92 ?_
      refine gfX13_108 h (by decide : kd 103 = 11) dX13_does_93 ?_
      refine g_iload_n h 1 rfl dX13_does_96 ?_
      refine g_iconst h 2 (v := 2) (by decide) dX13_does_97 ?_
      refine g_iadd h dX13_does_98 ?_
      refine g_iald h 186 (by decide : kd 133 = 20) (by decide) hf dX13_does_99 (fun v11 hf => ?_)
      refine g_aload_n h 0 rfl dX13_does_100 ?_
      refine gfX13_23 h (by decide : kd 103 = 11) dX13_does_101 ?_
      refine g_iload_n h 2 rfl dX13_does_104 ?_
      refine g_iald h 7 (by decide : kd 106 = 20) (by decide) hf dX13_does_105 (fun v12 hf => ?_)
      refine g_iadd h dX13_does_106 ?_
      refine g_iconst h 0 (v := 0) (by decide) dX13_does_107 ?_
      refine g_sipush h 999 (v := 999) (by decide) dX13_does_108 ?_
      obtain ⟨v13, hq, hf⟩ := bd_some hf
      refine g_callSri (As := [.int (v11 + v12), .int 0, .int 999]) (rest := [.int (x1 + 2), rv G.1 133]) h ceX13_kept mlX13_381 smX13_kept rfl rfl ⟨by decide, by decide⟩ ⟨by decide, by decide⟩ rfl dX13_does_111 rfl (Nat.le_of_ble_eq_true rfl) (cmX13_kept hq) ?_
      refine g_iast h 186 (by decide : kd 133 = 20) (by decide) hf dX13_does_114 (fun M14 hf => ?_)
      refine g_aload_n h 0 rfl dX13_does_115 ?_
      refine gfX13_108 h (by decide : kd 103 = 11) dX13_does_116 ?_
      refine g_iload_n h 1 rfl dX13_does_119 ?_
      refine g_bipush h 6 (v := 6) (by decide) dX13_does_120 ?_
      refine g_iadd h dX13_does_122 ?_
      refine g_aload_n h 0 rfl dX13_does_123 ?_
      refine gfX13_108 h (by decide : kd 103 = 11) dX13_does_124 ?_
      refine g_iload_n h 1 rfl dX13_does_127 ?_
      refine g_iconst h 4 (v := 4) (by decide) dX13_does_128 ?_
      refine g_iadd h dX13_does_129 ?_
      refine g_iald h 186 (by decide : kd 133 = 20) (by decide) hf dX13_does_130 (fun v15 hf => ?_)
      refine g_iadd h dX13_does_131 ?_
      refine g_nmI hf (fun v16 hf => ?_)
      refine g_dup2 h rfl rfl dX13_does_132 ?_
      refine g_iald h 186 (by decide : kd 133 = 20) (by decide) hf dX13_does_133 (fun v17 hf => ?_)
      refine g_aload_n h 0 rfl dX13_does_134 ?_
      refine gfX13_26 h (by decide : kd 103 = 11) dX13_does_135 ?_
      refine g_iload_n h 2 rfl dX13_does_138 ?_
      refine g_iald h 7 (by decide : kd 107 = 20) (by decide) hf dX13_does_139 (fun v18 hf => ?_)
      refine g_iadd h dX13_does_140 ?_
      refine g_iast h 186 (by decide : kd 133 = 20) (by decide) hf dX13_does_141 (fun M19 hf => ?_)
      refine g_iconst h 1 (v := 1) (by decide) dX13_does_142 ?_
      cases hf
      exact g_zret h (by decide) rfl ⟨rfl, rfl⟩ (Nat.le_refl _) (Nat.le_refl _) dX13_does_143
    · refine g_aload_n h 0 rfl dX13_does_24 ?_
      refine gfX13_108 h (by decide : kd 103 = 11) dX13_does_25 ?_
      refine g_iload_n h 1 rfl dX13_does_28 ?_
      refine g_bipush h 8 (v := 8) (by decide) dX13_does_29 ?_
      refine g_iadd h dX13_does_31 ?_
      refine g_nmI hf (fun v20 hf => ?_)
      refine g_dup2 h rfl rfl dX13_does_32 ?_
      refine g_iald h 186 (by decide : kd 133 = 20) (by decide) hf dX13_does_33 (fun v21 hf => ?_)
      refine g_iconst h 1 (v := 1) (by decide) dX13_does_34 ?_
      refine g_iadd h dX13_does_35 ?_
      refine g_iast h 186 (by decide : kd 133 = 20) (by decide) hf dX13_does_36 (fun M22 hf => ?_)
      refine g_iconst h 0 (v := 0) (by decide) dX13_does_37 ?_
      cases hf
      exact g_zret h (by decide) rfl ⟨rfl, rfl⟩ (Nat.le_refl _) (Nat.le_refl _) dX13_does_38
  · refine g_iconst h 0 (v := 0) (by decide) dX13_does_5 ?_
    cases hf
    exact g_zret h (by decide) rfl ⟨rfl, rfl⟩ (Nat.le_refl _) (Nat.le_refl _) dX13_does_6

theorem cmX13_does {l : Launch} {w : WX} {M : Mem} {x1 : Int32} {x2 : Int32} {res : (Int32 × Mem)} (hf : fX13_does M x1 x2 = some res) : CM l w yX13_does cX13_does 3 (some .boolean) { frames := 1, cells := 0, slots := 0, locals := 22 } 0 0 [rv w 103, .int x1, .int x2] M (Pwi res) := by
  refine CM_of (by decide) (by decide) (fun G hw hl h => ?_)
  subst hw
  exact kX13_does_e0 h hf

-- X13_works
theorem kX13_works_e0 {G : GX} (h : OKm G cX13_works RX13 3 (some .int) { frames := 0, cells := 0, slots := 0, locals := 0 }) {M : Mem} {x0 : Int32} {x1 : Int32} {x2 : Int32} {res : Int32} (hf : fX13_works x0 x1 x2 = some res) : GG G (Qm G (Pri res M) 0 0) 0 0 0 [(0, .int x0), (1, .int x1), (2, .int x2)] [] M := by
  unfold fX13_works at hf
  refine g_iload_n h 0 rfl dX13_works_0 ?_
  by_cases hx0 : x0 = 4
  · rw [if_pos hx0] at hf
    refine g_tabIn h (off := 43) 44 (by rw [hx0]; decide) (by rw [hx0]; decide) (by rw [hx0]; decide) (by decide) dX13_works_1 ?_
    refine g_iload_n h 1 rfl dX13_works_44 ?_
    refine g_if_eq h 56 (by decide) hf dX13_works_45 (fun hf => ?_) (fun hf => ?_)
    · refine g_iconst h 0 (v := 0) (by decide) dX13_works_56 ?_
      cases hf
      exact g_iret h rfl ⟨rfl, rfl⟩ (Nat.le_refl _) (Nat.le_refl _) dX13_works_57
    · refine g_iload_n h 2 rfl dX13_works_48 ?_
      refine g_if_eq h 56 (by decide) hf dX13_works_49 (fun hf => ?_) (fun hf => ?_)
      · refine g_iconst h 0 (v := 0) (by decide) dX13_works_56 ?_
        cases hf
        exact g_iret h rfl ⟨rfl, rfl⟩ (Nat.le_refl _) (Nat.le_refl _) dX13_works_57
      · refine g_iconst h 1 (v := 1) (by decide) dX13_works_52 ?_
        refine g_goto h 57 (by decide) dX13_works_53 ?_
        cases hf
        exact g_iret h rfl ⟨rfl, rfl⟩ (Nat.le_refl _) (Nat.le_refl _) dX13_works_57
  rw [if_neg hx0] at hf
  have hy0 : x0.toInt ≠ 4 := fun q => hx0 (Int32.toInt_inj.mp (by rw [q]; rfl))
  by_cases hx1 : x0 = 5
  · rw [if_pos hx1] at hf
    refine g_tabIn h (off := 57) 58 (by rw [hx1]; decide) (by rw [hx1]; decide) (by rw [hx1]; decide) (by decide) dX13_works_1 ?_
    refine g_iload_n h 1 rfl dX13_works_58 ?_
    refine g_if_ne h 66 (by decide) hf dX13_works_59 (fun hf => ?_) (fun hf => ?_)
    · refine g_iconst h 1 (v := 1) (by decide) dX13_works_66 ?_
      refine g_goto h 71 (by decide) dX13_works_67 ?_
      cases hf
      exact g_iret h rfl ⟨rfl, rfl⟩ (Nat.le_refl _) (Nat.le_refl _) dX13_works_71
    · refine g_iload_n h 2 rfl dX13_works_62 ?_
      refine g_if_eq h 70 (by decide) hf dX13_works_63 (fun hf => ?_) (fun hf => ?_)
      · refine g_iconst h 0 (v := 0) (by decide) dX13_works_70 ?_
        cases hf
        exact g_iret h rfl ⟨rfl, rfl⟩ (Nat.le_refl _) (Nat.le_refl _) dX13_works_71
      · refine g_iconst h 1 (v := 1) (by decide) dX13_works_66 ?_
        refine g_goto h 71 (by decide) dX13_works_67 ?_
        cases hf
        exact g_iret h rfl ⟨rfl, rfl⟩ (Nat.le_refl _) (Nat.le_refl _) dX13_works_71
  rw [if_neg hx1] at hf
  have hy1 : x0.toInt ≠ 5 := fun q => hx1 (Int32.toInt_inj.mp (by rw [q]; rfl))
  by_cases hx2 : x0 = 6
  · rw [if_pos hx2] at hf
    refine g_tabIn h (off := 71) 72 (by rw [hx2]; decide) (by rw [hx2]; decide) (by rw [hx2]; decide) (by decide) dX13_works_1 ?_
    refine g_iload_n h 1 rfl dX13_works_72 ?_
    refine g_iload_n h 2 rfl dX13_works_73 ?_
    refine g_ic_ge h 81 (by decide) hf dX13_works_74 (fun hf => ?_) (fun hf => ?_)
    · refine g_iconst h 0 (v := 0) (by decide) dX13_works_81 ?_
      cases hf
      exact g_iret h rfl ⟨rfl, rfl⟩ (Nat.le_refl _) (Nat.le_refl _) dX13_works_82
    · refine g_iconst h 1 (v := 1) (by decide) dX13_works_77 ?_
      refine g_goto h 82 (by decide) dX13_works_78 ?_
      cases hf
      exact g_iret h rfl ⟨rfl, rfl⟩ (Nat.le_refl _) (Nat.le_refl _) dX13_works_82
  rw [if_neg hx2] at hf
  have hy2 : x0.toInt ≠ 6 := fun q => hx2 (Int32.toInt_inj.mp (by rw [q]; rfl))
  by_cases hx3 : x0 = 7
  · rw [if_pos hx3] at hf
    refine g_tabIn h (off := 82) 83 (by rw [hx3]; decide) (by rw [hx3]; decide) (by rw [hx3]; decide) (by decide) dX13_works_1 ?_
    refine g_iload_n h 1 rfl dX13_works_83 ?_
    refine g_iload_n h 2 rfl dX13_works_84 ?_
    refine g_ic_ne h 92 (by decide) hf dX13_works_85 (fun hf => ?_) (fun hf => ?_)
    · refine g_iconst h 0 (v := 0) (by decide) dX13_works_92 ?_
      cases hf
      exact g_iret h rfl ⟨rfl, rfl⟩ (Nat.le_refl _) (Nat.le_refl _) dX13_works_93
    · refine g_iconst h 1 (v := 1) (by decide) dX13_works_88 ?_
      refine g_goto h 93 (by decide) dX13_works_89 ?_
      cases hf
      exact g_iret h rfl ⟨rfl, rfl⟩ (Nat.le_refl _) (Nat.le_refl _) dX13_works_93
  rw [if_neg hx3] at hf
  have hy3 : x0.toInt ≠ 7 := fun q => hx3 (Int32.toInt_inj.mp (by rw [q]; rfl))
  by_cases hx4 : x0 = 8
  · rw [if_pos hx4] at hf
    refine g_tabIn h (off := 93) 94 (by rw [hx4]; decide) (by rw [hx4]; decide) (by rw [hx4]; decide) (by decide) dX13_works_1 ?_
    refine g_iload_n h 1 rfl dX13_works_94 ?_
    refine g_iload_n h 2 rfl dX13_works_95 ?_
    refine g_iadd h dX13_works_96 ?_
    cases hf
    exact g_iret h rfl ⟨rfl, rfl⟩ (Nat.le_refl _) (Nat.le_refl _) dX13_works_97
  rw [if_neg hx4] at hf
  have hy4 : x0.toInt ≠ 8 := fun q => hx4 (Int32.toInt_inj.mp (by rw [q]; rfl))
  by_cases hx5 : x0 = 9
  · rw [if_pos hx5] at hf
    refine g_tabIn h (off := 97) 98 (by rw [hx5]; decide) (by rw [hx5]; decide) (by rw [hx5]; decide) (by decide) dX13_works_1 ?_
    refine g_iload_n h 1 rfl dX13_works_98 ?_
    refine g_iload_n h 2 rfl dX13_works_99 ?_
    refine g_isub h dX13_works_100 ?_
    cases hf
    exact g_iret h rfl ⟨rfl, rfl⟩ (Nat.le_refl _) (Nat.le_refl _) dX13_works_101
  rw [if_neg hx5] at hf
  have hy5 : x0.toInt ≠ 9 := fun q => hx5 (Int32.toInt_inj.mp (by rw [q]; rfl))
  by_cases hx6 : x0 = 10
  · rw [if_pos hx6] at hf
    refine g_tabIn h (off := 101) 102 (by rw [hx6]; decide) (by rw [hx6]; decide) (by rw [hx6]; decide) (by decide) dX13_works_1 ?_
    refine g_iload_n h 1 rfl dX13_works_102 ?_
    refine g_iload_n h 2 rfl dX13_works_103 ?_
    refine g_imul h dX13_works_104 ?_
    cases hf
    exact g_iret h rfl ⟨rfl, rfl⟩ (Nat.le_refl _) (Nat.le_refl _) dX13_works_105
  rw [if_neg hx6] at hf
  have hy6 : x0.toInt ≠ 10 := fun q => hx6 (Int32.toInt_inj.mp (by rw [q]; rfl))
  refine g_tabOut h 106 (by omega) (by decide) dX13_works_1 ?_
  refine g_iload_n h 2 rfl dX13_works_106 ?_
  refine g_if_ne h 114 (by decide) hf dX13_works_107 (fun hf => ?_) (fun hf => ?_)
  · refine g_iload_n h 1 rfl dX13_works_114 ?_
    refine g_iload_n h 2 rfl dX13_works_115 ?_
    obtain ⟨hne, hf⟩ := pre_if hf
    refine g_idiv h hne dX13_works_116 ?_
    cases hf
    exact g_iret h rfl ⟨rfl, rfl⟩ (Nat.le_refl _) (Nat.le_refl _) dX13_works_117
  · refine g_iconst h 0 (v := 0) (by decide) dX13_works_110 ?_
    refine g_goto h 117 (by decide) dX13_works_111 ?_
    cases hf
    exact g_iret h rfl ⟨rfl, rfl⟩ (Nat.le_refl _) (Nat.le_refl _) dX13_works_117

theorem cmX13_works {l : Launch} {w : WX} {M : Mem} {x0 : Int32} {x1 : Int32} {x2 : Int32} {res : Int32} (hf : fX13_works x0 x1 x2 = some res) : CM l w yX13_works cX13_works 3 (some .int) { frames := 0, cells := 0, slots := 0, locals := 0 } 0 0 [.int x0, .int x1, .int x2] M (Pri res M) := by
  refine CM_of (by decide) (by decide) (fun G hw hl h => ?_)
  subst hw
  exact kX13_works_e0 h hf

-- X13_reckons
theorem kX13_reckons_b140 {G : GX} (h : OKm G cX13_reckons RX13 5 (some .int) { frames := 1, cells := 0, slots := 0, locals := 22 }) {a4 : Mem → Int32 → Int32 → Option (Int32 × Mem)} (ha4 : ∀ (M : Mem) (x2 : Int32) (x3 : Int32) (res : (Int32 × Mem)), a4 M x2 x3 = some res → GG G (Qm G (Pwi res) 0 0) 0 0 4 [(0, rv G.1 103), (2, .int x2), (3, .int x3)] [] M) {M : Mem} {x2 : Int32} {x3 : Int32} {res : (Int32 × Mem)} (hf : fX13_reckons_b140 a4 M x2 x3 = some res) : GG G (Qm G (Pwi res) 0 0) 0 0 140 [(0, rv G.1 103), (2, .int x2), (3, .int x3)] [] M := by
  unfold fX13_reckons_b140 at hf
  refine g_goto h 4 (by decide) dX13_reckons_140 ?_
  refine g_sub [0, 1, 2] rfl ?_
  exact ha4 _ _ _ _ hf

theorem kX13_reckons_b67 {G : GX} (h : OKm G cX13_reckons RX13 5 (some .int) { frames := 1, cells := 0, slots := 0, locals := 22 }) {a4 : Mem → Int32 → Int32 → Option (Int32 × Mem)} (ha4 : ∀ (M : Mem) (x2 : Int32) (x3 : Int32) (res : (Int32 × Mem)), a4 M x2 x3 = some res → GG G (Qm G (Pwi res) 0 0) 0 0 4 [(0, rv G.1 103), (2, .int x2), (3, .int x3)] [] M) {M : Mem} {x2 : Int32} {x3 : Int32} {s0 : Int32} {s1 : Int32} {res : (Int32 × Mem)} (hf : fX13_reckons_b67 a4 M x2 x3 s0 s1 = some res) : GG G (Qm G (Pwi res) 0 0) 0 0 67 [(0, rv G.1 103), (2, .int x2), (3, .int x3)] [.int s0, .int s1, rv G.1 136] M := by
  unfold fX13_reckons_b67 at hf
  refine g_iast h 950 (by decide : kd 136 = 20) (by decide) hf dX13_reckons_67 (fun M7 hf => ?_)
  refine g_iinc h 3 2 rfl (v := x3 + 1) rfl [(3, .int (x3 + 1)), (0, rv G.1 103), (2, .int x2)] (by decide) rfl dX13_reckons_68 ?_
  refine g_nmV hf (fun v8 hf => ?_)
  refine g_iinc h 2 2 rfl (v := x2 + 1) rfl [(2, .int (x2 + 1)), (3, .int v8), (0, rv G.1 103)] (by decide) rfl dX13_reckons_71 ?_
  refine g_nmV hf (fun v9 hf => ?_)
  refine g_goto h 140 (by decide) dX13_reckons_74 ?_
  refine g_sub [2, 0, 1] rfl ?_
  exact kX13_reckons_b140 h ha4 hf

theorem kX13_reckons_b36 {G : GX} (h : OKm G cX13_reckons RX13 5 (some .int) { frames := 1, cells := 0, slots := 0, locals := 22 }) {a4 : Mem → Int32 → Int32 → Option (Int32 × Mem)} (ha4 : ∀ (M : Mem) (x2 : Int32) (x3 : Int32) (res : (Int32 × Mem)), a4 M x2 x3 = some res → GG G (Qm G (Pwi res) 0 0) 0 0 4 [(0, rv G.1 103), (2, .int x2), (3, .int x3)] [] M) {M : Mem} {x2 : Int32} {x3 : Int32} {x4 : Int32} {res : (Int32 × Mem)} (hf : fX13_reckons_b36 a4 M x2 x3 x4 = some res) : GG G (Qm G (Pwi res) 0 0) 0 0 36 [(0, rv G.1 103), (2, .int x2), (3, .int x3), (4, .int x4)] [] M := by
  unfold fX13_reckons_b36 at hf
  refine g_aload_n h 0 rfl dX13_reckons_36 ?_
  refine gfX13_117 h (by decide : kd 103 = 11) dX13_reckons_37 ?_
  refine g_iload_n h 1 rfl dX13_reckons_40 ?_
  refine g_iload h 3 rfl dX13_reckons_41 ?_
  refine g_iconst h 1 (v := 1) (by decide) dX13_reckons_43 ?_
  refine g_ic_ne h 56 (by decide) hf dX13_reckons_44 (fun hf => ?_) (fun hf => ?_)
  · refine g_aload_n h 0 rfl dX13_reckons_56 ?_
    refine gfX13_114 h (by decide : kd 103 = 11) dX13_reckons_57 ?_
    refine g_aload_n h 0 rfl dX13_reckons_60 ?_
    refine gfX13_50 h (by decide : kd 103 = 11) dX13_reckons_61 ?_
    refine g_iload_n h 2 rfl dX13_reckons_64 ?_
    refine g_iald h 1400 (by decide : kd 115 = 20) (by decide) hf dX13_reckons_65 (fun v5 hf => ?_)
    refine g_iald h 8 (by decide : kd 135 = 20) (by decide) hf dX13_reckons_66 (fun v6 hf => ?_)
    refine g_sub [0, 1, 2] rfl ?_
    exact kX13_reckons_b67 h ha4 hf
  · refine g_aload_n h 0 rfl dX13_reckons_47 ?_
    refine gfX13_50 h (by decide : kd 103 = 11) dX13_reckons_48 ?_
    refine g_iload_n h 2 rfl dX13_reckons_51 ?_
    refine g_iald h 1400 (by decide : kd 115 = 20) (by decide) hf dX13_reckons_52 (fun v10 hf => ?_)
    refine g_goto h 67 (by decide) dX13_reckons_53 ?_
    refine g_sub [0, 1, 2] rfl ?_
    exact kX13_reckons_b67 h ha4 hf

theorem kX13_reckons_b106 {G : GX} (h : OKm G cX13_reckons RX13 5 (some .int) { frames := 1, cells := 0, slots := 0, locals := 22 }) {a4 : Mem → Int32 → Int32 → Option (Int32 × Mem)} (ha4 : ∀ (M : Mem) (x2 : Int32) (x3 : Int32) (res : (Int32 × Mem)), a4 M x2 x3 = some res → GG G (Qm G (Pwi res) 0 0) 0 0 4 [(0, rv G.1 103), (2, .int x2), (3, .int x3)] [] M) {M : Mem} {x2 : Int32} {x3 : Int32} {s0 : Int32} {s1 : Int32} {res : (Int32 × Mem)} (hf : fX13_reckons_b106 a4 M x2 x3 s0 s1 = some res) : GG G (Qm G (Pwi res) 0 0) 0 0 106 [(0, rv G.1 103), (2, .int x2), (3, .int x3)] [.int s0, .int s1, rv G.1 136] M := by
  unfold fX13_reckons_b106 at hf
  refine g_iast h 950 (by decide : kd 136 = 20) (by decide) hf dX13_reckons_106 (fun M17 hf => ?_)
  refine g_goto h 140 (by decide) dX13_reckons_107 ?_
  refine g_sub [0, 1, 2] rfl ?_
  exact kX13_reckons_b140 h ha4 hf

theorem kX13_reckons_l4 {G : GX} (h : OKm G cX13_reckons RX13 5 (some .int) { frames := 1, cells := 0, slots := 0, locals := 22 }) : ∀ (n : Nat) (M : Mem) (x2 : Int32) (x3 : Int32) (res : (Int32 × Mem)), fX13_reckons_l4 n M x2 x3 = some res → GG G (Qm G (Pwi res) 0 0) 0 0 4 [(0, rv G.1 103), (2, .int x2), (3, .int x3)] [] M := by
  intro n
  induction n with
  | zero => intro M x2 x3 res hf; rw [fX13_reckons_l4] at hf; cases hf
  | succ n ih =>
    intro M x2 x3 res hf
    rw [fX13_reckons_l4] at hf
    refine g_aload_n h 0 rfl dX13_reckons_4 ?_
    refine gfX13_50 h (by decide : kd 103 = 11) dX13_reckons_5 ?_
    refine g_iload_n h 2 rfl dX13_reckons_8 ?_
    refine g_iald h 1400 (by decide : kd 115 = 20) (by decide) hf dX13_reckons_9 (fun v1 hf => ?_)
    refine g_if_eq h 143 (by decide) hf dX13_reckons_10 (fun hf => ?_) (fun hf => ?_)
    · refine g_aload_n h 0 rfl dX13_reckons_143 ?_
      refine gfX13_117 h (by decide : kd 103 = 11) dX13_reckons_144 ?_
      refine g_iconst h 0 (v := 0) (by decide) dX13_reckons_147 ?_
      refine g_iald h 950 (by decide : kd 136 = 20) (by decide) hf dX13_reckons_148 (fun v2 hf => ?_)
      cases hf
      exact g_iret h rfl ⟨rfl, rfl⟩ (Nat.le_refl _) (Nat.le_refl _) dX13_reckons_149
    · refine g_aload_n h 0 rfl dX13_reckons_13 ?_
      refine gfX13_50 h (by decide : kd 103 = 11) dX13_reckons_14 ?_
      refine g_iload_n h 2 rfl dX13_reckons_17 ?_
      refine g_iald h 1400 (by decide : kd 115 = 20) (by decide) hf dX13_reckons_18 (fun v3 hf => ?_)
      refine g_istore h [(4, .int v3), (0, rv G.1 103), (2, .int x2), (3, .int x3)] (by decide) rfl dX13_reckons_19 ?_
      refine g_iinc h 3 3 rfl (v := x3 + 1) rfl [(3, .int (x3 + 1)), (4, .int v3), (0, rv G.1 103), (2, .int x2)] (by decide) rfl dX13_reckons_21 ?_
      refine g_nmV hf (fun v4 hf => ?_)
      refine g_iload h 1 rfl dX13_reckons_24 ?_
      refine g_iconst h 1 (v := 1) (by decide) dX13_reckons_26 ?_
      refine g_ic_eq h 36 (by decide) hf dX13_reckons_27 (fun hf => ?_) (fun hf => ?_)
      · refine g_sub [2, 3, 0, 1] rfl ?_
        exact kX13_reckons_b36 h ih hf
      · refine g_iload h 1 rfl dX13_reckons_30 ?_
        refine g_iconst h 2 (v := 2) (by decide) dX13_reckons_32 ?_
        refine g_ic_ne h 77 (by decide) hf dX13_reckons_33 (fun hf => ?_) (fun hf => ?_)
        · refine g_iload h 1 rfl dX13_reckons_77 ?_
          refine g_iconst h 3 (v := 3) (by decide) dX13_reckons_79 ?_
          refine g_ic_ne h 110 (by decide) hf dX13_reckons_80 (fun hf => ?_) (fun hf => ?_)
          · refine g_iinc h 2 3 rfl (v := x2 + (-1)) rfl [(2, .int (x2 + (-1))), (3, .int v4), (4, .int v3), (0, rv G.1 103)] (by decide) rfl dX13_reckons_110 ?_
            refine g_nmV hf (fun v11 hf => ?_)
            refine g_aload_n h 3 rfl dX13_reckons_113 ?_
            refine gfX13_117 h (by decide : kd 103 = 11) dX13_reckons_114 ?_
            refine g_iload_n h 0 rfl dX13_reckons_117 ?_
            refine g_iconst h 1 (v := 1) (by decide) dX13_reckons_118 ?_
            refine g_isub h dX13_reckons_119 ?_
            refine g_iload h 2 rfl dX13_reckons_120 ?_
            refine g_aload_n h 3 rfl dX13_reckons_122 ?_
            refine gfX13_117 h (by decide : kd 103 = 11) dX13_reckons_123 ?_
            refine g_iload_n h 0 rfl dX13_reckons_126 ?_
            refine g_iconst h 1 (v := 1) (by decide) dX13_reckons_127 ?_
            refine g_isub h dX13_reckons_128 ?_
            refine g_iald h 950 (by decide : kd 136 = 20) (by decide) hf dX13_reckons_129 (fun v12 hf => ?_)
            refine g_aload_n h 3 rfl dX13_reckons_130 ?_
            refine gfX13_117 h (by decide : kd 103 = 11) dX13_reckons_131 ?_
            refine g_iload_n h 0 rfl dX13_reckons_134 ?_
            refine g_iald h 950 (by decide : kd 136 = 20) (by decide) hf dX13_reckons_135 (fun v13 hf => ?_)
            obtain ⟨v14, hq, hf⟩ := bd_some hf
            refine g_callSri (As := [.int v3, .int v12, .int v13]) (rest := [.int (v11 - 1), rv G.1 136]) h ceX13_works mlX13_361 smX13_works rfl rfl ⟨by decide, by decide⟩ ⟨by decide, by decide⟩ rfl dX13_reckons_136 rfl (Nat.le_of_ble_eq_true rfl) (cmX13_works hq) ?_
            refine g_iast h 950 (by decide : kd 136 = 20) (by decide) hf dX13_reckons_139 (fun M15 hf => ?_)
            refine g_sub [3, 0, 1] rfl ?_
            exact kX13_reckons_b140 h ih hf
          · refine g_aload_n h 2 rfl dX13_reckons_83 ?_
            refine gfX13_117 h (by decide : kd 103 = 11) dX13_reckons_84 ?_
            refine g_iload_n h 3 rfl dX13_reckons_87 ?_
            refine g_iconst h 1 (v := 1) (by decide) dX13_reckons_88 ?_
            refine g_isub h dX13_reckons_89 ?_
            refine g_aload_n h 2 rfl dX13_reckons_90 ?_
            refine gfX13_117 h (by decide : kd 103 = 11) dX13_reckons_91 ?_
            refine g_iload_n h 3 rfl dX13_reckons_94 ?_
            refine g_iconst h 1 (v := 1) (by decide) dX13_reckons_95 ?_
            refine g_isub h dX13_reckons_96 ?_
            refine g_iald h 950 (by decide : kd 136 = 20) (by decide) hf dX13_reckons_97 (fun v16 hf => ?_)
            refine g_if_ne h 105 (by decide) hf dX13_reckons_98 (fun hf => ?_) (fun hf => ?_)
            · refine g_iconst h 0 (v := 0) (by decide) dX13_reckons_105 ?_
              refine g_sub [2, 3, 0] rfl ?_
              exact kX13_reckons_b106 h ih hf
            · refine g_iconst h 1 (v := 1) (by decide) dX13_reckons_101 ?_
              refine g_goto h 106 (by decide) dX13_reckons_102 ?_
              refine g_sub [2, 3, 0] rfl ?_
              exact kX13_reckons_b106 h ih hf
        · refine g_sub [2, 3, 0, 1] rfl ?_
          exact kX13_reckons_b36 h ih hf

theorem kX13_reckons_e0 {G : GX} (h : OKm G cX13_reckons RX13 5 (some .int) { frames := 1, cells := 0, slots := 0, locals := 22 }) {M : Mem} {x1 : Int32} {res : (Int32 × Mem)} (hf : fX13_reckons M x1 = some res) : GG G (Qm G (Pwi res) 0 0) 0 0 0 [(0, rv G.1 103), (1, .int x1)] [] M := by
  unfold fX13_reckons at hf
  refine g_iconst h 0 (v := 0) (by decide) dX13_reckons_0 ?_
  refine g_istore_n h rfl [(2, .int 0), (0, rv G.1 103), (1, .int x1)] (by decide) rfl dX13_reckons_1 ?_
  refine g_iload_n h 2 rfl dX13_reckons_2 ?_
  refine g_istore_n h rfl [(3, .int x1), (2, .int 0), (0, rv G.1 103), (1, .int x1)] (by decide) rfl dX13_reckons_3 ?_
  refine g_sub [2, 1, 0] rfl ?_
  exact kX13_reckons_l4 h _ _ _ _ _ hf

theorem cmX13_reckons {l : Launch} {w : WX} {M : Mem} {x1 : Int32} {res : (Int32 × Mem)} (hf : fX13_reckons M x1 = some res) : CM l w yX13_reckons cX13_reckons 5 (some .int) { frames := 1, cells := 0, slots := 0, locals := 22 } 0 0 [rv w 103, .int x1] M (Pwi res) := by
  refine CM_of (by decide) (by decide) (fun G hw hl h => ?_)
  subst hw
  exact kX13_reckons_e0 h hf

-- X13_likeOf
theorem kX13_likeOf_b104 {G : GX} (h : OKm G cX13_likeOf RX13 6 (some .int) { frames := 2, cells := 0, slots := 0, locals := 46 }) {M : Mem} {s0 : Int32} {s1 : Int32} {res : (Int32 × Mem)} (hf : fX13_likeOf_b104 M s0 s1 = some res) : GG G (Qm G (Pwi res) 0 0) 0 0 104 [(0, rv G.1 103)] [.int s0, .int s1, rv G.1 135] M := by
  unfold fX13_likeOf_b104 at hf
  refine g_iast h 8 (by decide : kd 135 = 20) (by decide) hf dX13_likeOf_104 (fun M10 hf => ?_)
  refine g_aload_n h 0 rfl dX13_likeOf_105 ?_
  refine g_aload_n h 0 rfl dX13_likeOf_106 ?_
  refine gfX13_13 h (by decide : kd 103 = 11) dX13_likeOf_107 ?_
  refine g_nmI hf (fun v11 hf => ?_)
  obtain ⟨v12, M13, hq, hf⟩ := b2_some hf
  refine g_callVwi (As := [.int v11]) (rest := []) h ceX13_reckons mlX13_365 imX13_reckons seX13_reckons (by rfl) (kd_lt (by rw [(by decide : kd 103 = 11)]; decide)) (ent_11 (by decide : kd 103 = 11)) rfl rfl ⟨by decide, by decide⟩ ⟨by decide, by decide⟩ rfl dX13_likeOf_110 rfl (Nat.le_of_ble_eq_true rfl) (cmX13_reckons hq) ?_
  cases hf
  exact g_iret h rfl ⟨rfl, rfl⟩ (Nat.le_refl _) (Nat.le_refl _) dX13_likeOf_113

theorem kX13_likeOf_b84 {G : GX} (h : OKm G cX13_likeOf RX13 6 (some .int) { frames := 2, cells := 0, slots := 0, locals := 46 }) {M : Mem} {x3 : Int32} {x5 : Int32} {s0 : Int32} {s1 : Int32} {res : (Int32 × Mem)} (hf : fX13_likeOf_b84 M x3 x5 s0 s1 = some res) : GG G (Qm G (Pwi res) 0 0) 0 0 84 [(0, rv G.1 103), (3, .int x3), (5, .int x5)] [.int s0, .int s1, rv G.1 135] M := by
  unfold fX13_likeOf_b84 at hf
  refine g_iast h 8 (by decide : kd 135 = 20) (by decide) hf dX13_likeOf_84 (fun M9 hf => ?_)
  refine g_aload_n h 0 rfl dX13_likeOf_85 ?_
  refine gfX13_114 h (by decide : kd 103 = 11) dX13_likeOf_86 ?_
  refine g_bipush h 7 (v := 7) (by decide) dX13_likeOf_89 ?_
  refine g_iload_n h 1 rfl dX13_likeOf_91 ?_
  refine g_if_ne h 102 (by decide) hf dX13_likeOf_92 (fun hf => ?_) (fun hf => ?_)
  · refine g_iload h 2 rfl dX13_likeOf_102 ?_
    refine g_sub [0] rfl ?_
    exact kX13_likeOf_b104 h hf
  · refine g_iconst h 0 (v := 0) (by decide) dX13_likeOf_95 ?_
    refine g_iload h 2 rfl dX13_likeOf_96 ?_
    refine g_isub h dX13_likeOf_98 ?_
    refine g_goto h 104 (by decide) dX13_likeOf_99 ?_
    refine g_sub [0] rfl ?_
    exact kX13_likeOf_b104 h hf

theorem kX13_likeOf_e0 {G : GX} (h : OKm G cX13_likeOf RX13 6 (some .int) { frames := 2, cells := 0, slots := 0, locals := 46 }) {M : Mem} {x1 : Int32} {x2 : Int32} {x3 : Int32} {x4 : Int32} {res : (Int32 × Mem)} (hf : fX13_likeOf M x1 x2 x3 x4 = some res) : GG G (Qm G (Pwi res) 0 0) 0 0 0 [(0, rv G.1 103), (1, .int x1), (2, .int x2), (3, .int x3), (4, .int x4)] [] M := by
  unfold fX13_likeOf at hf
  refine g_aload_n h 0 rfl dX13_likeOf_0 ?_
  refine gfX13_108 h (by decide : kd 103 = 11) dX13_likeOf_1 ?_
  refine g_iload_n h 1 rfl dX13_likeOf_4 ?_
  refine g_bipush h 25 (v := 25) (by decide) dX13_likeOf_5 ?_
  refine g_iadd h dX13_likeOf_7 ?_
  refine g_iload_n h 2 rfl dX13_likeOf_8 ?_
  refine g_iadd h dX13_likeOf_9 ?_
  refine g_iald h 186 (by decide : kd 133 = 20) (by decide) hf dX13_likeOf_10 (fun v1 hf => ?_)
  refine g_istore h [(5, .int v1), (0, rv G.1 103), (1, .int x1), (2, .int x2), (3, .int x3), (4, .int x4)] (by decide) rfl dX13_likeOf_11 ?_
  refine g_aload_n h 1 rfl dX13_likeOf_13 ?_
  refine gfX13_114 h (by decide : kd 103 = 11) dX13_likeOf_14 ?_
  refine g_iconst h 3 (v := 3) (by decide) dX13_likeOf_17 ?_
  refine g_aload_n h 1 rfl dX13_likeOf_18 ?_
  refine gfX13_108 h (by decide : kd 103 = 11) dX13_likeOf_19 ?_
  refine g_iload_n h 2 rfl dX13_likeOf_22 ?_
  refine g_iconst h 0 (v := 0) (by decide) dX13_likeOf_23 ?_
  refine g_iadd h dX13_likeOf_24 ?_
  refine g_iald h 186 (by decide : kd 133 = 20) (by decide) hf dX13_likeOf_25 (fun v2 hf => ?_)
  refine g_iast h 8 (by decide : kd 135 = 20) (by decide) hf dX13_likeOf_26 (fun M3 hf => ?_)
  refine g_aload_n h 1 rfl dX13_likeOf_27 ?_
  refine gfX13_114 h (by decide : kd 103 = 11) dX13_likeOf_28 ?_
  refine g_iconst h 4 (v := 4) (by decide) dX13_likeOf_31 ?_
  refine g_aload_n h 1 rfl dX13_likeOf_32 ?_
  refine gfX13_108 h (by decide : kd 103 = 11) dX13_likeOf_33 ?_
  refine g_iload_n h 2 rfl dX13_likeOf_36 ?_
  refine g_iconst h 2 (v := 2) (by decide) dX13_likeOf_37 ?_
  refine g_iadd h dX13_likeOf_38 ?_
  refine g_iald h 186 (by decide : kd 133 = 20) (by decide) hf dX13_likeOf_39 (fun v4 hf => ?_)
  refine g_iast h 8 (by decide : kd 135 = 20) (by decide) hf dX13_likeOf_40 (fun M5 hf => ?_)
  refine g_aload_n h 1 rfl dX13_likeOf_41 ?_
  refine gfX13_114 h (by decide : kd 103 = 11) dX13_likeOf_42 ?_
  refine g_iconst h 5 (v := 5) (by decide) dX13_likeOf_45 ?_
  refine g_aload_n h 1 rfl dX13_likeOf_46 ?_
  refine gfX13_108 h (by decide : kd 103 = 11) dX13_likeOf_47 ?_
  refine g_iload_n h 2 rfl dX13_likeOf_50 ?_
  refine g_bipush h 6 (v := 6) (by decide) dX13_likeOf_51 ?_
  refine g_iadd h dX13_likeOf_53 ?_
  refine g_iload_n h 4 rfl dX13_likeOf_54 ?_
  refine g_iadd h dX13_likeOf_55 ?_
  refine g_iald h 186 (by decide : kd 133 = 20) (by decide) hf dX13_likeOf_56 (fun v6 hf => ?_)
  refine g_iload h 5 rfl dX13_likeOf_57 ?_
  refine g_iadd h dX13_likeOf_59 ?_
  refine g_iast h 8 (by decide : kd 135 = 20) (by decide) hf dX13_likeOf_60 (fun M7 hf => ?_)
  refine g_aload_n h 1 rfl dX13_likeOf_61 ?_
  refine gfX13_114 h (by decide : kd 103 = 11) dX13_likeOf_62 ?_
  refine g_bipush h 6 (v := 6) (by decide) dX13_likeOf_65 ?_
  refine g_aload_n h 1 rfl dX13_likeOf_67 ?_
  refine gfX13_108 h (by decide : kd 103 = 11) dX13_likeOf_68 ?_
  refine g_iload_n h 2 rfl dX13_likeOf_71 ?_
  refine g_iconst h 4 (v := 4) (by decide) dX13_likeOf_72 ?_
  refine g_iadd h dX13_likeOf_73 ?_
  refine g_iald h 186 (by decide : kd 133 = 20) (by decide) hf dX13_likeOf_74 (fun v8 hf => ?_)
  refine g_iload_n h 4 rfl dX13_likeOf_75 ?_
  refine g_ic_ne h 83 (by decide) hf dX13_likeOf_76 (fun hf => ?_) (fun hf => ?_)
  · refine g_iconst h 0 (v := 0) (by decide) dX13_likeOf_83 ?_
    refine g_sub [1, 4, 0] rfl ?_
    exact kX13_likeOf_b84 h hf
  · refine g_iconst h 1 (v := 1) (by decide) dX13_likeOf_79 ?_
    refine g_goto h 84 (by decide) dX13_likeOf_80 ?_
    refine g_sub [1, 4, 0] rfl ?_
    exact kX13_likeOf_b84 h hf

theorem cmX13_likeOf {l : Launch} {w : WX} {M : Mem} {x1 : Int32} {x2 : Int32} {x3 : Int32} {x4 : Int32} {res : (Int32 × Mem)} (hf : fX13_likeOf M x1 x2 x3 x4 = some res) : CM l w yX13_likeOf cX13_likeOf 6 (some .int) { frames := 2, cells := 0, slots := 0, locals := 46 } 0 0 [rv w 103, .int x1, .int x2, .int x3, .int x4] M (Pwi res) := by
  refine CM_of (by decide) (by decide) (fun G hw hl h => ?_)
  subst hw
  exact kX13_likeOf_e0 h hf

-- X13_follows
theorem kX13_follows_b62 {G : GX} (h : OKm G cX13_follows RX13 7 (some .int) { frames := 3, cells := 0, slots := 0, locals := 71 }) {M : Mem} {x5 : Int32} {s0 : Int32} {s1 : Int32} {s2 : Int32} {s3 : Int32} {res : (Int32 × Mem)} (hf : fX13_follows_b62 M x5 s0 s1 s2 s3 = some res) : GG G (Qm G (Pwi res) 0 0) 0 0 62 [(5, .int x5)] [.int s0, .int s1, .int s2, .int s3, rv G.1 103] M := by
  unfold fX13_follows_b62 at hf
  obtain ⟨v4, M5, hq, hf⟩ := b2_some hf
  refine g_callVwi (As := [.int s3, .int s2, .int s1, .int s0]) (rest := []) h ceX13_likeOf mlX13_368 imX13_likeOf seX13_likeOf (by rfl) (kd_lt (by rw [(by decide : kd 103 = 11)]; decide)) (ent_11 (by decide : kd 103 = 11)) rfl rfl ⟨by decide, by decide⟩ ⟨by decide, by decide⟩ rfl dX13_follows_62 rfl (Nat.le_of_ble_eq_true rfl) (cmX13_likeOf hq) ?_
  refine g_istore h [(6, .int v4), (5, .int x5)] (by decide) rfl dX13_follows_65 ?_
  refine g_iload h 0 rfl dX13_follows_67 ?_
  refine g_iload h 1 rfl dX13_follows_69 ?_
  refine g_ic_le h 78 (by decide) hf dX13_follows_71 (fun hf => ?_) (fun hf => ?_)
  · refine g_iconst h 0 (v := 0) (by decide) dX13_follows_78 ?_
    cases hf
    exact g_iret h rfl ⟨rfl, rfl⟩ (Nat.le_refl _) (Nat.le_refl _) dX13_follows_79
  · refine g_iconst h 1 (v := 1) (by decide) dX13_follows_74 ?_
    refine g_goto h 79 (by decide) dX13_follows_75 ?_
    cases hf
    exact g_iret h rfl ⟨rfl, rfl⟩ (Nat.le_refl _) (Nat.le_refl _) dX13_follows_79

theorem kX13_follows_b42 {G : GX} (h : OKm G cX13_follows RX13 7 (some .int) { frames := 3, cells := 0, slots := 0, locals := 71 }) {M : Mem} {x1 : Int32} {x2 : Int32} {x3 : Int32} {x4 : Int32} {s0 : Int32} {s1 : Int32} {s2 : Int32} {s3 : Int32} {res : (Int32 × Mem)} (hf : fX13_follows_b42 M x1 x2 x3 x4 s0 s1 s2 s3 = some res) : GG G (Qm G (Pwi res) 0 0) 0 0 42 [(0, rv G.1 103), (1, .int x1), (2, .int x2), (3, .int x3), (4, .int x4)] [.int s0, .int s1, .int s2, .int s3, rv G.1 103] M := by
  unfold fX13_follows_b42 at hf
  obtain ⟨v2, M3, hq, hf⟩ := b2_some hf
  refine g_callVwi (As := [.int s3, .int s2, .int s1, .int s0]) (rest := []) h ceX13_likeOf mlX13_368 imX13_likeOf seX13_likeOf (by rfl) (kd_lt (by rw [(by decide : kd 103 = 11)]; decide)) (ent_11 (by decide : kd 103 = 11)) rfl rfl ⟨by decide, by decide⟩ ⟨by decide, by decide⟩ rfl dX13_follows_42 rfl (Nat.le_of_ble_eq_true rfl) (cmX13_likeOf hq) ?_
  refine g_istore h [(5, .int v2), (0, rv G.1 103), (1, .int x1), (2, .int x2), (3, .int x3), (4, .int x4)] (by decide) rfl dX13_follows_45 ?_
  refine g_aload_n h 1 rfl dX13_follows_47 ?_
  refine g_iload_n h 2 rfl dX13_follows_48 ?_
  refine g_iload_n h 3 rfl dX13_follows_49 ?_
  refine g_iconst h 1 (v := 1) (by decide) dX13_follows_50 ?_
  refine g_iload_n h 4 rfl dX13_follows_51 ?_
  refine g_iconst h 1 (v := 1) (by decide) dX13_follows_52 ?_
  refine g_ic_ne h 61 (by decide) hf dX13_follows_53 (fun hf => ?_) (fun hf => ?_)
  · refine g_iconst h 0 (v := 0) (by decide) dX13_follows_61 ?_
    refine g_sub [0] rfl ?_
    exact kX13_follows_b62 h hf
  · refine g_iload h 5 rfl dX13_follows_56 ?_
    refine g_goto h 62 (by decide) dX13_follows_58 ?_
    refine g_sub [0] rfl ?_
    exact kX13_follows_b62 h hf

theorem kX13_follows_e0 {G : GX} (h : OKm G cX13_follows RX13 7 (some .int) { frames := 3, cells := 0, slots := 0, locals := 71 }) {M : Mem} {x1 : Int32} {x2 : Int32} {x3 : Int32} {x4 : Int32} {res : (Int32 × Mem)} (hf : fX13_follows M x1 x2 x3 x4 = some res) : GG G (Qm G (Pwi res) 0 0) 0 0 0 [(0, rv G.1 103), (1, .int x1), (2, .int x2), (3, .int x3), (4, .int x4)] [] M := by
  unfold fX13_follows at hf
  refine g_aload_n h 0 rfl dX13_follows_0 ?_
  refine gfX13_13 h (by decide : kd 103 = 11) dX13_follows_1 ?_
  refine g_nmI hf (fun v1 hf => ?_)
  refine g_iconst h (-1) (v := (-1)) (by decide) dX13_follows_4 ?_
  refine g_ic_ne h 28 (by decide) hf dX13_follows_5 (fun hf => ?_) (fun hf => ?_)
  · refine g_aload_n h 0 rfl dX13_follows_28 ?_
    refine g_iload_n h 1 rfl dX13_follows_29 ?_
    refine g_iload_n h 2 rfl dX13_follows_30 ?_
    refine g_iconst h 0 (v := 0) (by decide) dX13_follows_31 ?_
    refine g_iload_n h 3 rfl dX13_follows_32 ?_
    refine g_if_ne h 41 (by decide) hf dX13_follows_33 (fun hf => ?_) (fun hf => ?_)
    · refine g_iconst h 0 (v := 0) (by decide) dX13_follows_41 ?_
      refine g_sub [0, 1, 2, 3, 4] rfl ?_
      exact kX13_follows_b42 h hf
    · refine g_iload h 4 rfl dX13_follows_36 ?_
      refine g_goto h 42 (by decide) dX13_follows_38 ?_
      refine g_sub [0, 1, 2, 3, 4] rfl ?_
      exact kX13_follows_b42 h hf
  · refine g_aload_n h 0 rfl dX13_follows_8 ?_
    refine gfX13_108 h (by decide : kd 103 = 11) dX13_follows_9 ?_
    refine g_iload_n h 1 rfl dX13_follows_12 ?_
    refine g_bipush h 25 (v := 25) (by decide) dX13_follows_13 ?_
    refine g_iadd h dX13_follows_15 ?_
    refine g_iload_n h 2 rfl dX13_follows_16 ?_
    refine g_iadd h dX13_follows_17 ?_
    refine g_iald h 186 (by decide : kd 133 = 20) (by decide) hf dX13_follows_18 (fun v6 hf => ?_)
    refine g_if_le h 26 (by decide) hf dX13_follows_19 (fun hf => ?_) (fun hf => ?_)
    · refine g_iconst h 0 (v := 0) (by decide) dX13_follows_26 ?_
      cases hf
      exact g_iret h rfl ⟨rfl, rfl⟩ (Nat.le_refl _) (Nat.le_refl _) dX13_follows_27
    · refine g_iconst h 1 (v := 1) (by decide) dX13_follows_22 ?_
      refine g_goto h 27 (by decide) dX13_follows_23 ?_
      cases hf
      exact g_iret h rfl ⟨rfl, rfl⟩ (Nat.le_refl _) (Nat.le_refl _) dX13_follows_27

theorem cmX13_follows {l : Launch} {w : WX} {M : Mem} {x1 : Int32} {x2 : Int32} {x3 : Int32} {x4 : Int32} {res : (Int32 × Mem)} (hf : fX13_follows M x1 x2 x3 x4 = some res) : CM l w yX13_follows cX13_follows 7 (some .int) { frames := 3, cells := 0, slots := 0, locals := 71 } 0 0 [rv w 103, .int x1, .int x2, .int x3, .int x4] M (Pwi res) := by
  refine CM_of (by decide) (by decide) (fun G hw hl h => ?_)
  subst hw
  exact kX13_follows_e0 h hf

-- X13_followers
theorem kX13_followers_b36 {G : GX} (h : OKm G cX13_followers RX13 5 (some .int) { frames := 4, cells := 0, slots := 0, locals := 97 }) {a5 : Mem → Int32 → Int32 → Int32 → Int32 → Option (Int32 × Mem)} (ha5 : ∀ (M : Mem) (x1 : Int32) (x2 : Int32) (x3 : Int32) (x4 : Int32) (res : (Int32 × Mem)), a5 M x1 x2 x3 x4 = some res → GG G (Qm G (Pwi res) 0 0) 0 0 5 [(0, rv G.1 103), (1, .int x1), (2, .int x2), (3, .int x3), (4, .int x4)] [] M) {M : Mem} {x1 : Int32} {x2 : Int32} {x4 : Int32} {s0 : Int32} {s1 : Int32} {res : (Int32 × Mem)} (hf : fX13_followers_b36 a5 M x1 x2 x4 s0 s1 = some res) : GG G (Qm G (Pwi res) 0 0) 0 0 36 [(0, rv G.1 103), (1, .int x1), (2, .int x2), (4, .int x4)] [.int s0, .int s1] M := by
  unfold fX13_followers_b36 at hf
  refine g_ior h dX13_followers_36 ?_
  refine g_nmI hf (fun v4 hf => ?_)
  refine g_istore_n h rfl [(3, .int v4), (0, rv G.1 103), (1, .int x1), (2, .int x2), (4, .int x4)] (by decide) rfl dX13_followers_37 ?_
  refine g_iinc h 4 4 rfl (v := x4 + 1) rfl [(4, .int (x4 + 1)), (3, .int v4), (0, rv G.1 103), (1, .int x1), (2, .int x2)] (by decide) rfl dX13_followers_38 ?_
  refine g_nmV hf (fun v5 hf => ?_)
  refine g_goto h 5 (by decide) dX13_followers_41 ?_
  refine g_sub [2, 3, 4, 1, 0] rfl ?_
  exact ha5 _ _ _ _ _ _ hf

theorem kX13_followers_l5 {G : GX} (h : OKm G cX13_followers RX13 5 (some .int) { frames := 4, cells := 0, slots := 0, locals := 97 }) : ∀ (n : Nat) (M : Mem) (x1 : Int32) (x2 : Int32) (x3 : Int32) (x4 : Int32) (res : (Int32 × Mem)), fX13_followers_l5 n M x1 x2 x3 x4 = some res → GG G (Qm G (Pwi res) 0 0) 0 0 5 [(0, rv G.1 103), (1, .int x1), (2, .int x2), (3, .int x3), (4, .int x4)] [] M := by
  intro n
  induction n with
  | zero => intro M x1 x2 x3 x4 res hf; rw [fX13_followers_l5] at hf; cases hf
  | succ n ih =>
    intro M x1 x2 x3 x4 res hf
    rw [fX13_followers_l5] at hf
    refine g_iload h 4 rfl dX13_followers_5 ?_
    refine g_aload_n h 0 rfl dX13_followers_7 ?_
    refine gfX13_339 h (by decide : kd 103 = 11) dX13_followers_8 ?_
    refine g_nmI hf (fun v1 hf => ?_)
    refine g_ic_ge h 44 (by decide) hf dX13_followers_11 (fun hf => ?_) (fun hf => ?_)
    · refine g_iload_n h 3 rfl dX13_followers_44 ?_
      cases hf
      exact g_iret h rfl ⟨rfl, rfl⟩ (Nat.le_refl _) (Nat.le_refl _) dX13_followers_45
    · refine g_iload_n h 3 rfl dX13_followers_14 ?_
      refine g_aload_n h 0 rfl dX13_followers_15 ?_
      refine g_iload_n h 1 rfl dX13_followers_16 ?_
      refine g_iload h 4 rfl dX13_followers_17 ?_
      refine g_iconst h 0 (v := 0) (by decide) dX13_followers_19 ?_
      refine g_iconst h 0 (v := 0) (by decide) dX13_followers_20 ?_
      obtain ⟨v2, M3, hq, hf⟩ := b2_some hf
      refine g_callVwi (As := [.int x1, .int x4, .int 0, .int 0]) (rest := [.int x3]) h ceX13_follows mlX13_372 imX13_follows seX13_follows (by rfl) (kd_lt (by rw [(by decide : kd 103 = 11)]; decide)) (ent_11 (by decide : kd 103 = 11)) rfl rfl ⟨by decide, by decide⟩ ⟨by decide, by decide⟩ rfl dX13_followers_21 rfl (Nat.le_of_ble_eq_true rfl) (cmX13_follows hq) ?_
      refine g_iload_n h 2 rfl dX13_followers_24 ?_
      refine g_ic_ne h 35 (by decide) hf dX13_followers_25 (fun hf => ?_) (fun hf => ?_)
      · refine g_iconst h 0 (v := 0) (by decide) dX13_followers_35 ?_
        refine g_sub [0, 1, 2, 4] rfl ?_
        exact kX13_followers_b36 h ih hf
      · refine g_iconst h 1 (v := 1) (by decide) dX13_followers_28 ?_
        refine g_iload h 4 rfl dX13_followers_29 ?_
        refine g_ishl h dX13_followers_31 ?_
        refine g_goto h 36 (by decide) dX13_followers_32 ?_
        refine g_sub [0, 1, 2, 4] rfl ?_
        exact kX13_followers_b36 h ih hf

theorem kX13_followers_e0 {G : GX} (h : OKm G cX13_followers RX13 5 (some .int) { frames := 4, cells := 0, slots := 0, locals := 97 }) {M : Mem} {x1 : Int32} {x2 : Int32} {res : (Int32 × Mem)} (hf : fX13_followers M x1 x2 = some res) : GG G (Qm G (Pwi res) 0 0) 0 0 0 [(0, rv G.1 103), (1, .int x1), (2, .int x2)] [] M := by
  unfold fX13_followers at hf
  refine g_iconst h 0 (v := 0) (by decide) dX13_followers_0 ?_
  refine g_istore_n h rfl [(3, .int 0), (0, rv G.1 103), (1, .int x1), (2, .int x2)] (by decide) rfl dX13_followers_1 ?_
  refine g_iconst h 0 (v := 0) (by decide) dX13_followers_2 ?_
  refine g_istore h [(4, .int 0), (3, .int 0), (0, rv G.1 103), (1, .int x1), (2, .int x2)] (by decide) rfl dX13_followers_3 ?_
  refine g_sub [2, 3, 4, 1, 0] rfl ?_
  exact kX13_followers_l5 h _ _ _ _ _ _ _ hf

theorem cmX13_followers {l : Launch} {w : WX} {M : Mem} {x1 : Int32} {x2 : Int32} {res : (Int32 × Mem)} (hf : fX13_followers M x1 x2 = some res) : CM l w yX13_followers cX13_followers 5 (some .int) { frames := 4, cells := 0, slots := 0, locals := 97 } 0 0 [rv w 103, .int x1, .int x2] M (Pwi res) := by
  refine CM_of (by decide) (by decide) (fun G hw hl h => ?_)
  subst hw
  exact kX13_followers_e0 h hf

-- X13_menOf
theorem kX13_menOf_b32 {G : GX} (h : OKm G cX13_menOf RX13 4 (some .int) { frames := 0, cells := 0, slots := 0, locals := 0 }) {a4 : Mem → Int32 → Int32 → Int32 → Option Int32} (ha4 : ∀ (M : Mem) (x1 : Int32) (x2 : Int32) (x3 : Int32) (res : Int32), a4 M x1 x2 x3 = some res → GG G (Qm G (Pri res M) 0 0) 0 0 4 [(0, rv G.1 103), (1, .int x1), (2, .int x2), (3, .int x3)] [] M) {M : Mem} {x1 : Int32} {x3 : Int32} {s0 : Int32} {s1 : Int32} {res : Int32} (hf : fX13_menOf_b32 a4 M x1 x3 s0 s1 = some res) : GG G (Qm G (Pri res M) 0 0) 0 0 32 [(0, rv G.1 103), (1, .int x1), (3, .int x3)] [.int s0, .int s1] M := by
  unfold fX13_menOf_b32 at hf
  refine g_iadd h dX13_menOf_32 ?_
  refine g_nmI hf (fun v2 hf => ?_)
  refine g_istore_n h rfl [(2, .int v2), (0, rv G.1 103), (1, .int x1), (3, .int x3)] (by decide) rfl dX13_menOf_33 ?_
  refine g_iinc h 3 3 rfl (v := x3 + 1) rfl [(3, .int (x3 + 1)), (2, .int v2), (0, rv G.1 103), (1, .int x1)] (by decide) rfl dX13_menOf_34 ?_
  refine g_nmV hf (fun v3 hf => ?_)
  refine g_goto h 4 (by decide) dX13_menOf_37 ?_
  refine g_sub [2, 3, 1, 0] rfl ?_
  exact ha4 _ _ _ _ _ hf

theorem kX13_menOf_l4 {G : GX} (h : OKm G cX13_menOf RX13 4 (some .int) { frames := 0, cells := 0, slots := 0, locals := 0 }) : ∀ (n : Nat) (M : Mem) (x1 : Int32) (x2 : Int32) (x3 : Int32) (res : Int32), fX13_menOf_l4 n M x1 x2 x3 = some res → GG G (Qm G (Pri res M) 0 0) 0 0 4 [(0, rv G.1 103), (1, .int x1), (2, .int x2), (3, .int x3)] [] M := by
  intro n
  induction n with
  | zero => intro M x1 x2 x3 res hf; rw [fX13_menOf_l4] at hf; cases hf
  | succ n ih =>
    intro M x1 x2 x3 res hf
    rw [fX13_menOf_l4] at hf
    refine g_iload_n h 3 rfl dX13_menOf_4 ?_
    refine g_aload_n h 0 rfl dX13_menOf_5 ?_
    refine gfX13_339 h (by decide : kd 103 = 11) dX13_menOf_6 ?_
    refine g_nmI hf (fun v1 hf => ?_)
    refine g_ic_ge h 40 (by decide) hf dX13_menOf_9 (fun hf => ?_) (fun hf => ?_)
    · refine g_iload_n h 2 rfl dX13_menOf_40 ?_
      cases hf
      exact g_iret h rfl ⟨rfl, rfl⟩ (Nat.le_refl _) (Nat.le_refl _) dX13_menOf_41
    · refine g_iload_n h 2 rfl dX13_menOf_12 ?_
      refine g_iload_n h 1 rfl dX13_menOf_13 ?_
      refine g_iload_n h 3 rfl dX13_menOf_14 ?_
      refine g_ishr h dX13_menOf_15 ?_
      refine g_iconst h 1 (v := 1) (by decide) dX13_menOf_16 ?_
      refine g_iand h dX13_menOf_17 ?_
      refine g_iconst h 1 (v := 1) (by decide) dX13_menOf_18 ?_
      refine g_ic_ne h 31 (by decide) hf dX13_menOf_19 (fun hf => ?_) (fun hf => ?_)
      · refine g_iconst h 0 (v := 0) (by decide) dX13_menOf_31 ?_
        refine g_sub [0, 1, 3] rfl ?_
        exact kX13_menOf_b32 h ih hf
      · refine g_aload_n h 0 rfl dX13_menOf_22 ?_
        refine gfX13_35 h (by decide : kd 103 = 11) dX13_menOf_23 ?_
        refine g_iload_n h 3 rfl dX13_menOf_26 ?_
        refine g_iald h 6 (by decide : kd 110 = 20) (by decide) hf dX13_menOf_27 (fun v4 hf => ?_)
        refine g_goto h 32 (by decide) dX13_menOf_28 ?_
        refine g_sub [0, 1, 3] rfl ?_
        exact kX13_menOf_b32 h ih hf

theorem kX13_menOf_e0 {G : GX} (h : OKm G cX13_menOf RX13 4 (some .int) { frames := 0, cells := 0, slots := 0, locals := 0 }) {M : Mem} {x1 : Int32} {res : Int32} (hf : fX13_menOf M x1 = some res) : GG G (Qm G (Pri res M) 0 0) 0 0 0 [(0, rv G.1 103), (1, .int x1)] [] M := by
  unfold fX13_menOf at hf
  refine g_iconst h 0 (v := 0) (by decide) dX13_menOf_0 ?_
  refine g_istore_n h rfl [(2, .int 0), (0, rv G.1 103), (1, .int x1)] (by decide) rfl dX13_menOf_1 ?_
  refine g_iconst h 0 (v := 0) (by decide) dX13_menOf_2 ?_
  refine g_istore_n h rfl [(3, .int 0), (2, .int 0), (0, rv G.1 103), (1, .int x1)] (by decide) rfl dX13_menOf_3 ?_
  refine g_sub [2, 3, 1, 0] rfl ?_
  exact kX13_menOf_l4 h _ _ _ _ _ _ hf

theorem cmX13_menOf {l : Launch} {w : WX} {M : Mem} {x1 : Int32} {res : Int32} (hf : fX13_menOf M x1 = some res) : CM l w yX13_menOf cX13_menOf 4 (some .int) { frames := 0, cells := 0, slots := 0, locals := 0 } 0 0 [rv w 103, .int x1] M (Pri res M) := by
  refine CM_of (by decide) (by decide) (fun G hw hl h => ?_)
  subst hw
  exact kX13_menOf_e0 h hf

-- X13_isStaying
theorem kX13_isStaying_e0 {G : GX} (h : OKm G cX13_isStaying RX13 4 (some .boolean) { frames := 5, cells := 0, slots := 0, locals := 121 }) {M : Mem} {x1 : Int32} {res : (Int32 × Mem)} (hf : fX13_isStaying M x1 = some res) : GG G (Qm G (Pwi res) 0 0) 0 0 0 [(0, rv G.1 103), (1, .int x1)] [] M := by
  unfold fX13_isStaying at hf
  refine g_aload_n h 0 rfl dX13_isStaying_0 ?_
  refine gfX13_9 h (by decide : kd 103 = 11) dX13_isStaying_1 ?_
  refine g_nmI hf (fun v1 hf => ?_)
  refine g_iconst h (-1) (v := (-1)) (by decide) dX13_isStaying_4 ?_
  refine g_ic_ne h 10 (by decide) hf dX13_isStaying_5 (fun hf => ?_) (fun hf => ?_)
  · refine g_aload_n h 0 rfl dX13_isStaying_10 ?_
    refine gfX13_108 h (by decide : kd 103 = 11) dX13_isStaying_11 ?_
    refine g_iload_n h 1 rfl dX13_isStaying_14 ?_
    refine g_iconst h 4 (v := 4) (by decide) dX13_isStaying_15 ?_
    refine g_iadd h dX13_isStaying_16 ?_
    refine g_iald h 186 (by decide : kd 133 = 20) (by decide) hf dX13_isStaying_17 (fun v2 hf => ?_)
    refine g_istore_n h rfl [(2, .int v2), (0, rv G.1 103), (1, .int x1)] (by decide) rfl dX13_isStaying_18 ?_
    refine g_aload_n h 1 rfl dX13_isStaying_19 ?_
    refine g_aload_n h 1 rfl dX13_isStaying_20 ?_
    refine g_iload_n h 2 rfl dX13_isStaying_21 ?_
    refine g_iload_n h 0 rfl dX13_isStaying_22 ?_
    obtain ⟨v3, M4, hq, hf⟩ := b2_some hf
    refine g_callVwi (As := [.int x1, .int v2]) (rest := [rv G.1 103]) h ceX13_followers mlX13_375 imX13_followers seX13_followers (by rfl) (kd_lt (by rw [(by decide : kd 103 = 11)]; decide)) (ent_11 (by decide : kd 103 = 11)) rfl rfl ⟨by decide, by decide⟩ ⟨by decide, by decide⟩ rfl dX13_isStaying_23 rfl (Nat.le_of_ble_eq_true rfl) (cmX13_followers hq) ?_
    obtain ⟨v5, hq, hf⟩ := bd_some hf
    refine g_callVri (As := [.int v3]) (rest := []) h ceX13_menOf mlX13_378 imX13_menOf seX13_menOf (by rfl) (kd_lt (by rw [(by decide : kd 103 = 11)]; decide)) (ent_11 (by decide : kd 103 = 11)) rfl rfl ⟨by decide, by decide⟩ ⟨by decide, by decide⟩ rfl dX13_isStaying_26 rfl (Nat.le_of_ble_eq_true rfl) (cmX13_menOf hq) ?_
    refine g_istore_n h rfl [(3, .int v5), (2, .int v2), (0, rv G.1 103), (1, .int x1)] (by decide) rfl dX13_isStaying_29 ?_
    refine g_aload_n h 2 rfl dX13_isStaying_30 ?_
    refine gfX13_114 h (by decide : kd 103 = 11) dX13_isStaying_31 ?_
    refine g_iconst h 0 (v := 0) (by decide) dX13_isStaying_34 ?_
    refine g_aload_n h 2 rfl dX13_isStaying_35 ?_
    refine gfX13_108 h (by decide : kd 103 = 11) dX13_isStaying_36 ?_
    refine g_iload_n h 3 rfl dX13_isStaying_39 ?_
    refine g_iconst h 1 (v := 1) (by decide) dX13_isStaying_40 ?_
    refine g_iadd h dX13_isStaying_41 ?_
    refine g_iald h 186 (by decide : kd 133 = 20) (by decide) hf dX13_isStaying_42 (fun v6 hf => ?_)
    refine g_iast h 8 (by decide : kd 135 = 20) (by decide) hf dX13_isStaying_43 (fun M7 hf => ?_)
    refine g_aload_n h 2 rfl dX13_isStaying_44 ?_
    refine gfX13_114 h (by decide : kd 103 = 11) dX13_isStaying_45 ?_
    refine g_iconst h 1 (v := 1) (by decide) dX13_isStaying_48 ?_
    refine g_aload_n h 2 rfl dX13_isStaying_49 ?_
    refine gfX13_108 h (by decide : kd 103 = 11) dX13_isStaying_50 ?_
    refine g_iload_n h 3 rfl dX13_isStaying_53 ?_
    refine g_iconst h 3 (v := 3) (by decide) dX13_isStaying_54 ?_
    refine g_iadd h dX13_isStaying_55 ?_
    refine g_iald h 186 (by decide : kd 133 = 20) (by decide) hf dX13_isStaying_56 (fun v8 hf => ?_)
    refine g_iast h 8 (by decide : kd 135 = 20) (by decide) hf dX13_isStaying_57 (fun M9 hf => ?_)
    refine g_aload_n h 2 rfl dX13_isStaying_58 ?_
    refine gfX13_114 h (by decide : kd 103 = 11) dX13_isStaying_59 ?_
    refine g_iconst h 2 (v := 2) (by decide) dX13_isStaying_62 ?_
    refine g_iload_n h 0 rfl dX13_isStaying_63 ?_
    refine g_iast h 8 (by decide : kd 135 = 20) (by decide) hf dX13_isStaying_64 (fun M10 hf => ?_)
    refine g_aload_n h 2 rfl dX13_isStaying_65 ?_
    refine gfX13_114 h (by decide : kd 103 = 11) dX13_isStaying_66 ?_
    refine g_iconst h 3 (v := 3) (by decide) dX13_isStaying_69 ?_
    refine g_aload_n h 2 rfl dX13_isStaying_70 ?_
    refine gfX13_108 h (by decide : kd 103 = 11) dX13_isStaying_71 ?_
    refine g_iload_n h 3 rfl dX13_isStaying_74 ?_
    refine g_iconst h 0 (v := 0) (by decide) dX13_isStaying_75 ?_
    refine g_iadd h dX13_isStaying_76 ?_
    refine g_iald h 186 (by decide : kd 133 = 20) (by decide) hf dX13_isStaying_77 (fun v11 hf => ?_)
    refine g_iast h 8 (by decide : kd 135 = 20) (by decide) hf dX13_isStaying_78 (fun M12 hf => ?_)
    refine g_aload_n h 2 rfl dX13_isStaying_79 ?_
    refine gfX13_114 h (by decide : kd 103 = 11) dX13_isStaying_80 ?_
    refine g_iconst h 4 (v := 4) (by decide) dX13_isStaying_83 ?_
    refine g_aload_n h 2 rfl dX13_isStaying_84 ?_
    refine gfX13_108 h (by decide : kd 103 = 11) dX13_isStaying_85 ?_
    refine g_iload_n h 3 rfl dX13_isStaying_88 ?_
    refine g_iconst h 2 (v := 2) (by decide) dX13_isStaying_89 ?_
    refine g_iadd h dX13_isStaying_90 ?_
    refine g_iald h 186 (by decide : kd 133 = 20) (by decide) hf dX13_isStaying_91 (fun v13 hf => ?_)
    refine g_iast h 8 (by decide : kd 135 = 20) (by decide) hf dX13_isStaying_92 (fun M14 hf => ?_)
    refine g_aload_n h 2 rfl dX13_isStaying_93 ?_
    refine gfX13_114 h (by decide : kd 103 = 11) dX13_isStaying_94 ?_
    refine g_iconst h 5 (v := 5) (by decide) dX13_isStaying_97 ?_
    refine g_aload_n h 2 rfl dX13_isStaying_98 ?_
    refine gfX13_108 h (by decide : kd 103 = 11) dX13_isStaying_99 ?_
    refine g_iload_n h 3 rfl dX13_isStaying_102 ?_
    refine g_bipush h 6 (v := 6) (by decide) dX13_isStaying_103 ?_
    refine g_iadd h dX13_isStaying_105 ?_
    refine g_iload_n h 1 rfl dX13_isStaying_106 ?_
    refine g_iadd h dX13_isStaying_107 ?_
    refine g_iald h 186 (by decide : kd 133 = 20) (by decide) hf dX13_isStaying_108 (fun v15 hf => ?_)
    refine g_iast h 8 (by decide : kd 135 = 20) (by decide) hf dX13_isStaying_109 (fun M16 hf => ?_)
    refine g_aload_n h 2 rfl dX13_isStaying_110 ?_
    refine g_aload_n h 2 rfl dX13_isStaying_111 ?_
    refine gfX13_9 h (by decide : kd 103 = 11) dX13_isStaying_112 ?_
    refine g_nmI hf (fun v17 hf => ?_)
    obtain ⟨v18, M19, hq, hf⟩ := b2_some hf
    refine g_callVwi (As := [.int v17]) (rest := []) h ceX13_reckons mlX13_365 imX13_reckons seX13_reckons (by rfl) (kd_lt (by rw [(by decide : kd 103 = 11)]; decide)) (ent_11 (by decide : kd 103 = 11)) rfl rfl ⟨by decide, by decide⟩ ⟨by decide, by decide⟩ rfl dX13_isStaying_115 rfl (Nat.le_of_ble_eq_true rfl) (cmX13_reckons hq) ?_
    refine g_if_le h 125 (by decide) hf dX13_isStaying_118 (fun hf => ?_) (fun hf => ?_)
    · refine g_iconst h 0 (v := 0) (by decide) dX13_isStaying_125 ?_
      cases hf
      exact g_zret h (by decide) rfl ⟨rfl, rfl⟩ (Nat.le_refl _) (Nat.le_refl _) dX13_isStaying_126
    · refine g_iconst h 1 (v := 1) (by decide) dX13_isStaying_121 ?_
      refine g_goto h 126 (by decide) dX13_isStaying_122 ?_
      cases hf
      exact g_zret h (by decide) rfl ⟨rfl, rfl⟩ (Nat.le_refl _) (Nat.le_refl _) dX13_isStaying_126
  · refine g_iconst h 0 (v := 0) (by decide) dX13_isStaying_8 ?_
    cases hf
    exact g_zret h (by decide) rfl ⟨rfl, rfl⟩ (Nat.le_refl _) (Nat.le_refl _) dX13_isStaying_9

theorem cmX13_isStaying {l : Launch} {w : WX} {M : Mem} {x1 : Int32} {res : (Int32 × Mem)} (hf : fX13_isStaying M x1 = some res) : CM l w yX13_isStaying cX13_isStaying 4 (some .boolean) { frames := 5, cells := 0, slots := 0, locals := 121 } 0 0 [rv w 103, .int x1] M (Pwi res) := by
  refine CM_of (by decide) (by decide) (fun G hw hl h => ?_)
  subst hw
  exact kX13_isStaying_e0 h hf

-- X13_ends
theorem kX13_ends_e0 {G : GX} (h : OKm G cX13_ends RX13 3 none { frames := 6, cells := 0, slots := 0, locals := 144 }) {M : Mem} {x1 : Int32} {x2 : Int32} {res : Mem} (hf : fX13_ends M x1 x2 = some res) : GG G (Qm G (Pwv res) 0 0) 0 0 0 [(0, rv G.1 103), (1, .int x1), (2, .int x2)] [] M := by
  unfold fX13_ends at hf
  refine g_aload_n h 0 rfl dX13_ends_0 ?_
  refine gfX13_108 h (by decide : kd 103 = 11) dX13_ends_1 ?_
  refine g_iload_n h 1 rfl dX13_ends_4 ?_
  refine g_iconst h 3 (v := 3) (by decide) dX13_ends_5 ?_
  refine g_iadd h dX13_ends_6 ?_
  refine g_nmI hf (fun v1 hf => ?_)
  refine g_dup2 h rfl rfl dX13_ends_7 ?_
  refine g_iald h 186 (by decide : kd 133 = 20) (by decide) hf dX13_ends_8 (fun v2 hf => ?_)
  refine g_iconst h 1 (v := 1) (by decide) dX13_ends_9 ?_
  refine g_iadd h dX13_ends_10 ?_
  refine g_iast h 186 (by decide : kd 133 = 20) (by decide) hf dX13_ends_11 (fun M3 hf => ?_)
  refine g_aload_n h 0 rfl dX13_ends_12 ?_
  refine gfX13_108 h (by decide : kd 103 = 11) dX13_ends_13 ?_
  refine g_iload_n h 1 rfl dX13_ends_16 ?_
  refine g_bipush h 10 (v := 10) (by decide) dX13_ends_17 ?_
  refine g_iadd h dX13_ends_19 ?_
  refine g_aload_n h 0 rfl dX13_ends_20 ?_
  refine gfX13_108 h (by decide : kd 103 = 11) dX13_ends_21 ?_
  refine g_iload_n h 1 rfl dX13_ends_24 ?_
  refine g_iconst h 4 (v := 4) (by decide) dX13_ends_25 ?_
  refine g_iadd h dX13_ends_26 ?_
  refine g_iald h 186 (by decide : kd 133 = 20) (by decide) hf dX13_ends_27 (fun v4 hf => ?_)
  refine g_iadd h dX13_ends_28 ?_
  refine g_nmI hf (fun v5 hf => ?_)
  refine g_dup2 h rfl rfl dX13_ends_29 ?_
  refine g_iald h 186 (by decide : kd 133 = 20) (by decide) hf dX13_ends_30 (fun v6 hf => ?_)
  refine g_iconst h 1 (v := 1) (by decide) dX13_ends_31 ?_
  refine g_iadd h dX13_ends_32 ?_
  refine g_iast h 186 (by decide : kd 133 = 20) (by decide) hf dX13_ends_33 (fun M7 hf => ?_)
  refine g_aload_n h 0 rfl dX13_ends_34 ?_
  refine gfX13_108 h (by decide : kd 103 = 11) dX13_ends_35 ?_
  refine g_iload_n h 1 rfl dX13_ends_38 ?_
  refine g_iconst h 5 (v := 5) (by decide) dX13_ends_39 ?_
  refine g_iadd h dX13_ends_40 ?_
  refine g_nmI hf (fun v8 hf => ?_)
  refine g_dup2 h rfl rfl dX13_ends_41 ?_
  refine g_iald h 186 (by decide : kd 133 = 20) (by decide) hf dX13_ends_42 (fun v9 hf => ?_)
  refine g_iconst h 1 (v := 1) (by decide) dX13_ends_43 ?_
  refine g_iadd h dX13_ends_44 ?_
  refine g_iast h 186 (by decide : kd 133 = 20) (by decide) hf dX13_ends_45 (fun M10 hf => ?_)
  refine g_iload_n h 2 rfl dX13_ends_46 ?_
  refine g_if_eq h 70 (by decide) hf dX13_ends_47 (fun hf => ?_) (fun hf => ?_)
  · cases hf
    exact g_vret h rfl ⟨rfl, rfl⟩ (Nat.le_refl _) (Nat.le_refl _) dX13_ends_70
  · refine g_aload_n h 0 rfl dX13_ends_50 ?_
    refine gfX13_108 h (by decide : kd 103 = 11) dX13_ends_51 ?_
    refine g_iload_n h 1 rfl dX13_ends_54 ?_
    refine g_iconst h 5 (v := 5) (by decide) dX13_ends_55 ?_
    refine g_iadd h dX13_ends_56 ?_
    refine g_iald h 186 (by decide : kd 133 = 20) (by decide) hf dX13_ends_57 (fun v11 hf => ?_)
    refine g_aload_n h 0 rfl dX13_ends_58 ?_
    refine gfX13_108 h (by decide : kd 103 = 11) dX13_ends_59 ?_
    refine g_iload_n h 1 rfl dX13_ends_62 ?_
    refine g_bipush h 12 (v := 12) (by decide) dX13_ends_63 ?_
    refine g_iadd h dX13_ends_65 ?_
    refine g_iald h 186 (by decide : kd 133 = 20) (by decide) hf dX13_ends_66 (fun v12 hf => ?_)
    refine g_ic_ge h 71 (by decide) hf dX13_ends_67 (fun hf => ?_) (fun hf => ?_)
    · refine g_aload_n h 0 rfl dX13_ends_71 ?_
      refine g_iload_n h 1 rfl dX13_ends_72 ?_
      obtain ⟨v13, M14, hq, hf⟩ := b2_some hf
      refine g_callVwi (As := [.int x1]) (rest := []) h ceX13_isStaying mlX13_384 imX13_isStaying seX13_isStaying (by rfl) (kd_lt (by rw [(by decide : kd 103 = 11)]; decide)) (ent_11 (by decide : kd 103 = 11)) rfl rfl ⟨by decide, by decide⟩ ⟨by decide, by decide⟩ rfl dX13_ends_73 rfl (Nat.le_of_ble_eq_true rfl) (cmX13_isStaying hq) ?_
      refine g_if_eq h 93 (by decide) hf dX13_ends_76 (fun hf => ?_) (fun hf => ?_)
      · refine g_aload_n h 0 rfl dX13_ends_93 ?_
        refine gfX13_108 h (by decide : kd 103 = 11) dX13_ends_94 ?_
        refine g_iload_n h 1 rfl dX13_ends_97 ?_
        refine g_iconst h 4 (v := 4) (by decide) dX13_ends_98 ?_
        refine g_iadd h dX13_ends_99 ?_
        refine g_iconst h 1 (v := 1) (by decide) dX13_ends_100 ?_
        refine g_aload_n h 0 rfl dX13_ends_101 ?_
        refine gfX13_108 h (by decide : kd 103 = 11) dX13_ends_102 ?_
        refine g_iload_n h 1 rfl dX13_ends_105 ?_
        refine g_iconst h 4 (v := 4) (by decide) dX13_ends_106 ?_
        refine g_iadd h dX13_ends_107 ?_
        refine g_iald h 186 (by decide : kd 133 = 20) (by decide) hf dX13_ends_108 (fun v15 hf => ?_)
        refine g_isub h dX13_ends_109 ?_
        refine g_iast h 186 (by decide : kd 133 = 20) (by decide) hf dX13_ends_110 (fun M16 hf => ?_)
        refine g_aload_n h 0 rfl dX13_ends_111 ?_
        refine gfX13_108 h (by decide : kd 103 = 11) dX13_ends_112 ?_
        refine g_iload_n h 1 rfl dX13_ends_115 ?_
        refine g_iconst h 5 (v := 5) (by decide) dX13_ends_116 ?_
        refine g_iadd h dX13_ends_117 ?_
        refine g_iconst h 0 (v := 0) (by decide) dX13_ends_118 ?_
        refine g_iast h 186 (by decide : kd 133 = 20) (by decide) hf dX13_ends_119 (fun M17 hf => ?_)
        cases hf
        exact g_vret h rfl ⟨rfl, rfl⟩ (Nat.le_refl _) (Nat.le_refl _) dX13_ends_120
      · refine g_aload_n h 0 rfl dX13_ends_79 ?_
        refine gfX13_108 h (by decide : kd 103 = 11) dX13_ends_80 ?_
        refine g_iload_n h 1 rfl dX13_ends_83 ?_
        refine g_bipush h 9 (v := 9) (by decide) dX13_ends_84 ?_
        refine g_iadd h dX13_ends_86 ?_
        refine g_nmI hf (fun v18 hf => ?_)
        refine g_dup2 h rfl rfl dX13_ends_87 ?_
        refine g_iald h 186 (by decide : kd 133 = 20) (by decide) hf dX13_ends_88 (fun v19 hf => ?_)
        refine g_iconst h 1 (v := 1) (by decide) dX13_ends_89 ?_
        refine g_iadd h dX13_ends_90 ?_
        refine g_iast h 186 (by decide : kd 133 = 20) (by decide) hf dX13_ends_91 (fun M20 hf => ?_)
        cases hf
        exact g_vret h rfl ⟨rfl, rfl⟩ (Nat.le_refl _) (Nat.le_refl _) dX13_ends_92
    · cases hf
      exact g_vret h rfl ⟨rfl, rfl⟩ (Nat.le_refl _) (Nat.le_refl _) dX13_ends_70

theorem cmX13_ends {l : Launch} {w : WX} {M : Mem} {x1 : Int32} {x2 : Int32} {res : Mem} (hf : fX13_ends M x1 x2 = some res) : CM l w yX13_ends cX13_ends 3 none { frames := 6, cells := 0, slots := 0, locals := 144 } 0 0 [rv w 103, .int x1, .int x2] M (Pwv res) := by
  refine CM_of (by decide) (by decide) (fun G hw hl h => ?_)
  subst hw
  exact kX13_ends_e0 h hf

-- X13_goesBy
theorem kX13_goesBy_b42 {G : GX} (h : OKm G cX13_goesBy RX13 3 none { frames := 7, cells := 0, slots := 0, locals := 166 }) {M : Mem} {x1 : Int32} {s0 : Int32} {s1 : Int32} {res : Mem} (hf : fX13_goesBy_b42 M x1 s0 s1 = some res) : GG G (Qm G (Pwv res) 0 0) 0 0 42 [(0, rv G.1 103), (1, .int x1)] [.int s0, .int s1, rv G.1 103] M := by
  unfold fX13_goesBy_b42 at hf
  obtain ⟨v4, M5, hq, hf⟩ := b2_some hf
  refine g_callVwi (As := [.int s1, .int s0]) (rest := []) h ceX13_does mlX13_396 imX13_does seX13_does (by rfl) (kd_lt (by rw [(by decide : kd 103 = 11)]; decide)) (ent_11 (by decide : kd 103 = 11)) rfl rfl ⟨by decide, by decide⟩ ⟨by decide, by decide⟩ rfl dX13_goesBy_42 rfl (Nat.le_of_ble_eq_true rfl) (cmX13_does hq) ?_
  refine g_pop h rfl dX13_goesBy_45 ?_
  refine g_aload_n h 0 rfl dX13_goesBy_46 ?_
  refine g_iload_n h 1 rfl dX13_goesBy_47 ?_
  refine g_iconst h 1 (v := 1) (by decide) dX13_goesBy_48 ?_
  obtain ⟨M6, hq, hf⟩ := bd_some hf
  refine g_callVwv (As := [.int x1, .int 1]) (rest := []) h ceX13_ends mlX13_400 imX13_ends seX13_ends (by rfl) (kd_lt (by rw [(by decide : kd 103 = 11)]; decide)) (ent_11 (by decide : kd 103 = 11)) rfl rfl ⟨by decide, by decide⟩ ⟨by decide, by decide⟩ rfl dX13_goesBy_49 rfl (Nat.le_of_ble_eq_true rfl) (cmX13_ends hq) ?_
  cases hf
  exact g_vret h rfl ⟨rfl, rfl⟩ (Nat.le_refl _) (Nat.le_refl _) dX13_goesBy_52

theorem kX13_goesBy_e0 {G : GX} (h : OKm G cX13_goesBy RX13 3 none { frames := 7, cells := 0, slots := 0, locals := 166 }) {M : Mem} {x1 : Int32} {x2 : Int32} {res : Mem} (hf : fX13_goesBy M x1 x2 = some res) : GG G (Qm G (Pwv res) 0 0) 0 0 0 [(0, rv G.1 103), (1, .int x1), (2, .int x2)] [] M := by
  unfold fX13_goesBy at hf
  refine g_aload_n h 0 rfl dX13_goesBy_0 ?_
  refine g_iload_n h 1 rfl dX13_goesBy_1 ?_
  refine g_aload_n h 0 rfl dX13_goesBy_2 ?_
  refine g_aload_n h 0 rfl dX13_goesBy_3 ?_
  refine gfX13_108 h (by decide : kd 103 = 11) dX13_goesBy_4 ?_
  refine g_iload_n h 1 rfl dX13_goesBy_7 ?_
  refine g_iconst h 3 (v := 3) (by decide) dX13_goesBy_8 ?_
  refine g_iadd h dX13_goesBy_9 ?_
  refine g_iald h 186 (by decide : kd 133 = 20) (by decide) hf dX13_goesBy_10 (fun v1 hf => ?_)
  obtain ⟨v2, hq, hf⟩ := bd_some hf
  refine g_callVri (As := [.int v1]) (rest := [.int x1, rv G.1 103]) h ceX13_harvestOf mlX13_387 imX13_harvestOf seX13_harvestOf (by rfl) (kd_lt (by rw [(by decide : kd 103 = 11)]; decide)) (ent_11 (by decide : kd 103 = 11)) rfl rfl ⟨by decide, by decide⟩ ⟨by decide, by decide⟩ rfl dX13_goesBy_11 rfl (Nat.le_of_ble_eq_true rfl) (cmX13_harvestOf hq) ?_
  obtain ⟨M3, hq, hf⟩ := bd_some hf
  refine g_callVwv (As := [.int x1, .int v2]) (rest := []) h ceX13_gathers mlX13_390 imX13_gathers seX13_gathers (by rfl) (kd_lt (by rw [(by decide : kd 103 = 11)]; decide)) (ent_11 (by decide : kd 103 = 11)) rfl rfl ⟨by decide, by decide⟩ ⟨by decide, by decide⟩ rfl dX13_goesBy_14 rfl (Nat.le_of_ble_eq_true rfl) (cmX13_gathers hq) ?_
  refine g_aload_n h 0 rfl dX13_goesBy_17 ?_
  refine g_iload_n h 1 rfl dX13_goesBy_18 ?_
  refine g_iload_n h 2 rfl dX13_goesBy_19 ?_
  refine g_bipush h (-2) (v := (-2)) (by decide) dX13_goesBy_20 ?_
  refine g_ic_ne h 41 (by decide) hf dX13_goesBy_22 (fun hf => ?_) (fun hf => ?_)
  · refine g_iload_n h 2 rfl dX13_goesBy_41 ?_
    refine g_sub [0, 1] rfl ?_
    exact kX13_goesBy_b42 h hf
  · refine g_aload_n h 0 rfl dX13_goesBy_25 ?_
    refine g_iload_n h 1 rfl dX13_goesBy_26 ?_
    refine g_aload_n h 0 rfl dX13_goesBy_27 ?_
    refine gfX13_108 h (by decide : kd 103 = 11) dX13_goesBy_28 ?_
    refine g_iload_n h 1 rfl dX13_goesBy_31 ?_
    refine g_iconst h 4 (v := 4) (by decide) dX13_goesBy_32 ?_
    refine g_iadd h dX13_goesBy_33 ?_
    refine g_iald h 186 (by decide : kd 133 = 20) (by decide) hf dX13_goesBy_34 (fun v7 hf => ?_)
    obtain ⟨v8, hq, hf⟩ := bd_some hf
    refine g_callVri (As := [.int x1, .int v7]) (rest := [.int x1, rv G.1 103]) h ceX13_wayOf mlX13_393 imX13_wayOf seX13_wayOf (by rfl) (kd_lt (by rw [(by decide : kd 103 = 11)]; decide)) (ent_11 (by decide : kd 103 = 11)) rfl rfl ⟨by decide, by decide⟩ ⟨by decide, by decide⟩ rfl dX13_goesBy_35 rfl (Nat.le_of_ble_eq_true rfl) (cmX13_wayOf hq) ?_
    refine g_goto h 42 (by decide) dX13_goesBy_38 ?_
    refine g_sub [0, 1] rfl ?_
    exact kX13_goesBy_b42 h hf

theorem cmX13_goesBy {l : Launch} {w : WX} {M : Mem} {x1 : Int32} {x2 : Int32} {res : Mem} (hf : fX13_goesBy M x1 x2 = some res) : CM l w yX13_goesBy cX13_goesBy 3 none { frames := 7, cells := 0, slots := 0, locals := 166 } 0 0 [rv w 103, .int x1, .int x2] M (Pwv res) := by
  refine CM_of (by decide) (by decide) (fun G hw hl h => ?_)
  subst hw
  exact kX13_goesBy_e0 h hf

-- X13_isSeen
theorem kX13_isSeen_l55 {G : GX} (h : OKm G cX13_isSeen RX13 4 (some .boolean) { frames := 8, cells := 0, slots := 0, locals := 188 }) : ∀ (n : Nat) (M : Mem) (x3 : Int32) (res : (Int32 × Mem)), fX13_isSeen_l55 n M x3 = some res → GG G (Qm G (Pwi res) 0 0) 0 0 55 [(0, rv G.1 103), (3, .int x3)] [] M := by
  intro n
  induction n with
  | zero => intro M x3 res hf; rw [fX13_isSeen_l55] at hf; cases hf
  | succ n ih =>
    intro M x3 res hf
    rw [fX13_isSeen_l55] at hf
    refine g_iload_n h 1 rfl dX13_isSeen_55 ?_
    refine g_aload_n h 0 rfl dX13_isSeen_56 ?_
    refine gfX13_355 h (by decide : kd 103 = 11) dX13_isSeen_57 ?_
    refine g_nmI hf (fun v2 hf => ?_)
    refine g_ic_ge h 99 (by decide) hf dX13_isSeen_60 (fun hf => ?_) (fun hf => ?_)
    · refine g_iconst h 1 (v := 1) (by decide) dX13_isSeen_99 ?_
      cases hf
      exact g_zret h (by decide) rfl ⟨rfl, rfl⟩ (Nat.le_refl _) (Nat.le_refl _) dX13_isSeen_100
    · refine g_aload_n h 0 rfl dX13_isSeen_63 ?_
      refine gfX13_126 h (by decide : kd 103 = 11) dX13_isSeen_64 ?_
      refine g_aload_n h 0 rfl dX13_isSeen_67 ?_
      refine gfX13_123 h (by decide : kd 103 = 11) dX13_isSeen_68 ?_
      refine g_iconst h 2 (v := 2) (by decide) dX13_isSeen_71 ?_
      refine g_iload_n h 1 rfl dX13_isSeen_72 ?_
      refine g_imul h dX13_isSeen_73 ?_
      refine g_iald h 16 (by decide : kd 138 = 20) (by decide) hf dX13_isSeen_74 (fun v3 hf => ?_)
      refine g_iconst h 1 (v := 1) (by decide) dX13_isSeen_75 ?_
      refine g_isub h dX13_isSeen_76 ?_
      refine g_iald h 30 (by decide : kd 139 = 20) (by decide) hf dX13_isSeen_77 (fun v4 hf => ?_)
      refine g_aload_n h 0 rfl dX13_isSeen_78 ?_
      refine gfX13_123 h (by decide : kd 103 = 11) dX13_isSeen_79 ?_
      refine g_iconst h 2 (v := 2) (by decide) dX13_isSeen_82 ?_
      refine g_iload_n h 1 rfl dX13_isSeen_83 ?_
      refine g_imul h dX13_isSeen_84 ?_
      refine g_iconst h 1 (v := 1) (by decide) dX13_isSeen_85 ?_
      refine g_iadd h dX13_isSeen_86 ?_
      refine g_iald h 16 (by decide : kd 138 = 20) (by decide) hf dX13_isSeen_87 (fun v5 hf => ?_)
      refine g_ic_eq h 93 (by decide) hf dX13_isSeen_88 (fun hf => ?_) (fun hf => ?_)
      · refine g_iinc h 3 1 rfl (v := x3 + 1) rfl [(3, .int (x3 + 1)), (0, rv G.1 103)] (by decide) rfl dX13_isSeen_93 ?_
        refine g_nmV hf (fun v6 hf => ?_)
        refine g_goto h 55 (by decide) dX13_isSeen_96 ?_
        refine g_sub [1, 0] rfl ?_
        exact ih _ _ _ hf
      · refine g_iconst h 0 (v := 0) (by decide) dX13_isSeen_91 ?_
        cases hf
        exact g_zret h (by decide) rfl ⟨rfl, rfl⟩ (Nat.le_refl _) (Nat.le_refl _) dX13_isSeen_92

theorem kX13_isSeen_b29 {G : GX} (h : OKm G cX13_isSeen RX13 4 (some .boolean) { frames := 8, cells := 0, slots := 0, locals := 188 }) {a9 : Mem → Int32 → Int32 → Int32 → Option (Int32 × Mem)} (ha9 : ∀ (M : Mem) (x1 : Int32) (x2 : Int32) (x3 : Int32) (res : (Int32 × Mem)), a9 M x1 x2 x3 = some res → GG G (Qm G (Pwi res) 0 0) 0 0 9 [(0, rv G.1 103), (1, .int x1), (2, .int x2), (3, .int x3)] [] M) {M : Mem} {x1 : Int32} {x2 : Int32} {x3 : Int32} {s0 : Int32} {s1 : Int32} {res : (Int32 × Mem)} (hf : fX13_isSeen_b29 a9 M x1 x2 x3 s0 s1 = some res) : GG G (Qm G (Pwi res) 0 0) 0 0 29 [(0, rv G.1 103), (1, .int x1), (2, .int x2), (3, .int x3)] [.int s0, .int s1, rv G.1 103] M := by
  unfold fX13_isSeen_b29 at hf
  obtain ⟨M7, hq, hf⟩ := bd_some hf
  refine g_callVwv (As := [.int s1, .int s0]) (rest := []) h ceX13_goesBy mlX13_404 imX13_goesBy seX13_goesBy (by rfl) (kd_lt (by rw [(by decide : kd 103 = 11)]; decide)) (ent_11 (by decide : kd 103 = 11)) rfl rfl ⟨by decide, by decide⟩ ⟨by decide, by decide⟩ rfl dX13_isSeen_29 rfl (Nat.le_of_ble_eq_true rfl) (cmX13_goesBy hq) ?_
  refine g_aload_n h 0 rfl dX13_isSeen_32 ?_
  refine gfX13_126 h (by decide : kd 103 = 11) dX13_isSeen_33 ?_
  refine g_iload_n h 3 rfl dX13_isSeen_36 ?_
  refine g_iconst h 1 (v := 1) (by decide) dX13_isSeen_37 ?_
  refine g_isub h dX13_isSeen_38 ?_
  refine g_aload_n h 0 rfl dX13_isSeen_39 ?_
  refine gfX13_108 h (by decide : kd 103 = 11) dX13_isSeen_40 ?_
  refine g_bipush h 31 (v := 31) (by decide) dX13_isSeen_43 ?_
  refine g_iald h 186 (by decide : kd 133 = 20) (by decide) hf dX13_isSeen_45 (fun v8 hf => ?_)
  refine g_iast h 30 (by decide : kd 139 = 20) (by decide) hf dX13_isSeen_46 (fun M9 hf => ?_)
  refine g_iinc h 3 3 rfl (v := x3 + 1) rfl [(3, .int (x3 + 1)), (0, rv G.1 103), (1, .int x1), (2, .int x2)] (by decide) rfl dX13_isSeen_47 ?_
  refine g_nmV hf (fun v10 hf => ?_)
  refine g_goto h 9 (by decide) dX13_isSeen_50 ?_
  refine g_sub [1, 2, 3, 0] rfl ?_
  exact ha9 _ _ _ _ _ hf

theorem kX13_isSeen_l9 {G : GX} (h : OKm G cX13_isSeen RX13 4 (some .boolean) { frames := 8, cells := 0, slots := 0, locals := 188 }) : ∀ (n : Nat) (M : Mem) (x1 : Int32) (x2 : Int32) (x3 : Int32) (res : (Int32 × Mem)), fX13_isSeen_l9 n M x1 x2 x3 = some res → GG G (Qm G (Pwi res) 0 0) 0 0 9 [(0, rv G.1 103), (1, .int x1), (2, .int x2), (3, .int x3)] [] M := by
  intro n
  induction n with
  | zero => intro M x1 x2 x3 res hf; rw [fX13_isSeen_l9] at hf; cases hf
  | succ n ih =>
    intro M x1 x2 x3 res hf
    rw [fX13_isSeen_l9] at hf
    refine g_iload_n h 3 rfl dX13_isSeen_9 ?_
    refine g_bipush h 30 (v := 30) (by decide) dX13_isSeen_10 ?_
    refine g_ic_gt h 53 (by decide) hf dX13_isSeen_12 (fun hf => ?_) (fun hf => ?_)
    · refine g_iconst h 0 (v := 0) (by decide) dX13_isSeen_53 ?_
      refine g_istore_n h rfl [(3, .int 0), (0, rv G.1 103), (1, .int x1), (2, .int x2)] (by decide) rfl dX13_isSeen_54 ?_
      refine g_sub [1, 0] rfl ?_
      exact kX13_isSeen_l55 h _ _ _ _ hf
    · refine g_aload_n h 0 rfl dX13_isSeen_15 ?_
      refine g_bipush h 31 (v := 31) (by decide) dX13_isSeen_16 ?_
      refine g_iload_n h 3 rfl dX13_isSeen_18 ?_
      refine g_iload_n h 1 rfl dX13_isSeen_19 ?_
      refine g_ic_ne h 27 (by decide) hf dX13_isSeen_20 (fun hf => ?_) (fun hf => ?_)
      · refine g_bipush h (-2) (v := (-2)) (by decide) dX13_isSeen_27 ?_
        refine g_sub [0, 1, 2, 3] rfl ?_
        exact kX13_isSeen_b29 h ih hf
      · refine g_iload_n h 2 rfl dX13_isSeen_23 ?_
        refine g_goto h 29 (by decide) dX13_isSeen_24 ?_
        refine g_sub [0, 1, 2, 3] rfl ?_
        exact kX13_isSeen_b29 h ih hf

theorem kX13_isSeen_e0 {G : GX} (h : OKm G cX13_isSeen RX13 4 (some .boolean) { frames := 8, cells := 0, slots := 0, locals := 188 }) {M : Mem} {x1 : Int32} {x2 : Int32} {res : (Int32 × Mem)} (hf : fX13_isSeen M x1 x2 = some res) : GG G (Qm G (Pwi res) 0 0) 0 0 0 [(0, rv G.1 103), (1, .int x1), (2, .int x2)] [] M := by
  unfold fX13_isSeen at hf
  refine g_aload_n h 0 rfl dX13_isSeen_0 ?_
  refine g_iconst h 0 (v := 0) (by decide) dX13_isSeen_1 ?_
  refine g_bipush h 31 (v := 31) (by decide) dX13_isSeen_2 ?_
  obtain ⟨M1, hq, hf⟩ := bd_some hf
  refine g_callVwv (As := [.int 0, .int 31]) (rest := []) h ceX13_lays0 mlX13_432 imX13_lays0 seX13_lays0 (by rfl) (kd_lt (by rw [(by decide : kd 103 = 11)]; decide)) (ent_11 (by decide : kd 103 = 11)) rfl rfl ⟨by decide, by decide⟩ ⟨by decide, by decide⟩ rfl dX13_isSeen_4 rfl (Nat.le_of_ble_eq_true rfl) (cmX13_lays0 hq) ?_
  refine g_iconst h 1 (v := 1) (by decide) dX13_isSeen_7 ?_
  refine g_istore_n h rfl [(3, .int 1), (0, rv G.1 103), (1, .int x1), (2, .int x2)] (by decide) rfl dX13_isSeen_8 ?_
  refine g_sub [1, 2, 3, 0] rfl ?_
  exact kX13_isSeen_l9 h _ _ _ _ _ _ hf

theorem cmX13_isSeen {l : Launch} {w : WX} {M : Mem} {x1 : Int32} {x2 : Int32} {res : (Int32 × Mem)} (hf : fX13_isSeen M x1 x2 = some res) : CM l w yX13_isSeen cX13_isSeen 4 (some .boolean) { frames := 8, cells := 0, slots := 0, locals := 188 } 0 0 [rv w 103, .int x1, .int x2] M (Pwi res) := by
  refine CM_of (by decide) (by decide) (fun G hw hl h => ?_)
  subst hw
  exact kX13_isSeen_e0 h hf

-- X13_another
theorem kX13_another_b93 {G : GX} (h : OKm G cX13_another RX13 6 (some .int) { frames := 9, cells := 0, slots := 0, locals := 211 }) {a43 : Mem → Int32 → Int32 → Int32 → Int32 → Option (Int32 × Mem)} (ha43 : ∀ (M : Mem) (x1 : Int32) (x2 : Int32) (x3 : Int32) (x4 : Int32) (res : (Int32 × Mem)), a43 M x1 x2 x3 x4 = some res → GG G (Qm G (Pwi res) 0 0) 0 0 43 [(0, rv G.1 103), (1, .int x1), (2, .int x2), (3, .int x3), (4, .int x4)] [] M) {a53 : Mem → Int32 → Int32 → Int32 → Int32 → Int32 → Option (Int32 × Mem)} (ha53 : ∀ (M : Mem) (x1 : Int32) (x2 : Int32) (x3 : Int32) (x4 : Int32) (x5 : Int32) (res : (Int32 × Mem)), a53 M x1 x2 x3 x4 x5 = some res → GG G (Qm G (Pwi res) 0 0) 0 0 53 [(0, rv G.1 103), (1, .int x1), (2, .int x2), (3, .int x3), (4, .int x4), (5, .int x5)] [] M) {M : Mem} {x1 : Int32} {x2 : Int32} {x3 : Int32} {x4 : Int32} {x5 : Int32} {res : (Int32 × Mem)} (hf : fX13_another_b93 a43 a53 M x1 x2 x3 x4 x5 = some res) : GG G (Qm G (Pwi res) 0 0) 0 0 93 [(0, rv G.1 103), (1, .int x1), (2, .int x2), (3, .int x3), (4, .int x4), (5, .int x5)] [] M := by
  unfold fX13_another_b93 at hf
  refine g_iinc h 5 5 rfl (v := x5 + 1) rfl [(5, .int (x5 + 1)), (0, rv G.1 103), (1, .int x1), (2, .int x2), (3, .int x3), (4, .int x4)] (by decide) rfl dX13_another_93 ?_
  refine g_nmV hf (fun v9 hf => ?_)
  refine g_goto h 53 (by decide) dX13_another_96 ?_
  refine g_sub [1, 2, 3, 4, 5, 0] rfl ?_
  exact ha53 _ _ _ _ _ _ _ hf

theorem kX13_another_l53 {G : GX} (h : OKm G cX13_another RX13 6 (some .int) { frames := 9, cells := 0, slots := 0, locals := 211 }) {a43 : Mem → Int32 → Int32 → Int32 → Int32 → Option (Int32 × Mem)} (ha43 : ∀ (M : Mem) (x1 : Int32) (x2 : Int32) (x3 : Int32) (x4 : Int32) (res : (Int32 × Mem)), a43 M x1 x2 x3 x4 = some res → GG G (Qm G (Pwi res) 0 0) 0 0 43 [(0, rv G.1 103), (1, .int x1), (2, .int x2), (3, .int x3), (4, .int x4)] [] M) : ∀ (n : Nat) (M : Mem) (x1 : Int32) (x2 : Int32) (x3 : Int32) (x4 : Int32) (x5 : Int32) (res : (Int32 × Mem)), fX13_another_l53 a43 n M x1 x2 x3 x4 x5 = some res → GG G (Qm G (Pwi res) 0 0) 0 0 53 [(0, rv G.1 103), (1, .int x1), (2, .int x2), (3, .int x3), (4, .int x4), (5, .int x5)] [] M := by
  intro n
  induction n with
  | zero => intro M x1 x2 x3 x4 x5 res hf; rw [fX13_another_l53] at hf; cases hf
  | succ n ih =>
    intro M x1 x2 x3 x4 x5 res hf
    rw [fX13_another_l53] at hf
    refine g_iload h 5 rfl dX13_another_53 ?_
    refine g_aload_n h 0 rfl dX13_another_55 ?_
    refine gfX13_333 h (by decide : kd 103 = 11) dX13_another_56 ?_
    refine g_nmI hf (fun v4 hf => ?_)
    refine g_ic_ge h 99 (by decide) hf dX13_another_59 (fun hf => ?_) (fun hf => ?_)
    · refine g_iinc h 4 4 rfl (v := x4 + 1) rfl [(4, .int (x4 + 1)), (0, rv G.1 103), (1, .int x1), (2, .int x2), (3, .int x3), (5, .int x5)] (by decide) rfl dX13_another_99 ?_
      refine g_nmV hf (fun v5 hf => ?_)
      refine g_goto h 43 (by decide) dX13_another_102 ?_
      refine g_sub [1, 2, 3, 4, 0] rfl ?_
      exact ha43 _ _ _ _ _ _ hf
    · refine g_aload_n h 0 rfl dX13_another_62 ?_
      refine g_iload h 4 rfl dX13_another_63 ?_
      refine g_iload h 5 rfl dX13_another_65 ?_
      obtain ⟨v6, M7, hq, hf⟩ := b2_some hf
      refine g_callVwi (As := [.int x4, .int x5]) (rest := []) h ceX13_isSeen mlX13_474 imX13_isSeen seX13_isSeen (by rfl) (kd_lt (by rw [(by decide : kd 103 = 11)]; decide)) (ent_11 (by decide : kd 103 = 11)) rfl rfl ⟨by decide, by decide⟩ ⟨by decide, by decide⟩ rfl dX13_another_67 rfl (Nat.le_of_ble_eq_true rfl) (cmX13_isSeen hq) ?_
      refine g_if_ne h 76 (by decide) hf dX13_another_70 (fun hf => ?_) (fun hf => ?_)
      · refine g_iinc h 2 2 rfl (v := x2 + 1) rfl [(2, .int (x2 + 1)), (0, rv G.1 103), (1, .int x1), (3, .int x3), (4, .int x4), (5, .int x5)] (by decide) rfl dX13_another_76 ?_
        refine g_nmV hf (fun v8 hf => ?_)
        refine g_iload_n h 3 rfl dX13_another_79 ?_
        refine g_iconst h (-1) (v := (-1)) (by decide) dX13_another_80 ?_
        refine g_ic_ne h 93 (by decide) hf dX13_another_81 (fun hf => ?_) (fun hf => ?_)
        · refine g_sub [1, 2, 0, 3, 4, 5] rfl ?_
          exact kX13_another_b93 h ha43 ih hf
        · refine g_bipush h 10 (v := 10) (by decide) dX13_another_84 ?_
          refine g_iload h 4 rfl dX13_another_86 ?_
          refine g_imul h dX13_another_88 ?_
          refine g_iload h 5 rfl dX13_another_89 ?_
          refine g_iadd h dX13_another_91 ?_
          refine g_nmI hf (fun v10 hf => ?_)
          refine g_istore_n h rfl [(3, .int v10), (2, .int v8), (0, rv G.1 103), (1, .int x1), (4, .int x4), (5, .int x5)] (by decide) rfl dX13_another_92 ?_
          refine g_sub [2, 3, 1, 0, 4, 5] rfl ?_
          exact kX13_another_b93 h ha43 ih hf
      · refine g_goto h 93 (by decide) dX13_another_73 ?_
        refine g_sub [0, 1, 2, 3, 4, 5] rfl ?_
        exact kX13_another_b93 h ha43 ih hf

theorem kX13_another_l43 {G : GX} (h : OKm G cX13_another RX13 6 (some .int) { frames := 9, cells := 0, slots := 0, locals := 211 }) : ∀ (n : Nat) (M : Mem) (x1 : Int32) (x2 : Int32) (x3 : Int32) (x4 : Int32) (res : (Int32 × Mem)), fX13_another_l43 n M x1 x2 x3 x4 = some res → GG G (Qm G (Pwi res) 0 0) 0 0 43 [(0, rv G.1 103), (1, .int x1), (2, .int x2), (3, .int x3), (4, .int x4)] [] M := by
  intro n
  induction n with
  | zero => intro M x1 x2 x3 x4 res hf; rw [fX13_another_l43] at hf; cases hf
  | succ n ih =>
    intro M x1 x2 x3 x4 res hf
    rw [fX13_another_l43] at hf
    refine g_iload h 4 rfl dX13_another_43 ?_
    refine g_bipush h 12 (v := 12) (by decide) dX13_another_45 ?_
    refine g_ic_gt h 105 (by decide) hf dX13_another_47 (fun hf => ?_) (fun hf => ?_)
    · refine g_iload_n h 1 rfl dX13_another_105 ?_
      refine g_if_ne h 113 (by decide) hf dX13_another_106 (fun hf => ?_) (fun hf => ?_)
      · refine g_iload_n h 3 rfl dX13_another_113 ?_
        cases hf
        exact g_iret h rfl ⟨rfl, rfl⟩ (Nat.le_refl _) (Nat.le_refl _) dX13_another_114
      · refine g_iload_n h 2 rfl dX13_another_109 ?_
        refine g_goto h 114 (by decide) dX13_another_110 ?_
        cases hf
        exact g_iret h rfl ⟨rfl, rfl⟩ (Nat.le_refl _) (Nat.le_refl _) dX13_another_114
    · refine g_iconst h 0 (v := 0) (by decide) dX13_another_50 ?_
      refine g_istore h [(5, .int 0), (0, rv G.1 103), (1, .int x1), (2, .int x2), (3, .int x3), (4, .int x4)] (by decide) rfl dX13_another_51 ?_
      refine g_sub [1, 2, 3, 4, 5, 0] rfl ?_
      exact kX13_another_l53 h ih _ _ _ _ _ _ _ _ hf

theorem kX13_another_e0 {G : GX} (h : OKm G cX13_another RX13 6 (some .int) { frames := 9, cells := 0, slots := 0, locals := 211 }) {M : Mem} {x1 : Int32} {res : (Int32 × Mem)} (hf : fX13_another M x1 = some res) : GG G (Qm G (Pwi res) 0 0) 0 0 0 [(0, rv G.1 103), (1, .int x1)] [] M := by
  unfold fX13_another at hf
  refine g_aload_n h 0 rfl dX13_another_0 ?_
  refine g_iconst h 0 (v := 0) (by decide) dX13_another_1 ?_
  refine pfX13_141 h (by decide : kd 103 = 11) dX13_another_2 ?_
  refine g_nmM hf (fun M1 hf => ?_)
  refine g_aload_n h 0 rfl dX13_another_5 ?_
  refine g_iload_n h 1 rfl dX13_another_6 ?_
  refine g_iconst h 2 (v := 2) (by decide) dX13_another_7 ?_
  obtain ⟨v2, M3, hq, hf⟩ := b2_some hf
  refine g_callVwi (As := [.int x1, .int 2]) (rest := []) h ceX13_isWhat mlX13_414 imX13_isWhat seX13_isWhat (by rfl) (kd_lt (by rw [(by decide : kd 103 = 11)]; decide)) (ent_11 (by decide : kd 103 = 11)) rfl rfl ⟨by decide, by decide⟩ ⟨by decide, by decide⟩ rfl dX13_another_8 rfl (Nat.le_of_ble_eq_true rfl) (cmX13_isWhat hq) ?_
  refine g_if_ne h 16 (by decide) hf dX13_another_11 (fun hf => ?_) (fun hf => ?_)
  · refine g_iload_n h 1 rfl dX13_another_16 ?_
    refine g_iconst h 2 (v := 2) (by decide) dX13_another_17 ?_
    refine g_ic_ne h 36 (by decide) hf dX13_another_18 (fun hf => ?_) (fun hf => ?_)
    · refine g_iconst h 0 (v := 0) (by decide) dX13_another_36 ?_
      refine g_istore_n h rfl [(2, .int 0), (0, rv G.1 103), (1, .int x1)] (by decide) rfl dX13_another_37 ?_
      refine g_iconst h (-1) (v := (-1)) (by decide) dX13_another_38 ?_
      refine g_istore_n h rfl [(3, .int (-1)), (2, .int 0), (0, rv G.1 103), (1, .int x1)] (by decide) rfl dX13_another_39 ?_
      refine g_iconst h 1 (v := 1) (by decide) dX13_another_40 ?_
      refine g_istore h [(4, .int 1), (3, .int (-1)), (2, .int 0), (0, rv G.1 103), (1, .int x1)] (by decide) rfl dX13_another_41 ?_
      refine g_sub [3, 4, 2, 1, 0] rfl ?_
      exact kX13_another_l43 h _ _ _ _ _ _ _ hf
    · refine g_aload_n h 0 rfl dX13_another_21 ?_
      refine g_iconst h 0 (v := 0) (by decide) dX13_another_22 ?_
      refine g_iconst h (-1) (v := (-1)) (by decide) dX13_another_23 ?_
      obtain ⟨v11, M12, hq, hf⟩ := b2_some hf
      refine g_callVwi (As := [.int 0, .int (-1)]) (rest := []) h ceX13_isSeen mlX13_474 imX13_isSeen seX13_isSeen (by rfl) (kd_lt (by rw [(by decide : kd 103 = 11)]; decide)) (ent_11 (by decide : kd 103 = 11)) rfl rfl ⟨by decide, by decide⟩ ⟨by decide, by decide⟩ rfl dX13_another_24 rfl (Nat.le_of_ble_eq_true rfl) (cmX13_isSeen hq) ?_
      refine g_if_eq h 34 (by decide) hf dX13_another_27 (fun hf => ?_) (fun hf => ?_)
      · refine g_iconst h 0 (v := 0) (by decide) dX13_another_34 ?_
        cases hf
        exact g_iret h rfl ⟨rfl, rfl⟩ (Nat.le_refl _) (Nat.le_refl _) dX13_another_35
      · refine g_iconst h 1 (v := 1) (by decide) dX13_another_30 ?_
        refine g_goto h 35 (by decide) dX13_another_31 ?_
        cases hf
        exact g_iret h rfl ⟨rfl, rfl⟩ (Nat.le_refl _) (Nat.le_refl _) dX13_another_35
  · refine g_iconst h 0 (v := 0) (by decide) dX13_another_14 ?_
    cases hf
    exact g_iret h rfl ⟨rfl, rfl⟩ (Nat.le_refl _) (Nat.le_refl _) dX13_another_15

theorem cmX13_another {l : Launch} {w : WX} {M : Mem} {x1 : Int32} {res : (Int32 × Mem)} (hf : fX13_another M x1 = some res) : CM l w yX13_another cX13_another 6 (some .int) { frames := 9, cells := 0, slots := 0, locals := 211 } 0 0 [rv w 103, .int x1] M (Pwi res) := by
  refine CM_of (by decide) (by decide) (fun G hw hl h => ?_)
  subst hw
  exact kX13_another_e0 h hf

-- X13_mostOf
theorem kX13_mostOf_e0 {G : GX} (h : OKm G cX13_mostOf RX13 3 (some .int) { frames := 0, cells := 0, slots := 0, locals := 0 }) {M : Mem} {x1 : Int32} {x2 : Int32} {res : Int32} (hf : fX13_mostOf M x1 x2 = some res) : GG G (Qm G (Pri res M) 0 0) 0 0 0 [(0, rv G.1 103), (1, .int x1), (2, .int x2)] [] M := by
  unfold fX13_mostOf at hf
  refine g_iload_n h 1 rfl dX13_mostOf_0 ?_
  refine g_aload_n h 0 rfl dX13_mostOf_1 ?_
  refine gfX13_342 h (by decide : kd 103 = 11) dX13_mostOf_2 ?_
  refine g_nmI hf (fun v1 hf => ?_)
  refine g_ic_ne h 12 (by decide) hf dX13_mostOf_5 (fun hf => ?_) (fun hf => ?_)
  · refine g_aload_n h 0 rfl dX13_mostOf_12 ?_
    refine gfX13_120 h (by decide : kd 103 = 11) dX13_mostOf_13 ?_
    refine g_sipush h 128 (v := 128) (by decide) dX13_mostOf_16 ?_
    refine g_iload_n h 1 rfl dX13_mostOf_19 ?_
    refine g_imul h dX13_mostOf_20 ?_
    refine g_iload_n h 2 rfl dX13_mostOf_21 ?_
    refine g_iadd h dX13_mostOf_22 ?_
    refine g_iald h 1024 (by decide : kd 137 = 20) (by decide) hf dX13_mostOf_23 (fun v2 hf => ?_)
    cases hf
    exact g_iret h rfl ⟨rfl, rfl⟩ (Nat.le_refl _) (Nat.le_refl _) dX13_mostOf_24
  · refine g_iconst h 0 (v := 0) (by decide) dX13_mostOf_8 ?_
    refine g_goto h 24 (by decide) dX13_mostOf_9 ?_
    cases hf
    exact g_iret h rfl ⟨rfl, rfl⟩ (Nat.le_refl _) (Nat.le_refl _) dX13_mostOf_24

theorem cmX13_mostOf {l : Launch} {w : WX} {M : Mem} {x1 : Int32} {x2 : Int32} {res : Int32} (hf : fX13_mostOf M x1 x2 = some res) : CM l w yX13_mostOf cX13_mostOf 3 (some .int) { frames := 0, cells := 0, slots := 0, locals := 0 } 0 0 [rv w 103, .int x1, .int x2] M (Pri res M) := by
  refine CM_of (by decide) (by decide) (fun G hw hl h => ?_)
  subst hw
  exact kX13_mostOf_e0 h hf

-- X13_isWin
theorem kX13_isWin_b26 {G : GX} (h : OKm G cX13_isWin RX13 3 (some .boolean) { frames := 0, cells := 0, slots := 0, locals := 0 }) {M : Mem} {x2 : Int32} {s0 : Int32} {s1 : Int32} {res : Int32} (hf : fX13_isWin_b26 M x2 s0 s1 = some res) : GG G (Qm G (Pri res M) 0 0) 0 0 26 [(0, rv G.1 103), (2, .int x2)] [.int s0, .int s1] M := by
  unfold fX13_isWin_b26 at hf
  refine g_iadd h dX13_isWin_26 ?_
  refine g_aload_n h 0 rfl dX13_isWin_27 ?_
  refine gfX13_44 h (by decide : kd 103 = 11) dX13_isWin_28 ?_
  refine g_iload_n h 1 rfl dX13_isWin_31 ?_
  refine g_iald h 7 (by decide : kd 113 = 20) (by decide) hf dX13_isWin_32 (fun v4 hf => ?_)
  refine g_aload_n h 0 rfl dX13_isWin_33 ?_
  refine gfX13_108 h (by decide : kd 103 = 11) dX13_isWin_34 ?_
  refine g_iconst h 1 (v := 1) (by decide) dX13_isWin_37 ?_
  refine g_iald h 186 (by decide : kd 133 = 20) (by decide) hf dX13_isWin_38 (fun v5 hf => ?_)
  refine g_bipush h 10 (v := 10) (by decide) dX13_isWin_39 ?_
  refine g_idiv h (by decide) dX13_isWin_41 ?_
  refine g_iadd h dX13_isWin_42 ?_
  refine g_ic_le h 50 (by decide) hf dX13_isWin_43 (fun hf => ?_) (fun hf => ?_)
  · refine g_iconst h 0 (v := 0) (by decide) dX13_isWin_50 ?_
    cases hf
    exact g_zret h (by decide) rfl ⟨rfl, rfl⟩ (Nat.le_refl _) (Nat.le_refl _) dX13_isWin_51
  · refine g_iconst h 1 (v := 1) (by decide) dX13_isWin_46 ?_
    refine g_goto h 51 (by decide) dX13_isWin_47 ?_
    cases hf
    exact g_zret h (by decide) rfl ⟨rfl, rfl⟩ (Nat.le_refl _) (Nat.le_refl _) dX13_isWin_51

theorem kX13_isWin_e0 {G : GX} (h : OKm G cX13_isWin RX13 3 (some .boolean) { frames := 0, cells := 0, slots := 0, locals := 0 }) {M : Mem} {x1 : Int32} {x2 : Int32} {res : Int32} (hf : fX13_isWin M x1 x2 = some res) : GG G (Qm G (Pri res M) 0 0) 0 0 0 [(0, rv G.1 103), (1, .int x1), (2, .int x2)] [] M := by
  unfold fX13_isWin at hf
  refine g_aload_n h 0 rfl dX13_isWin_0 ?_
  refine gfX13_38 h (by decide : kd 103 = 11) dX13_isWin_1 ?_
  refine g_iload_n h 1 rfl dX13_isWin_4 ?_
  refine g_iald h 7 (by decide : kd 111 = 20) (by decide) hf dX13_isWin_5 (fun v1 hf => ?_)
  refine g_aload_n h 0 rfl dX13_isWin_6 ?_
  refine gfX13_41 h (by decide : kd 103 = 11) dX13_isWin_7 ?_
  refine g_iload_n h 1 rfl dX13_isWin_10 ?_
  refine g_iald h 7 (by decide : kd 112 = 20) (by decide) hf dX13_isWin_11 (fun v2 hf => ?_)
  refine g_aload_n h 0 rfl dX13_isWin_12 ?_
  refine gfX13_47 h (by decide : kd 103 = 11) dX13_isWin_13 ?_
  refine g_iload_n h 2 rfl dX13_isWin_16 ?_
  refine g_iald h 7 (by decide : kd 114 = 20) (by decide) hf dX13_isWin_17 (fun v3 hf => ?_)
  refine g_ic_ne h 25 (by decide) hf dX13_isWin_18 (fun hf => ?_) (fun hf => ?_)
  · refine g_iconst h 0 (v := 0) (by decide) dX13_isWin_25 ?_
    refine g_sub [0, 2] rfl ?_
    exact kX13_isWin_b26 h hf
  · refine g_iconst h 5 (v := 5) (by decide) dX13_isWin_21 ?_
    refine g_goto h 26 (by decide) dX13_isWin_22 ?_
    refine g_sub [0, 2] rfl ?_
    exact kX13_isWin_b26 h hf

theorem cmX13_isWin {l : Launch} {w : WX} {M : Mem} {x1 : Int32} {x2 : Int32} {res : Int32} (hf : fX13_isWin M x1 x2 = some res) : CM l w yX13_isWin cX13_isWin 3 (some .boolean) { frames := 0, cells := 0, slots := 0, locals := 0 } 0 0 [rv w 103, .int x1, .int x2] M (Pri res M) := by
  refine CM_of (by decide) (by decide) (fun G hw hl h => ?_)
  subst hw
  exact kX13_isWin_e0 h hf

-- X13_assault
theorem kX13_assault_b272 {G : GX} (h : OKm G cX13_assault RX13 6 (some .int) { frames := 1, cells := 0, slots := 0, locals := 22 }) {a185 : Mem → Int32 → Int32 → Int32 → Int32 → Option (Int32 × Mem)} (ha185 : ∀ (M : Mem) (x1 : Int32) (x2 : Int32) (x3 : Int32) (x4 : Int32) (res : (Int32 × Mem)), a185 M x1 x2 x3 x4 = some res → GG G (Qm G (Pwi res) 0 0) 0 0 185 [(0, rv G.1 103), (1, .int x1), (2, .int x2), (3, .int x3), (4, .int x4)] [] M) {M : Mem} {x1 : Int32} {x2 : Int32} {x3 : Int32} {x4 : Int32} {res : (Int32 × Mem)} (hf : fX13_assault_b272 a185 M x1 x2 x3 x4 = some res) : GG G (Qm G (Pwi res) 0 0) 0 0 272 [(0, rv G.1 103), (1, .int x1), (2, .int x2), (3, .int x3), (4, .int x4)] [] M := by
  unfold fX13_assault_b272 at hf
  refine g_iinc h 4 4 rfl (v := x4 + 1) rfl [(4, .int (x4 + 1)), (0, rv G.1 103), (1, .int x1), (2, .int x2), (3, .int x3)] (by decide) rfl dX13_assault_272 ?_
  refine g_nmV hf (fun v8 hf => ?_)
  refine g_goto h 185 (by decide) dX13_assault_275 ?_
  refine g_sub [1, 2, 3, 4, 0] rfl ?_
  exact ha185 _ _ _ _ _ _ hf

theorem kX13_assault_b255 {G : GX} (h : OKm G cX13_assault RX13 6 (some .int) { frames := 1, cells := 0, slots := 0, locals := 22 }) {a185 : Mem → Int32 → Int32 → Int32 → Int32 → Option (Int32 × Mem)} (ha185 : ∀ (M : Mem) (x1 : Int32) (x2 : Int32) (x3 : Int32) (x4 : Int32) (res : (Int32 × Mem)), a185 M x1 x2 x3 x4 = some res → GG G (Qm G (Pwi res) 0 0) 0 0 185 [(0, rv G.1 103), (1, .int x1), (2, .int x2), (3, .int x3), (4, .int x4)] [] M) {a201 : Mem → Int32 → Int32 → Int32 → Int32 → Int32 → Option (Int32 × Mem)} (ha201 : ∀ (M : Mem) (x1 : Int32) (x2 : Int32) (x3 : Int32) (x4 : Int32) (x5 : Int32) (res : (Int32 × Mem)), a201 M x1 x2 x3 x4 x5 = some res → GG G (Qm G (Pwi res) 0 0) 0 0 201 [(0, rv G.1 103), (1, .int x1), (2, .int x2), (3, .int x3), (4, .int x4), (5, .int x5)] [] M) {M : Mem} {x1 : Int32} {x2 : Int32} {x3 : Int32} {x4 : Int32} {x5 : Int32} {res : (Int32 × Mem)} (hf : fX13_assault_b255 a185 a201 M x1 x2 x3 x4 x5 = some res) : GG G (Qm G (Pwi res) 0 0) 0 0 255 [(0, rv G.1 103), (1, .int x1), (2, .int x2), (3, .int x3), (4, .int x4), (5, .int x5)] [] M := by
  unfold fX13_assault_b255 at hf
  refine g_iinc h 5 5 rfl (v := x5 + (-1)) rfl [(5, .int (x5 + (-1))), (0, rv G.1 103), (1, .int x1), (2, .int x2), (3, .int x3), (4, .int x4)] (by decide) rfl dX13_assault_255 ?_
  refine g_nmV hf (fun v10 hf => ?_)
  refine g_goto h 201 (by decide) dX13_assault_258 ?_
  refine g_sub [1, 2, 3, 4, 5, 0] rfl ?_
  exact ha201 _ _ _ _ _ _ _ hf

theorem kX13_assault_l201 {G : GX} (h : OKm G cX13_assault RX13 6 (some .int) { frames := 1, cells := 0, slots := 0, locals := 22 }) {a185 : Mem → Int32 → Int32 → Int32 → Int32 → Option (Int32 × Mem)} (ha185 : ∀ (M : Mem) (x1 : Int32) (x2 : Int32) (x3 : Int32) (x4 : Int32) (res : (Int32 × Mem)), a185 M x1 x2 x3 x4 = some res → GG G (Qm G (Pwi res) 0 0) 0 0 185 [(0, rv G.1 103), (1, .int x1), (2, .int x2), (3, .int x3), (4, .int x4)] [] M) : ∀ (n : Nat) (M : Mem) (x1 : Int32) (x2 : Int32) (x3 : Int32) (x4 : Int32) (x5 : Int32) (res : (Int32 × Mem)), fX13_assault_l201 a185 n M x1 x2 x3 x4 x5 = some res → GG G (Qm G (Pwi res) 0 0) 0 0 201 [(0, rv G.1 103), (1, .int x1), (2, .int x2), (3, .int x3), (4, .int x4), (5, .int x5)] [] M := by
  intro n
  induction n with
  | zero => intro M x1 x2 x3 x4 x5 res hf; rw [fX13_assault_l201] at hf; cases hf
  | succ n ih =>
    intro M x1 x2 x3 x4 x5 res hf
    rw [fX13_assault_l201] at hf
    refine g_iload h 5 rfl dX13_assault_201 ?_
    refine g_if_lt h 261 (by decide) hf dX13_assault_203 (fun hf => ?_) (fun hf => ?_)
    · refine g_iload_n h 3 rfl dX13_assault_261 ?_
      refine g_iconst h (-1) (v := (-1)) (by decide) dX13_assault_262 ?_
      refine g_ic_eq h 272 (by decide) hf dX13_assault_263 (fun hf => ?_) (fun hf => ?_)
      · refine g_sub [0, 1, 2, 3, 4] rfl ?_
        exact kX13_assault_b272 h ha185 hf
      · refine g_iload_n h 2 rfl dX13_assault_266 ?_
        refine g_iconst h 1 (v := 1) (by decide) dX13_assault_267 ?_
        refine g_iload_n h 3 rfl dX13_assault_268 ?_
        refine g_ishl h dX13_assault_269 ?_
        refine g_ior h dX13_assault_270 ?_
        refine g_nmI hf (fun v9 hf => ?_)
        refine g_istore_n h rfl [(2, .int v9), (0, rv G.1 103), (1, .int x1), (3, .int x3), (4, .int x4), (5, .int x5)] (by decide) rfl dX13_assault_271 ?_
        refine g_sub [1, 2, 0, 3, 4] rfl ?_
        exact kX13_assault_b272 h ha185 hf
    · refine g_iload_n h 2 rfl dX13_assault_206 ?_
      refine g_iload h 5 rfl dX13_assault_207 ?_
      refine g_ishr h dX13_assault_209 ?_
      refine g_iconst h 1 (v := 1) (by decide) dX13_assault_210 ?_
      refine g_iand h dX13_assault_211 ?_
      refine g_if_ne h 255 (by decide) hf dX13_assault_212 (fun hf => ?_) (fun hf => ?_)
      · refine g_sub [0, 1, 2, 3, 4, 5] rfl ?_
        exact kX13_assault_b255 h ha185 ih hf
      · refine g_aload_n h 0 rfl dX13_assault_215 ?_
        refine g_iload h 4 rfl dX13_assault_216 ?_
        refine g_iload h 5 rfl dX13_assault_218 ?_
        obtain ⟨v11, hq, hf⟩ := bd_some hf
        refine g_callVri (As := [.int x4, .int x5]) (rest := []) h ceX13_isWin mlX13_459 imX13_isWin seX13_isWin (by rfl) (kd_lt (by rw [(by decide : kd 103 = 11)]; decide)) (ent_11 (by decide : kd 103 = 11)) rfl rfl ⟨by decide, by decide⟩ ⟨by decide, by decide⟩ rfl dX13_assault_220 rfl (Nat.le_of_ble_eq_true rfl) (cmX13_isWin hq) ?_
        refine g_if_eq h 255 (by decide) hf dX13_assault_223 (fun hf => ?_) (fun hf => ?_)
        · refine g_sub [0, 1, 2, 3, 4, 5] rfl ?_
          exact kX13_assault_b255 h ha185 ih hf
        · refine g_iconst h 1 (v := 1) (by decide) dX13_assault_226 ?_
          refine g_aload_n h 0 rfl dX13_assault_227 ?_
          refine g_iload h 4 rfl dX13_assault_228 ?_
          refine g_iconst h 1 (v := 1) (by decide) dX13_assault_230 ?_
          refine g_iadd h dX13_assault_231 ?_
          refine g_iload_n h 2 rfl dX13_assault_232 ?_
          refine g_iconst h 1 (v := 1) (by decide) dX13_assault_233 ?_
          refine g_iload h 5 rfl dX13_assault_234 ?_
          refine g_ishl h dX13_assault_236 ?_
          refine g_ior h dX13_assault_237 ?_
          obtain ⟨v12, hq, hf⟩ := bd_some hf
          refine g_callVri (As := [.int (x4 + 1), .int (x2 ||| (1 <<< (x5 &&& 31)))]) (rest := [.int 1]) h ceX13_mostOf mlX13_462 imX13_mostOf seX13_mostOf (by rfl) (kd_lt (by rw [(by decide : kd 103 = 11)]; decide)) (ent_11 (by decide : kd 103 = 11)) rfl rfl ⟨by decide, by decide⟩ ⟨by decide, by decide⟩ rfl dX13_assault_238 rfl (Nat.le_of_ble_eq_true rfl) (cmX13_mostOf hq) ?_
          refine g_iadd h dX13_assault_241 ?_
          refine g_aload_n h 0 rfl dX13_assault_242 ?_
          refine g_iload h 4 rfl dX13_assault_243 ?_
          refine g_iload_n h 2 rfl dX13_assault_245 ?_
          obtain ⟨v13, hq, hf⟩ := bd_some hf
          refine g_callVri (As := [.int x4, .int x2]) (rest := [.int (1 + v12)]) h ceX13_mostOf mlX13_462 imX13_mostOf seX13_mostOf (by rfl) (kd_lt (by rw [(by decide : kd 103 = 11)]; decide)) (ent_11 (by decide : kd 103 = 11)) rfl rfl ⟨by decide, by decide⟩ ⟨by decide, by decide⟩ rfl dX13_assault_246 rfl (Nat.le_of_ble_eq_true rfl) (cmX13_mostOf hq) ?_
          refine g_ic_ne h 255 (by decide) hf dX13_assault_249 (fun hf => ?_) (fun hf => ?_)
          · refine g_sub [0, 1, 2, 3, 4, 5] rfl ?_
            exact kX13_assault_b255 h ha185 ih hf
          · refine g_iload h 5 rfl dX13_assault_252 ?_
            refine g_istore_n h rfl [(3, .int x5), (0, rv G.1 103), (1, .int x1), (2, .int x2), (4, .int x4), (5, .int x5)] (by decide) rfl dX13_assault_254 ?_
            refine g_sub [1, 2, 3, 0, 4, 5] rfl ?_
            exact kX13_assault_b255 h ha185 ih hf

theorem kX13_assault_l185 {G : GX} (h : OKm G cX13_assault RX13 6 (some .int) { frames := 1, cells := 0, slots := 0, locals := 22 }) : ∀ (n : Nat) (M : Mem) (x1 : Int32) (x2 : Int32) (x3 : Int32) (x4 : Int32) (res : (Int32 × Mem)), fX13_assault_l185 n M x1 x2 x3 x4 = some res → GG G (Qm G (Pwi res) 0 0) 0 0 185 [(0, rv G.1 103), (1, .int x1), (2, .int x2), (3, .int x3), (4, .int x4)] [] M := by
  intro n
  induction n with
  | zero => intro M x1 x2 x3 x4 res hf; rw [fX13_assault_l185] at hf; cases hf
  | succ n ih =>
    intro M x1 x2 x3 x4 res hf
    rw [fX13_assault_l185] at hf
    refine g_iload h 4 rfl dX13_assault_185 ?_
    refine g_iload_n h 1 rfl dX13_assault_187 ?_
    refine g_ic_gt h 278 (by decide) hf dX13_assault_188 (fun hf => ?_) (fun hf => ?_)
    · refine g_iload_n h 3 rfl dX13_assault_278 ?_
      cases hf
      exact g_iret h rfl ⟨rfl, rfl⟩ (Nat.le_refl _) (Nat.le_refl _) dX13_assault_279
    · refine g_iconst h (-1) (v := (-1)) (by decide) dX13_assault_191 ?_
      refine g_istore_n h rfl [(3, .int (-1)), (0, rv G.1 103), (1, .int x1), (2, .int x2), (4, .int x4)] (by decide) rfl dX13_assault_192 ?_
      refine g_aload_n h 1 rfl dX13_assault_193 ?_
      refine gfX13_345 h (by decide : kd 103 = 11) dX13_assault_194 ?_
      refine g_nmI hf (fun v6 hf => ?_)
      refine g_iconst h 1 (v := 1) (by decide) dX13_assault_197 ?_
      refine g_isub h dX13_assault_198 ?_
      refine g_nmI hf (fun v7 hf => ?_)
      refine g_istore h [(5, .int v7), (3, .int (-1)), (0, rv G.1 103), (1, .int x1), (2, .int x2), (4, .int x4)] (by decide) rfl dX13_assault_199 ?_
      refine g_sub [2, 3, 4, 1, 5, 0] rfl ?_
      exact kX13_assault_l201 h ih _ _ _ _ _ _ _ _ hf

theorem kX13_assault_b134 {G : GX} (h : OKm G cX13_assault RX13 6 (some .int) { frames := 1, cells := 0, slots := 0, locals := 22 }) {a40 : Mem → Int32 → Int32 → Option (Int32 × Mem)} (ha40 : ∀ (M : Mem) (x1 : Int32) (x2 : Int32) (res : (Int32 × Mem)), a40 M x1 x2 = some res → GG G (Qm G (Pwi res) 0 0) 0 0 40 [(0, rv G.1 103), (1, .int x1), (2, .int x2)] [] M) {a46 : Mem → Int32 → Int32 → Int32 → Option (Int32 × Mem)} (ha46 : ∀ (M : Mem) (x1 : Int32) (x2 : Int32) (x3 : Int32) (res : (Int32 × Mem)), a46 M x1 x2 x3 = some res → GG G (Qm G (Pwi res) 0 0) 0 0 46 [(0, rv G.1 103), (1, .int x1), (2, .int x2), (3, .int x3)] [] M) {a69 : Mem → Int32 → Int32 → Int32 → Int32 → Int32 → Option (Int32 × Mem)} (ha69 : ∀ (M : Mem) (x1 : Int32) (x2 : Int32) (x3 : Int32) (x4 : Int32) (x5 : Int32) (res : (Int32 × Mem)), a69 M x1 x2 x3 x4 x5 = some res → GG G (Qm G (Pwi res) 0 0) 0 0 69 [(0, rv G.1 103), (1, .int x1), (2, .int x2), (3, .int x3), (4, .int x4), (5, .int x5)] [] M) {M : Mem} {x1 : Int32} {x2 : Int32} {x3 : Int32} {x4 : Int32} {x5 : Int32} {res : (Int32 × Mem)} (hf : fX13_assault_b134 a40 a46 a69 M x1 x2 x3 x4 x5 = some res) : GG G (Qm G (Pwi res) 0 0) 0 0 134 [(0, rv G.1 103), (1, .int x1), (2, .int x2), (3, .int x3), (4, .int x4), (5, .int x5)] [] M := by
  unfold fX13_assault_b134 at hf
  refine g_iinc h 5 5 rfl (v := x5 + 1) rfl [(5, .int (x5 + 1)), (0, rv G.1 103), (1, .int x1), (2, .int x2), (3, .int x3), (4, .int x4)] (by decide) rfl dX13_assault_134 ?_
  refine g_nmV hf (fun v21 hf => ?_)
  refine g_goto h 69 (by decide) dX13_assault_137 ?_
  refine g_sub [1, 2, 3, 4, 5, 0] rfl ?_
  exact ha69 _ _ _ _ _ _ _ hf

theorem kX13_assault_l69 {G : GX} (h : OKm G cX13_assault RX13 6 (some .int) { frames := 1, cells := 0, slots := 0, locals := 22 }) {a40 : Mem → Int32 → Int32 → Option (Int32 × Mem)} (ha40 : ∀ (M : Mem) (x1 : Int32) (x2 : Int32) (res : (Int32 × Mem)), a40 M x1 x2 = some res → GG G (Qm G (Pwi res) 0 0) 0 0 40 [(0, rv G.1 103), (1, .int x1), (2, .int x2)] [] M) {a46 : Mem → Int32 → Int32 → Int32 → Option (Int32 × Mem)} (ha46 : ∀ (M : Mem) (x1 : Int32) (x2 : Int32) (x3 : Int32) (res : (Int32 × Mem)), a46 M x1 x2 x3 = some res → GG G (Qm G (Pwi res) 0 0) 0 0 46 [(0, rv G.1 103), (1, .int x1), (2, .int x2), (3, .int x3)] [] M) : ∀ (n : Nat) (M : Mem) (x1 : Int32) (x2 : Int32) (x3 : Int32) (x4 : Int32) (x5 : Int32) (res : (Int32 × Mem)), fX13_assault_l69 a40 a46 n M x1 x2 x3 x4 x5 = some res → GG G (Qm G (Pwi res) 0 0) 0 0 69 [(0, rv G.1 103), (1, .int x1), (2, .int x2), (3, .int x3), (4, .int x4), (5, .int x5)] [] M := by
  intro n
  induction n with
  | zero => intro M x1 x2 x3 x4 x5 res hf; rw [fX13_assault_l69] at hf; cases hf
  | succ n ih =>
    intro M x1 x2 x3 x4 x5 res hf
    rw [fX13_assault_l69] at hf
    refine g_iload h 5 rfl dX13_assault_69 ?_
    refine g_aload_n h 0 rfl dX13_assault_71 ?_
    refine gfX13_345 h (by decide : kd 103 = 11) dX13_assault_72 ?_
    refine g_nmI hf (fun v18 hf => ?_)
    refine g_ic_ge h 140 (by decide) hf dX13_assault_75 (fun hf => ?_) (fun hf => ?_)
    · refine g_aload_n h 0 rfl dX13_assault_140 ?_
      refine gfX13_120 h (by decide : kd 103 = 11) dX13_assault_141 ?_
      refine g_sipush h 128 (v := 128) (by decide) dX13_assault_144 ?_
      refine g_iload_n h 2 rfl dX13_assault_147 ?_
      refine g_imul h dX13_assault_148 ?_
      refine g_iload_n h 3 rfl dX13_assault_149 ?_
      refine g_iadd h dX13_assault_150 ?_
      refine g_iload h 4 rfl dX13_assault_151 ?_
      refine g_iast h 1024 (by decide : kd 137 = 20) (by decide) hf dX13_assault_153 (fun M19 hf => ?_)
      refine g_iinc h 3 3 rfl (v := x3 + 1) rfl [(3, .int (x3 + 1)), (0, rv G.1 103), (1, .int x1), (2, .int x2), (4, .int x4), (5, .int x5)] (by decide) rfl dX13_assault_154 ?_
      refine g_nmV hf (fun v20 hf => ?_)
      refine g_goto h 46 (by decide) dX13_assault_157 ?_
      refine g_sub [1, 2, 3, 0] rfl ?_
      exact ha46 _ _ _ _ _ hf
    · refine g_iload_n h 3 rfl dX13_assault_78 ?_
      refine g_iload h 5 rfl dX13_assault_79 ?_
      refine g_ishr h dX13_assault_81 ?_
      refine g_iconst h 1 (v := 1) (by decide) dX13_assault_82 ?_
      refine g_iand h dX13_assault_83 ?_
      refine g_if_ne h 134 (by decide) hf dX13_assault_84 (fun hf => ?_) (fun hf => ?_)
      · refine g_sub [0, 1, 2, 3, 4, 5] rfl ?_
        exact kX13_assault_b134 h ha40 ha46 ih hf
      · refine g_aload_n h 0 rfl dX13_assault_87 ?_
        refine g_iload_n h 2 rfl dX13_assault_88 ?_
        refine g_iload h 5 rfl dX13_assault_89 ?_
        obtain ⟨v22, hq, hf⟩ := bd_some hf
        refine g_callVri (As := [.int x2, .int x5]) (rest := []) h ceX13_isWin mlX13_459 imX13_isWin seX13_isWin (by rfl) (kd_lt (by rw [(by decide : kd 103 = 11)]; decide)) (ent_11 (by decide : kd 103 = 11)) rfl rfl ⟨by decide, by decide⟩ ⟨by decide, by decide⟩ rfl dX13_assault_91 rfl (Nat.le_of_ble_eq_true rfl) (cmX13_isWin hq) ?_
        refine g_if_eq h 134 (by decide) hf dX13_assault_94 (fun hf => ?_) (fun hf => ?_)
        · refine g_sub [0, 1, 2, 3, 4, 5] rfl ?_
          exact kX13_assault_b134 h ha40 ha46 ih hf
        · refine g_iconst h 1 (v := 1) (by decide) dX13_assault_97 ?_
          refine g_aload_n h 0 rfl dX13_assault_98 ?_
          refine g_iload_n h 2 rfl dX13_assault_99 ?_
          refine g_iconst h 1 (v := 1) (by decide) dX13_assault_100 ?_
          refine g_iadd h dX13_assault_101 ?_
          refine g_iload_n h 3 rfl dX13_assault_102 ?_
          refine g_iconst h 1 (v := 1) (by decide) dX13_assault_103 ?_
          refine g_iload h 5 rfl dX13_assault_104 ?_
          refine g_ishl h dX13_assault_106 ?_
          refine g_ior h dX13_assault_107 ?_
          obtain ⟨v23, hq, hf⟩ := bd_some hf
          refine g_callVri (As := [.int (x2 + 1), .int (x3 ||| (1 <<< (x5 &&& 31)))]) (rest := [.int 1]) h ceX13_mostOf mlX13_462 imX13_mostOf seX13_mostOf (by rfl) (kd_lt (by rw [(by decide : kd 103 = 11)]; decide)) (ent_11 (by decide : kd 103 = 11)) rfl rfl ⟨by decide, by decide⟩ ⟨by decide, by decide⟩ rfl dX13_assault_108 rfl (Nat.le_of_ble_eq_true rfl) (cmX13_mostOf hq) ?_
          refine g_iadd h dX13_assault_111 ?_
          refine g_iload h 4 rfl dX13_assault_112 ?_
          refine g_ic_le h 134 (by decide) hf dX13_assault_114 (fun hf => ?_) (fun hf => ?_)
          · refine g_sub [0, 1, 2, 3, 4, 5] rfl ?_
            exact kX13_assault_b134 h ha40 ha46 ih hf
          · refine g_iconst h 1 (v := 1) (by decide) dX13_assault_117 ?_
            refine g_aload_n h 0 rfl dX13_assault_118 ?_
            refine g_iload_n h 2 rfl dX13_assault_119 ?_
            refine g_iconst h 1 (v := 1) (by decide) dX13_assault_120 ?_
            refine g_iadd h dX13_assault_121 ?_
            refine g_iload_n h 3 rfl dX13_assault_122 ?_
            refine g_iconst h 1 (v := 1) (by decide) dX13_assault_123 ?_
            refine g_iload h 5 rfl dX13_assault_124 ?_
            refine g_ishl h dX13_assault_126 ?_
            refine g_ior h dX13_assault_127 ?_
            obtain ⟨v24, hq, hf⟩ := bd_some hf
            refine g_callVri (As := [.int (x2 + 1), .int (x3 ||| (1 <<< (x5 &&& 31)))]) (rest := [.int 1]) h ceX13_mostOf mlX13_462 imX13_mostOf seX13_mostOf (by rfl) (kd_lt (by rw [(by decide : kd 103 = 11)]; decide)) (ent_11 (by decide : kd 103 = 11)) rfl rfl ⟨by decide, by decide⟩ ⟨by decide, by decide⟩ rfl dX13_assault_128 rfl (Nat.le_of_ble_eq_true rfl) (cmX13_mostOf hq) ?_
            refine g_iadd h dX13_assault_131 ?_
            refine g_nmI hf (fun v25 hf => ?_)
            refine g_istore h [(4, .int v25), (0, rv G.1 103), (1, .int x1), (2, .int x2), (3, .int x3), (5, .int x5)] (by decide) rfl dX13_assault_132 ?_
            refine g_sub [1, 2, 3, 4, 0, 5] rfl ?_
            exact kX13_assault_b134 h ha40 ha46 ih hf

theorem kX13_assault_l46 {G : GX} (h : OKm G cX13_assault RX13 6 (some .int) { frames := 1, cells := 0, slots := 0, locals := 22 }) {a40 : Mem → Int32 → Int32 → Option (Int32 × Mem)} (ha40 : ∀ (M : Mem) (x1 : Int32) (x2 : Int32) (res : (Int32 × Mem)), a40 M x1 x2 = some res → GG G (Qm G (Pwi res) 0 0) 0 0 40 [(0, rv G.1 103), (1, .int x1), (2, .int x2)] [] M) : ∀ (n : Nat) (M : Mem) (x1 : Int32) (x2 : Int32) (x3 : Int32) (res : (Int32 × Mem)), fX13_assault_l46 a40 n M x1 x2 x3 = some res → GG G (Qm G (Pwi res) 0 0) 0 0 46 [(0, rv G.1 103), (1, .int x1), (2, .int x2), (3, .int x3)] [] M := by
  intro n
  induction n with
  | zero => intro M x1 x2 x3 res hf; rw [fX13_assault_l46] at hf; cases hf
  | succ n ih =>
    intro M x1 x2 x3 res hf
    rw [fX13_assault_l46] at hf
    refine g_iload_n h 3 rfl dX13_assault_46 ?_
    refine g_iconst h 1 (v := 1) (by decide) dX13_assault_47 ?_
    refine g_aload_n h 0 rfl dX13_assault_48 ?_
    refine gfX13_345 h (by decide : kd 103 = 11) dX13_assault_49 ?_
    refine g_nmI hf (fun v15 hf => ?_)
    refine g_ishl h dX13_assault_52 ?_
    refine g_ic_ge h 160 (by decide) hf dX13_assault_53 (fun hf => ?_) (fun hf => ?_)
    · refine g_iinc h 2 2 rfl (v := x2 + (-1)) rfl [(2, .int (x2 + (-1))), (0, rv G.1 103), (1, .int x1), (3, .int x3)] (by decide) rfl dX13_assault_160 ?_
      refine g_nmV hf (fun v16 hf => ?_)
      refine g_goto h 40 (by decide) dX13_assault_163 ?_
      refine g_sub [1, 2, 0] rfl ?_
      exact ha40 _ _ _ _ hf
    · refine g_aload_n h 0 rfl dX13_assault_56 ?_
      refine g_iload_n h 2 rfl dX13_assault_57 ?_
      refine g_iconst h 1 (v := 1) (by decide) dX13_assault_58 ?_
      refine g_iadd h dX13_assault_59 ?_
      refine g_iload_n h 3 rfl dX13_assault_60 ?_
      obtain ⟨v17, hq, hf⟩ := bd_some hf
      refine g_callVri (As := [.int (x2 + 1), .int x3]) (rest := []) h ceX13_mostOf mlX13_462 imX13_mostOf seX13_mostOf (by rfl) (kd_lt (by rw [(by decide : kd 103 = 11)]; decide)) (ent_11 (by decide : kd 103 = 11)) rfl rfl ⟨by decide, by decide⟩ ⟨by decide, by decide⟩ rfl dX13_assault_61 rfl (Nat.le_of_ble_eq_true rfl) (cmX13_mostOf hq) ?_
      refine g_istore h [(4, .int v17), (0, rv G.1 103), (1, .int x1), (2, .int x2), (3, .int x3)] (by decide) rfl dX13_assault_64 ?_
      refine g_iconst h 0 (v := 0) (by decide) dX13_assault_66 ?_
      refine g_istore h [(5, .int 0), (4, .int v17), (0, rv G.1 103), (1, .int x1), (2, .int x2), (3, .int x3)] (by decide) rfl dX13_assault_67 ?_
      refine g_sub [2, 3, 4, 5, 1, 0] rfl ?_
      exact kX13_assault_l69 h ha40 ih _ _ _ _ _ _ _ _ hf

theorem kX13_assault_l40 {G : GX} (h : OKm G cX13_assault RX13 6 (some .int) { frames := 1, cells := 0, slots := 0, locals := 22 }) : ∀ (n : Nat) (M : Mem) (x1 : Int32) (x2 : Int32) (res : (Int32 × Mem)), fX13_assault_l40 n M x1 x2 = some res → GG G (Qm G (Pwi res) 0 0) 0 0 40 [(0, rv G.1 103), (1, .int x1), (2, .int x2)] [] M := by
  intro n
  induction n with
  | zero => intro M x1 x2 res hf; rw [fX13_assault_l40] at hf; cases hf
  | succ n ih =>
    intro M x1 x2 res hf
    rw [fX13_assault_l40] at hf
    refine g_iload_n h 2 rfl dX13_assault_40 ?_
    refine g_if_lt h 166 (by decide) hf dX13_assault_41 (fun hf => ?_) (fun hf => ?_)
    · refine g_iload_n h 1 rfl dX13_assault_166 ?_
      refine g_iconst h (-1) (v := (-1)) (by decide) dX13_assault_167 ?_
      refine g_ic_ne h 178 (by decide) hf dX13_assault_168 (fun hf => ?_) (fun hf => ?_)
      · refine g_iconst h 0 (v := 0) (by decide) dX13_assault_178 ?_
        refine g_istore_n h rfl [(2, .int 0), (0, rv G.1 103), (1, .int x1)] (by decide) rfl dX13_assault_179 ?_
        refine g_iconst h (-1) (v := (-1)) (by decide) dX13_assault_180 ?_
        refine g_istore_n h rfl [(3, .int (-1)), (2, .int 0), (0, rv G.1 103), (1, .int x1)] (by decide) rfl dX13_assault_181 ?_
        refine g_iconst h 0 (v := 0) (by decide) dX13_assault_182 ?_
        refine g_istore h [(4, .int 0), (3, .int (-1)), (2, .int 0), (0, rv G.1 103), (1, .int x1)] (by decide) rfl dX13_assault_183 ?_
        refine g_sub [3, 4, 2, 1, 0] rfl ?_
        exact kX13_assault_l185 h _ _ _ _ _ _ _ hf
      · refine g_aload_n h 0 rfl dX13_assault_171 ?_
        refine g_iconst h 0 (v := 0) (by decide) dX13_assault_172 ?_
        refine g_iconst h 0 (v := 0) (by decide) dX13_assault_173 ?_
        obtain ⟨v14, hq, hf⟩ := bd_some hf
        refine g_callVri (As := [.int 0, .int 0]) (rest := []) h ceX13_mostOf mlX13_462 imX13_mostOf seX13_mostOf (by rfl) (kd_lt (by rw [(by decide : kd 103 = 11)]; decide)) (ent_11 (by decide : kd 103 = 11)) rfl rfl ⟨by decide, by decide⟩ ⟨by decide, by decide⟩ rfl dX13_assault_174 rfl (Nat.le_of_ble_eq_true rfl) (cmX13_mostOf hq) ?_
        cases hf
        exact g_iret h rfl ⟨rfl, rfl⟩ (Nat.le_refl _) (Nat.le_refl _) dX13_assault_177
    · refine g_iconst h 0 (v := 0) (by decide) dX13_assault_44 ?_
      refine g_istore_n h rfl [(3, .int 0), (0, rv G.1 103), (1, .int x1), (2, .int x2)] (by decide) rfl dX13_assault_45 ?_
      refine g_sub [1, 2, 3, 0] rfl ?_
      exact kX13_assault_l46 h ih _ _ _ _ _ _ hf

theorem kX13_assault_b24 {G : GX} (h : OKm G cX13_assault RX13 6 (some .int) { frames := 1, cells := 0, slots := 0, locals := 22 }) {M : Mem} {x1 : Int32} {s0 : Int32} {res : (Int32 × Mem)} (hf : fX13_assault_b24 M x1 s0 = some res) : GG G (Qm G (Pwi res) 0 0) 0 0 24 [(0, rv G.1 103), (1, .int x1)] [.int s0, rv G.1 103] M := by
  unfold fX13_assault_b24 at hf
  refine g_iconst h 1 (v := 1) (by decide) dX13_assault_24 ?_
  obtain ⟨v2, M3, hq, hf⟩ := b2_some hf
  refine g_callVwi (As := [.int s0, .int 1]) (rest := []) h ceX13_right mlX13_326 imX13_right seX13_right (by rfl) (kd_lt (by rw [(by decide : kd 103 = 11)]; decide)) (ent_11 (by decide : kd 103 = 11)) rfl rfl ⟨by decide, by decide⟩ ⟨by decide, by decide⟩ rfl dX13_assault_25 rfl (Nat.le_of_ble_eq_true rfl) (cmX13_right hq) ?_
  refine g_if_ne h 33 (by decide) hf dX13_assault_28 (fun hf => ?_) (fun hf => ?_)
  · refine g_aload_n h 0 rfl dX13_assault_33 ?_
    refine gfX13_342 h (by decide : kd 103 = 11) dX13_assault_34 ?_
    refine g_nmI hf (fun v4 hf => ?_)
    refine g_iconst h 1 (v := 1) (by decide) dX13_assault_37 ?_
    refine g_isub h dX13_assault_38 ?_
    refine g_nmI hf (fun v5 hf => ?_)
    refine g_istore_n h rfl [(2, .int v5), (0, rv G.1 103), (1, .int x1)] (by decide) rfl dX13_assault_39 ?_
    refine g_sub [1, 2, 0] rfl ?_
    exact kX13_assault_l40 h _ _ _ _ _ hf
  · refine g_iconst h 0 (v := 0) (by decide) dX13_assault_31 ?_
    cases hf
    exact g_iret h rfl ⟨rfl, rfl⟩ (Nat.le_refl _) (Nat.le_refl _) dX13_assault_32

theorem kX13_assault_b23 {G : GX} (h : OKm G cX13_assault RX13 6 (some .int) { frames := 1, cells := 0, slots := 0, locals := 22 }) {M : Mem} {x1 : Int32} {res : (Int32 × Mem)} (hf : fX13_assault_b23 M x1 = some res) : GG G (Qm G (Pwi res) 0 0) 0 0 23 [(0, rv G.1 103), (1, .int x1)] [rv G.1 103] M := by
  unfold fX13_assault_b23 at hf
  refine g_iconst h 0 (v := 0) (by decide) dX13_assault_23 ?_
  refine g_sub [0, 1] rfl ?_
  exact kX13_assault_b24 h hf

theorem kX13_assault_e0 {G : GX} (h : OKm G cX13_assault RX13 6 (some .int) { frames := 1, cells := 0, slots := 0, locals := 22 }) {M : Mem} {x1 : Int32} {res : (Int32 × Mem)} (hf : fX13_assault M x1 = some res) : GG G (Qm G (Pwi res) 0 0) 0 0 0 [(0, rv G.1 103), (1, .int x1)] [] M := by
  unfold fX13_assault at hf
  refine g_aload_n h 0 rfl dX13_assault_0 ?_
  refine g_iconst h 0 (v := 0) (by decide) dX13_assault_1 ?_
  refine pfX13_141 h (by decide : kd 103 = 11) dX13_assault_2 ?_
  refine g_nmM hf (fun M1 hf => ?_)
  refine g_aload_n h 0 rfl dX13_assault_5 ?_
  refine g_iload_n h 1 rfl dX13_assault_6 ?_
  refine g_iconst h (-1) (v := (-1)) (by decide) dX13_assault_7 ?_
  refine g_ic_lt h 23 (by decide) hf dX13_assault_8 (fun hf => ?_) (fun hf => ?_)
  · refine g_sub [0, 1] rfl ?_
    exact kX13_assault_b23 h hf
  · refine g_iload_n h 1 rfl dX13_assault_11 ?_
    refine g_aload_n h 0 rfl dX13_assault_12 ?_
    refine gfX13_342 h (by decide : kd 103 = 11) dX13_assault_13 ?_
    refine g_nmI hf (fun v26 hf => ?_)
    refine g_ic_ge h 23 (by decide) hf dX13_assault_16 (fun hf => ?_) (fun hf => ?_)
    · refine g_sub [0, 1] rfl ?_
      exact kX13_assault_b23 h hf
    · refine g_iconst h 1 (v := 1) (by decide) dX13_assault_19 ?_
      refine g_goto h 24 (by decide) dX13_assault_20 ?_
      refine g_sub [0, 1] rfl ?_
      exact kX13_assault_b24 h hf

theorem cmX13_assault {l : Launch} {w : WX} {M : Mem} {x1 : Int32} {res : (Int32 × Mem)} (hf : fX13_assault M x1 = some res) : CM l w yX13_assault cX13_assault 6 (some .int) { frames := 1, cells := 0, slots := 0, locals := 22 } 0 0 [rv w 103, .int x1] M (Pwi res) := by
  refine CM_of (by decide) (by decide) (fun G hw hl h => ?_)
  subst hw
  exact kX13_assault_e0 h hf

-- X13_better
theorem kX13_better_b103 {G : GX} (h : OKm G cX13_better RX13 7 (some .int) { frames := 8, cells := 0, slots := 0, locals := 188 }) {a27 : Mem → Int32 → Int32 → Int32 → Option (Int32 × Mem)} (ha27 : ∀ (M : Mem) (x1 : Int32) (x2 : Int32) (x3 : Int32) (res : (Int32 × Mem)), a27 M x1 x2 x3 = some res → GG G (Qm G (Pwi res) 0 0) 0 0 27 [(0, rv G.1 103), (1, .int x1), (2, .int x2), (3, .int x3)] [] M) {M : Mem} {x1 : Int32} {x3 : Int32} {s0 : Int32} {s1 : Int32} {res : (Int32 × Mem)} (hf : fX13_better_b103 a27 M x1 x3 s0 s1 = some res) : GG G (Qm G (Pwi res) 0 0) 0 0 103 [(0, rv G.1 103), (1, .int x1), (3, .int x3)] [.int s0, .int s1] M := by
  unfold fX13_better_b103 at hf
  refine g_iadd h dX13_better_103 ?_
  refine g_nmI hf (fun v13 hf => ?_)
  refine g_istore_n h rfl [(2, .int v13), (0, rv G.1 103), (1, .int x1), (3, .int x3)] (by decide) rfl dX13_better_104 ?_
  refine g_iinc h 3 3 rfl (v := x3 + 1) rfl [(3, .int (x3 + 1)), (2, .int v13), (0, rv G.1 103), (1, .int x1)] (by decide) rfl dX13_better_105 ?_
  refine g_nmV hf (fun v14 hf => ?_)
  refine g_goto h 27 (by decide) dX13_better_108 ?_
  refine g_sub [2, 3, 1, 0] rfl ?_
  exact ha27 _ _ _ _ _ hf

theorem kX13_better_l27 {G : GX} (h : OKm G cX13_better RX13 7 (some .int) { frames := 8, cells := 0, slots := 0, locals := 188 }) : ∀ (n : Nat) (M : Mem) (x1 : Int32) (x2 : Int32) (x3 : Int32) (res : (Int32 × Mem)), fX13_better_l27 n M x1 x2 x3 = some res → GG G (Qm G (Pwi res) 0 0) 0 0 27 [(0, rv G.1 103), (1, .int x1), (2, .int x2), (3, .int x3)] [] M := by
  intro n
  induction n with
  | zero => intro M x1 x2 x3 res hf; rw [fX13_better_l27] at hf; cases hf
  | succ n ih =>
    intro M x1 x2 x3 res hf
    rw [fX13_better_l27] at hf
    refine g_iload_n h 3 rfl dX13_better_27 ?_
    refine g_bipush h 60 (v := 60) (by decide) dX13_better_28 ?_
    refine g_ic_ge h 111 (by decide) hf dX13_better_30 (fun hf => ?_) (fun hf => ?_)
    · refine g_iload_n h 1 rfl dX13_better_111 ?_
      refine g_if_ne h 127 (by decide) hf dX13_better_112 (fun hf => ?_) (fun hf => ?_)
      · refine g_iload_n h 2 rfl dX13_better_127 ?_
        refine g_if_le h 135 (by decide) hf dX13_better_128 (fun hf => ?_) (fun hf => ?_)
        · refine g_iconst h 0 (v := 0) (by decide) dX13_better_135 ?_
          refine g_iload_n h 2 rfl dX13_better_136 ?_
          refine g_isub h dX13_better_137 ?_
          cases hf
          exact g_iret h rfl ⟨rfl, rfl⟩ (Nat.le_refl _) (Nat.le_refl _) dX13_better_138
        · refine g_iload_n h 2 rfl dX13_better_131 ?_
          refine g_goto h 138 (by decide) dX13_better_132 ?_
          cases hf
          exact g_iret h rfl ⟨rfl, rfl⟩ (Nat.le_refl _) (Nat.le_refl _) dX13_better_138
      · refine g_iload_n h 2 rfl dX13_better_115 ?_
        refine g_if_le h 123 (by decide) hf dX13_better_116 (fun hf => ?_) (fun hf => ?_)
        · refine g_iconst h 0 (v := 0) (by decide) dX13_better_123 ?_
          refine g_goto h 138 (by decide) dX13_better_124 ?_
          cases hf
          exact g_iret h rfl ⟨rfl, rfl⟩ (Nat.le_refl _) (Nat.le_refl _) dX13_better_138
        · refine g_iconst h 1 (v := 1) (by decide) dX13_better_119 ?_
          refine g_goto h 138 (by decide) dX13_better_120 ?_
          cases hf
          exact g_iret h rfl ⟨rfl, rfl⟩ (Nat.le_refl _) (Nat.le_refl _) dX13_better_138
    · refine g_aload_n h 0 rfl dX13_better_33 ?_
      refine gfX13_108 h (by decide : kd 103 = 11) dX13_better_34 ?_
      refine g_bipush h 35 (v := 35) (by decide) dX13_better_37 ?_
      refine g_iald h 186 (by decide : kd 133 = 20) (by decide) hf dX13_better_39 (fun v5 hf => ?_)
      refine g_istore h [(4, .int v5), (0, rv G.1 103), (1, .int x1), (2, .int x2), (3, .int x3)] (by decide) rfl dX13_better_40 ?_
      refine g_aload_n h 1 rfl dX13_better_42 ?_
      refine gfX13_108 h (by decide : kd 103 = 11) dX13_better_43 ?_
      refine g_bipush h 31 (v := 31) (by decide) dX13_better_46 ?_
      refine g_iald h 186 (by decide : kd 133 = 20) (by decide) hf dX13_better_48 (fun v6 hf => ?_)
      refine g_aload_n h 1 rfl dX13_better_49 ?_
      refine gfX13_108 h (by decide : kd 103 = 11) dX13_better_50 ?_
      refine g_bipush h 33 (v := 33) (by decide) dX13_better_53 ?_
      refine g_iald h 186 (by decide : kd 133 = 20) (by decide) hf dX13_better_55 (fun v7 hf => ?_)
      refine g_isub h dX13_better_56 ?_
      refine g_nmI hf (fun v8 hf => ?_)
      refine g_istore h [(5, .int v8), (4, .int v5), (0, rv G.1 103), (1, .int x1), (2, .int x2), (3, .int x3)] (by decide) rfl dX13_better_57 ?_
      refine g_aload_n h 2 rfl dX13_better_59 ?_
      refine g_bipush h 31 (v := 31) (by decide) dX13_better_60 ?_
      refine g_bipush h (-2) (v := (-2)) (by decide) dX13_better_62 ?_
      obtain ⟨M9, hq, hf⟩ := bd_some hf
      refine g_callVwv (As := [.int 31, .int (-2)]) (rest := []) h ceX13_goesBy mlX13_404 imX13_goesBy seX13_goesBy (by rfl) (kd_lt (by rw [(by decide : kd 103 = 11)]; decide)) (ent_11 (by decide : kd 103 = 11)) rfl rfl ⟨by decide, by decide⟩ ⟨by decide, by decide⟩ rfl dX13_better_64 rfl (Nat.le_of_ble_eq_true rfl) (cmX13_goesBy hq) ?_
      refine g_aload_n h 2 rfl dX13_better_67 ?_
      refine gfX13_108 h (by decide : kd 103 = 11) dX13_better_68 ?_
      refine g_bipush h 31 (v := 31) (by decide) dX13_better_71 ?_
      refine g_iald h 186 (by decide : kd 133 = 20) (by decide) hf dX13_better_73 (fun v10 hf => ?_)
      refine g_aload_n h 2 rfl dX13_better_74 ?_
      refine gfX13_108 h (by decide : kd 103 = 11) dX13_better_75 ?_
      refine g_bipush h 33 (v := 33) (by decide) dX13_better_78 ?_
      refine g_iald h 186 (by decide : kd 133 = 20) (by decide) hf dX13_better_80 (fun v11 hf => ?_)
      refine g_isub h dX13_better_81 ?_
      refine g_iload h 0 rfl dX13_better_82 ?_
      refine g_isub h dX13_better_84 ?_
      refine g_nmI hf (fun v12 hf => ?_)
      refine g_istore h [(6, .int v12), (5, .int v8), (4, .int v5), (0, rv G.1 103), (1, .int x1), (2, .int x2), (3, .int x3)] (by decide) rfl dX13_better_85 ?_
      refine g_iload_n h 5 rfl dX13_better_87 ?_
      refine g_iload h 2 rfl dX13_better_88 ?_
      refine g_iconst h 1 (v := 1) (by decide) dX13_better_90 ?_
      refine g_ic_ne h 99 (by decide) hf dX13_better_91 (fun hf => ?_) (fun hf => ?_)
      · refine g_iconst h 0 (v := 0) (by decide) dX13_better_99 ?_
        refine g_iload h 0 rfl dX13_better_100 ?_
        refine g_isub h dX13_better_102 ?_
        refine g_sub [3, 4, 6] rfl ?_
        exact kX13_better_b103 h ih hf
      · refine g_iload h 0 rfl dX13_better_94 ?_
        refine g_goto h 103 (by decide) dX13_better_96 ?_
        refine g_sub [3, 4, 6] rfl ?_
        exact kX13_better_b103 h ih hf

theorem kX13_better_e0 {G : GX} (h : OKm G cX13_better RX13 7 (some .int) { frames := 8, cells := 0, slots := 0, locals := 188 }) {M : Mem} {x1 : Int32} {res : (Int32 × Mem)} (hf : fX13_better M x1 = some res) : GG G (Qm G (Pwi res) 0 0) 0 0 0 [(0, rv G.1 103), (1, .int x1)] [] M := by
  unfold fX13_better at hf
  refine g_aload_n h 0 rfl dX13_better_0 ?_
  refine g_iconst h 0 (v := 0) (by decide) dX13_better_1 ?_
  refine pfX13_141 h (by decide : kd 103 = 11) dX13_better_2 ?_
  refine g_nmM hf (fun M1 hf => ?_)
  refine g_aload_n h 0 rfl dX13_better_5 ?_
  refine g_iload_n h 1 rfl dX13_better_6 ?_
  refine g_iconst h 1 (v := 1) (by decide) dX13_better_7 ?_
  obtain ⟨v2, M3, hq, hf⟩ := b2_some hf
  refine g_callVwi (As := [.int x1, .int 1]) (rest := []) h ceX13_isWhat mlX13_414 imX13_isWhat seX13_isWhat (by rfl) (kd_lt (by rw [(by decide : kd 103 = 11)]; decide)) (ent_11 (by decide : kd 103 = 11)) rfl rfl ⟨by decide, by decide⟩ ⟨by decide, by decide⟩ rfl dX13_better_8 rfl (Nat.le_of_ble_eq_true rfl) (cmX13_isWhat hq) ?_
  refine g_if_ne h 16 (by decide) hf dX13_better_11 (fun hf => ?_) (fun hf => ?_)
  · refine g_aload_n h 0 rfl dX13_better_16 ?_
    refine g_iconst h 0 (v := 0) (by decide) dX13_better_17 ?_
    refine g_bipush h 31 (v := 31) (by decide) dX13_better_18 ?_
    obtain ⟨M4, hq, hf⟩ := bd_some hf
    refine g_callVwv (As := [.int 0, .int 31]) (rest := []) h ceX13_lays0 mlX13_432 imX13_lays0 seX13_lays0 (by rfl) (kd_lt (by rw [(by decide : kd 103 = 11)]; decide)) (ent_11 (by decide : kd 103 = 11)) rfl rfl ⟨by decide, by decide⟩ ⟨by decide, by decide⟩ rfl dX13_better_20 rfl (Nat.le_of_ble_eq_true rfl) (cmX13_lays0 hq) ?_
    refine g_iconst h 0 (v := 0) (by decide) dX13_better_23 ?_
    refine g_istore_n h rfl [(2, .int 0), (0, rv G.1 103), (1, .int x1)] (by decide) rfl dX13_better_24 ?_
    refine g_iconst h 0 (v := 0) (by decide) dX13_better_25 ?_
    refine g_istore_n h rfl [(3, .int 0), (2, .int 0), (0, rv G.1 103), (1, .int x1)] (by decide) rfl dX13_better_26 ?_
    refine g_sub [2, 3, 1, 0] rfl ?_
    exact kX13_better_l27 h _ _ _ _ _ _ hf
  · refine g_iconst h 0 (v := 0) (by decide) dX13_better_14 ?_
    cases hf
    exact g_iret h rfl ⟨rfl, rfl⟩ (Nat.le_refl _) (Nat.le_refl _) dX13_better_15

theorem cmX13_better {l : Launch} {w : WX} {M : Mem} {x1 : Int32} {res : (Int32 × Mem)} (hf : fX13_better M x1 = some res) : CM l w yX13_better cX13_better 7 (some .int) { frames := 8, cells := 0, slots := 0, locals := 188 } 0 0 [rv w 103, .int x1] M (Pwi res) := by
  refine CM_of (by decide) (by decide) (fun G hw hl h => ?_)
  subst hw
  exact kX13_better_e0 h hf

-- X13_bits
theorem kX13_bits_l4 {G : GX} {M : Mem} (h : OKm G cX13_bits RX13 3 (some .int) { frames := 0, cells := 0, slots := 0, locals := 0 }) : ∀ (n : Nat) (x0 : Int32) (x1 : Int32) (x2 : Int32) (res : Int32), fX13_bits_l4 n x0 x1 x2 = some res → GG G (Qm G (Pri res M) 0 0) 0 0 4 [(0, .int x0), (1, .int x1), (2, .int x2)] [] M := by
  intro n
  induction n with
  | zero => intro x0 x1 x2 res hf; rw [fX13_bits_l4] at hf; cases hf
  | succ n ih =>
    intro x0 x1 x2 res hf
    rw [fX13_bits_l4] at hf
    refine g_iload_n h 2 rfl dX13_bits_4 ?_
    refine g_bipush h 14 (v := 14) (by decide) dX13_bits_5 ?_
    refine g_ic_ge h 24 (by decide) hf dX13_bits_7 (fun hf => ?_) (fun hf => ?_)
    · refine g_iload_n h 1 rfl dX13_bits_24 ?_
      cases hf
      exact g_iret h rfl ⟨rfl, rfl⟩ (Nat.le_refl _) (Nat.le_refl _) dX13_bits_25
    · refine g_iload_n h 1 rfl dX13_bits_10 ?_
      refine g_iload_n h 0 rfl dX13_bits_11 ?_
      refine g_iload_n h 2 rfl dX13_bits_12 ?_
      refine g_ishr h dX13_bits_13 ?_
      refine g_iconst h 1 (v := 1) (by decide) dX13_bits_14 ?_
      refine g_iand h dX13_bits_15 ?_
      refine g_iadd h dX13_bits_16 ?_
      refine g_nmI hf (fun v1 hf => ?_)
      refine g_istore_n h rfl [(1, .int v1), (0, .int x0), (2, .int x2)] (by decide) rfl dX13_bits_17 ?_
      refine g_iinc h 2 2 rfl (v := x2 + 1) rfl [(2, .int (x2 + 1)), (1, .int v1), (0, .int x0)] (by decide) rfl dX13_bits_18 ?_
      refine g_nmV hf (fun v2 hf => ?_)
      refine g_goto h 4 (by decide) dX13_bits_21 ?_
      refine g_sub [2, 1, 0] rfl ?_
      exact ih _ _ _ _ hf

theorem kX13_bits_e0 {G : GX} (h : OKm G cX13_bits RX13 3 (some .int) { frames := 0, cells := 0, slots := 0, locals := 0 }) {M : Mem} {x0 : Int32} {res : Int32} (hf : fX13_bits x0 = some res) : GG G (Qm G (Pri res M) 0 0) 0 0 0 [(0, .int x0)] [] M := by
  unfold fX13_bits at hf
  refine g_iconst h 0 (v := 0) (by decide) dX13_bits_0 ?_
  refine g_istore_n h rfl [(1, .int 0), (0, .int x0)] (by decide) rfl dX13_bits_1 ?_
  refine g_iconst h 0 (v := 0) (by decide) dX13_bits_2 ?_
  refine g_istore_n h rfl [(2, .int 0), (1, .int 0), (0, .int x0)] (by decide) rfl dX13_bits_3 ?_
  refine g_sub [2, 1, 0] rfl ?_
  exact kX13_bits_l4 h _ _ _ _ _ hf

theorem cmX13_bits {l : Launch} {w : WX} {M : Mem} {x0 : Int32} {res : Int32} (hf : fX13_bits x0 = some res) : CM l w yX13_bits cX13_bits 3 (some .int) { frames := 0, cells := 0, slots := 0, locals := 0 } 0 0 [.int x0] M (Pri res M) := by
  refine CM_of (by decide) (by decide) (fun G hw hl h => ?_)
  subst hw
  exact kX13_bits_e0 h hf

-- X13_isBought
theorem kX13_isBought_b50 {G : GX} (h : OKm G cX13_isBought RX13 4 (some .boolean) { frames := 1, cells := 0, slots := 0, locals := 22 }) {a2 : Mem → Int32 → Int32 → Option Int32} (ha2 : ∀ (M : Mem) (x1 : Int32) (x2 : Int32) (res : Int32), a2 M x1 x2 = some res → GG G (Qm G (Pri res M) 0 0) 0 0 2 [(0, rv G.1 103), (1, .int x1), (2, .int x2)] [] M) {a12 : Mem → Int32 → Int32 → Int32 → Option Int32} (ha12 : ∀ (M : Mem) (x1 : Int32) (x2 : Int32) (x3 : Int32) (res : Int32), a12 M x1 x2 x3 = some res → GG G (Qm G (Pri res M) 0 0) 0 0 12 [(0, rv G.1 103), (1, .int x1), (2, .int x2), (3, .int x3)] [] M) {M : Mem} {x1 : Int32} {x2 : Int32} {x3 : Int32} {res : Int32} (hf : fX13_isBought_b50 a2 a12 M x1 x2 x3 = some res) : GG G (Qm G (Pri res M) 0 0) 0 0 50 [(0, rv G.1 103), (1, .int x1), (2, .int x2), (3, .int x3)] [] M := by
  unfold fX13_isBought_b50 at hf
  refine g_iinc h 3 3 rfl (v := x3 + 1) rfl [(3, .int (x3 + 1)), (0, rv G.1 103), (1, .int x1), (2, .int x2)] (by decide) rfl dX13_isBought_50 ?_
  refine g_nmV hf (fun v4 hf => ?_)
  refine g_goto h 12 (by decide) dX13_isBought_53 ?_
  refine g_sub [1, 2, 3, 0] rfl ?_
  exact ha12 _ _ _ _ _ hf

theorem kX13_isBought_l12 {G : GX} (h : OKm G cX13_isBought RX13 4 (some .boolean) { frames := 1, cells := 0, slots := 0, locals := 22 }) {a2 : Mem → Int32 → Int32 → Option Int32} (ha2 : ∀ (M : Mem) (x1 : Int32) (x2 : Int32) (res : Int32), a2 M x1 x2 = some res → GG G (Qm G (Pri res M) 0 0) 0 0 2 [(0, rv G.1 103), (1, .int x1), (2, .int x2)] [] M) : ∀ (n : Nat) (M : Mem) (x1 : Int32) (x2 : Int32) (x3 : Int32) (res : Int32), fX13_isBought_l12 a2 n M x1 x2 x3 = some res → GG G (Qm G (Pri res M) 0 0) 0 0 12 [(0, rv G.1 103), (1, .int x1), (2, .int x2), (3, .int x3)] [] M := by
  intro n
  induction n with
  | zero => intro M x1 x2 x3 res hf; rw [fX13_isBought_l12] at hf; cases hf
  | succ n ih =>
    intro M x1 x2 x3 res hf
    rw [fX13_isBought_l12] at hf
    refine g_iload_n h 3 rfl dX13_isBought_12 ?_
    refine g_aload_n h 0 rfl dX13_isBought_13 ?_
    refine gfX13_345 h (by decide : kd 103 = 11) dX13_isBought_14 ?_
    refine g_nmI hf (fun v2 hf => ?_)
    refine g_ic_ge h 56 (by decide) hf dX13_isBought_17 (fun hf => ?_) (fun hf => ?_)
    · refine g_iinc h 2 2 rfl (v := x2 + 1) rfl [(2, .int (x2 + 1)), (0, rv G.1 103), (1, .int x1), (3, .int x3)] (by decide) rfl dX13_isBought_56 ?_
      refine g_nmV hf (fun v3 hf => ?_)
      refine g_goto h 2 (by decide) dX13_isBought_59 ?_
      refine g_sub [1, 2, 0] rfl ?_
      exact ha2 _ _ _ _ hf
    · refine g_iload_n h 1 rfl dX13_isBought_20 ?_
      refine g_iload_n h 2 rfl dX13_isBought_21 ?_
      refine g_ishr h dX13_isBought_22 ?_
      refine g_iconst h 1 (v := 1) (by decide) dX13_isBought_23 ?_
      refine g_iand h dX13_isBought_24 ?_
      refine g_if_ne h 50 (by decide) hf dX13_isBought_25 (fun hf => ?_) (fun hf => ?_)
      · refine g_sub [0, 1, 2, 3] rfl ?_
        exact kX13_isBought_b50 h ha2 ih hf
      · refine g_iload_n h 1 rfl dX13_isBought_28 ?_
        refine g_bipush h 7 (v := 7) (by decide) dX13_isBought_29 ?_
        refine g_iload_n h 3 rfl dX13_isBought_31 ?_
        refine g_iadd h dX13_isBought_32 ?_
        refine g_ishr h dX13_isBought_33 ?_
        refine g_iconst h 1 (v := 1) (by decide) dX13_isBought_34 ?_
        refine g_iand h dX13_isBought_35 ?_
        refine g_if_ne h 50 (by decide) hf dX13_isBought_36 (fun hf => ?_) (fun hf => ?_)
        · refine g_sub [0, 1, 2, 3] rfl ?_
          exact kX13_isBought_b50 h ha2 ih hf
        · refine g_aload_n h 0 rfl dX13_isBought_39 ?_
          refine g_iload_n h 2 rfl dX13_isBought_40 ?_
          refine g_iload_n h 3 rfl dX13_isBought_41 ?_
          obtain ⟨v5, hq, hf⟩ := bd_some hf
          refine g_callVri (As := [.int x2, .int x3]) (rest := []) h ceX13_isWin mlX13_459 imX13_isWin seX13_isWin (by rfl) (kd_lt (by rw [(by decide : kd 103 = 11)]; decide)) (ent_11 (by decide : kd 103 = 11)) rfl rfl ⟨by decide, by decide⟩ ⟨by decide, by decide⟩ rfl dX13_isBought_42 rfl (Nat.le_of_ble_eq_true rfl) (cmX13_isWin hq) ?_
          refine g_if_eq h 50 (by decide) hf dX13_isBought_45 (fun hf => ?_) (fun hf => ?_)
          · refine g_sub [0, 1, 2, 3] rfl ?_
            exact kX13_isBought_b50 h ha2 ih hf
          · refine g_iconst h 0 (v := 0) (by decide) dX13_isBought_48 ?_
            cases hf
            exact g_zret h (by decide) rfl ⟨rfl, rfl⟩ (Nat.le_refl _) (Nat.le_refl _) dX13_isBought_49

theorem kX13_isBought_l2 {G : GX} (h : OKm G cX13_isBought RX13 4 (some .boolean) { frames := 1, cells := 0, slots := 0, locals := 22 }) : ∀ (n : Nat) (M : Mem) (x1 : Int32) (x2 : Int32) (res : Int32), fX13_isBought_l2 n M x1 x2 = some res → GG G (Qm G (Pri res M) 0 0) 0 0 2 [(0, rv G.1 103), (1, .int x1), (2, .int x2)] [] M := by
  intro n
  induction n with
  | zero => intro M x1 x2 res hf; rw [fX13_isBought_l2] at hf; cases hf
  | succ n ih =>
    intro M x1 x2 res hf
    rw [fX13_isBought_l2] at hf
    refine g_iload_n h 2 rfl dX13_isBought_2 ?_
    refine g_aload_n h 0 rfl dX13_isBought_3 ?_
    refine gfX13_342 h (by decide : kd 103 = 11) dX13_isBought_4 ?_
    refine g_nmI hf (fun v1 hf => ?_)
    refine g_ic_ge h 62 (by decide) hf dX13_isBought_7 (fun hf => ?_) (fun hf => ?_)
    · refine g_iconst h 1 (v := 1) (by decide) dX13_isBought_62 ?_
      cases hf
      exact g_zret h (by decide) rfl ⟨rfl, rfl⟩ (Nat.le_refl _) (Nat.le_refl _) dX13_isBought_63
    · refine g_iconst h 0 (v := 0) (by decide) dX13_isBought_10 ?_
      refine g_istore_n h rfl [(3, .int 0), (0, rv G.1 103), (1, .int x1), (2, .int x2)] (by decide) rfl dX13_isBought_11 ?_
      refine g_sub [1, 2, 3, 0] rfl ?_
      exact kX13_isBought_l12 h ih _ _ _ _ _ _ hf

theorem kX13_isBought_e0 {G : GX} (h : OKm G cX13_isBought RX13 4 (some .boolean) { frames := 1, cells := 0, slots := 0, locals := 22 }) {M : Mem} {x1 : Int32} {res : Int32} (hf : fX13_isBought M x1 = some res) : GG G (Qm G (Pri res M) 0 0) 0 0 0 [(0, rv G.1 103), (1, .int x1)] [] M := by
  unfold fX13_isBought at hf
  refine g_iconst h 0 (v := 0) (by decide) dX13_isBought_0 ?_
  refine g_istore_n h rfl [(2, .int 0), (0, rv G.1 103), (1, .int x1)] (by decide) rfl dX13_isBought_1 ?_
  refine g_sub [1, 2, 0] rfl ?_
  exact kX13_isBought_l2 h _ _ _ _ _ hf

theorem cmX13_isBought {l : Launch} {w : WX} {M : Mem} {x1 : Int32} {res : Int32} (hf : fX13_isBought M x1 = some res) : CM l w yX13_isBought cX13_isBought 4 (some .boolean) { frames := 1, cells := 0, slots := 0, locals := 22 } 0 0 [rv w 103, .int x1] M (Pri res M) := by
  refine CM_of (by decide) (by decide) (fun G hw hl h => ?_)
  subst hw
  exact kX13_isBought_e0 h hf

-- X13_bought
theorem kX13_bought_b86 {G : GX} (h : OKm G cX13_bought RX13 5 (some .int) { frames := 2, cells := 0, slots := 0, locals := 45 }) {a42 : Mem → Int32 → Int32 → Int32 → Int32 → Option (Int32 × Mem)} (ha42 : ∀ (M : Mem) (x1 : Int32) (x2 : Int32) (x3 : Int32) (x4 : Int32) (res : (Int32 × Mem)), a42 M x1 x2 x3 x4 = some res → GG G (Qm G (Pwi res) 0 0) 0 0 42 [(0, rv G.1 103), (1, .int x1), (2, .int x2), (3, .int x3), (4, .int x4)] [] M) {M : Mem} {x1 : Int32} {x2 : Int32} {x3 : Int32} {x4 : Int32} {res : (Int32 × Mem)} (hf : fX13_bought_b86 a42 M x1 x2 x3 x4 = some res) : GG G (Qm G (Pwi res) 0 0) 0 0 86 [(0, rv G.1 103), (1, .int x1), (2, .int x2), (3, .int x3), (4, .int x4)] [] M := by
  unfold fX13_bought_b86 at hf
  refine g_iinc h 4 4 rfl (v := x4 + 1) rfl [(4, .int (x4 + 1)), (0, rv G.1 103), (1, .int x1), (2, .int x2), (3, .int x3)] (by decide) rfl dX13_bought_86 ?_
  refine g_nmV hf (fun v8 hf => ?_)
  refine g_goto h 42 (by decide) dX13_bought_89 ?_
  refine g_sub [1, 2, 3, 4, 0] rfl ?_
  exact ha42 _ _ _ _ _ _ hf

theorem kX13_bought_b74 {G : GX} (h : OKm G cX13_bought RX13 5 (some .int) { frames := 2, cells := 0, slots := 0, locals := 45 }) {a42 : Mem → Int32 → Int32 → Int32 → Int32 → Option (Int32 × Mem)} (ha42 : ∀ (M : Mem) (x1 : Int32) (x2 : Int32) (x3 : Int32) (x4 : Int32) (res : (Int32 × Mem)), a42 M x1 x2 x3 x4 = some res → GG G (Qm G (Pwi res) 0 0) 0 0 42 [(0, rv G.1 103), (1, .int x1), (2, .int x2), (3, .int x3), (4, .int x4)] [] M) {M : Mem} {x1 : Int32} {x2 : Int32} {x3 : Int32} {x4 : Int32} {res : (Int32 × Mem)} (hf : fX13_bought_b74 a42 M x1 x2 x3 x4 = some res) : GG G (Qm G (Pwi res) 0 0) 0 0 74 [(0, rv G.1 103), (1, .int x1), (2, .int x2), (3, .int x3), (4, .int x4)] [] M := by
  unfold fX13_bought_b74 at hf
  refine g_aload_n h 0 rfl dX13_bought_74 ?_
  refine g_iload h 4 rfl dX13_bought_75 ?_
  obtain ⟨v9, hq, hf⟩ := bd_some hf
  refine g_callVri (As := [.int x4]) (rest := []) h ceX13_isBought mlX13_468 imX13_isBought seX13_isBought (by rfl) (kd_lt (by rw [(by decide : kd 103 = 11)]; decide)) (ent_11 (by decide : kd 103 = 11)) rfl rfl ⟨by decide, by decide⟩ ⟨by decide, by decide⟩ rfl dX13_bought_77 rfl (Nat.le_of_ble_eq_true rfl) (cmX13_isBought hq) ?_
  refine g_if_eq h 86 (by decide) hf dX13_bought_80 (fun hf => ?_) (fun hf => ?_)
  · refine g_sub [0, 1, 2, 3, 4] rfl ?_
    exact kX13_bought_b86 h ha42 hf
  · refine g_iload h 4 rfl dX13_bought_83 ?_
    refine g_istore_n h rfl [(3, .int x4), (0, rv G.1 103), (1, .int x1), (2, .int x2), (4, .int x4)] (by decide) rfl dX13_bought_85 ?_
    refine g_sub [1, 2, 3, 0, 4] rfl ?_
    exact kX13_bought_b86 h ha42 hf

theorem kX13_bought_l42 {G : GX} (h : OKm G cX13_bought RX13 5 (some .int) { frames := 2, cells := 0, slots := 0, locals := 45 }) : ∀ (n : Nat) (M : Mem) (x1 : Int32) (x2 : Int32) (x3 : Int32) (x4 : Int32) (res : (Int32 × Mem)), fX13_bought_l42 n M x1 x2 x3 x4 = some res → GG G (Qm G (Pwi res) 0 0) 0 0 42 [(0, rv G.1 103), (1, .int x1), (2, .int x2), (3, .int x3), (4, .int x4)] [] M := by
  intro n
  induction n with
  | zero => intro M x1 x2 x3 x4 res hf; rw [fX13_bought_l42] at hf; cases hf
  | succ n ih =>
    intro M x1 x2 x3 x4 res hf
    rw [fX13_bought_l42] at hf
    refine g_iload h 4 rfl dX13_bought_42 ?_
    refine g_iload_n h 2 rfl dX13_bought_44 ?_
    refine g_ic_gt h 92 (by decide) hf dX13_bought_45 (fun hf => ?_) (fun hf => ?_)
    · refine g_iload_n h 1 rfl dX13_bought_92 ?_
      refine g_if_ne h 103 (by decide) hf dX13_bought_93 (fun hf => ?_) (fun hf => ?_)
      · refine g_iload_n h 3 rfl dX13_bought_103 ?_
        cases hf
        exact g_iret h rfl ⟨rfl, rfl⟩ (Nat.le_refl _) (Nat.le_refl _) dX13_bought_104
      · refine g_iload_n h 3 rfl dX13_bought_96 ?_
        obtain ⟨v7, hq, hf⟩ := bd_some hf
        refine g_callSri (As := [.int x3]) (rest := []) h ceX13_bits mlX13_465 smX13_bits rfl rfl ⟨by decide, by decide⟩ ⟨by decide, by decide⟩ rfl dX13_bought_97 rfl (Nat.le_of_ble_eq_true rfl) (cmX13_bits hq) ?_
        refine g_goto h 104 (by decide) dX13_bought_100 ?_
        cases hf
        exact g_iret h rfl ⟨rfl, rfl⟩ (Nat.le_refl _) (Nat.le_refl _) dX13_bought_104
    · refine g_iload h 4 rfl dX13_bought_48 ?_
      refine g_iload_n h 2 rfl dX13_bought_50 ?_
      refine g_iconst h (-1) (v := (-1)) (by decide) dX13_bought_51 ?_
      refine g_ixor h dX13_bought_52 ?_
      refine g_iand h dX13_bought_53 ?_
      refine g_if_ne h 86 (by decide) hf dX13_bought_54 (fun hf => ?_) (fun hf => ?_)
      · refine g_sub [0, 1, 2, 3, 4] rfl ?_
        exact kX13_bought_b86 h ih hf
      · refine g_iload_n h 3 rfl dX13_bought_57 ?_
        refine g_iconst h (-1) (v := (-1)) (by decide) dX13_bought_58 ?_
        refine g_ic_eq h 74 (by decide) hf dX13_bought_59 (fun hf => ?_) (fun hf => ?_)
        · refine g_sub [0, 1, 2, 3, 4] rfl ?_
          exact kX13_bought_b74 h ih hf
        · refine g_iload h 4 rfl dX13_bought_62 ?_
          obtain ⟨v10, hq, hf⟩ := bd_some hf
          refine g_callSri (As := [.int x4]) (rest := []) h ceX13_bits mlX13_465 smX13_bits rfl rfl ⟨by decide, by decide⟩ ⟨by decide, by decide⟩ rfl dX13_bought_64 rfl (Nat.le_of_ble_eq_true rfl) (cmX13_bits hq) ?_
          refine g_iload_n h 3 rfl dX13_bought_67 ?_
          obtain ⟨v11, hq, hf⟩ := bd_some hf
          refine g_callSri (As := [.int x3]) (rest := [.int v10]) h ceX13_bits mlX13_465 smX13_bits rfl rfl ⟨by decide, by decide⟩ ⟨by decide, by decide⟩ rfl dX13_bought_68 rfl (Nat.le_of_ble_eq_true rfl) (cmX13_bits hq) ?_
          refine g_ic_ge h 86 (by decide) hf dX13_bought_71 (fun hf => ?_) (fun hf => ?_)
          · refine g_sub [0, 1, 2, 3, 4] rfl ?_
            exact kX13_bought_b86 h ih hf
          · refine g_sub [0, 1, 2, 3, 4] rfl ?_
            exact kX13_bought_b74 h ih hf

theorem kX13_bought_e0 {G : GX} (h : OKm G cX13_bought RX13 5 (some .int) { frames := 2, cells := 0, slots := 0, locals := 45 }) {M : Mem} {x1 : Int32} {res : (Int32 × Mem)} (hf : fX13_bought M x1 = some res) : GG G (Qm G (Pwi res) 0 0) 0 0 0 [(0, rv G.1 103), (1, .int x1)] [] M := by
  unfold fX13_bought at hf
  refine g_aload_n h 0 rfl dX13_bought_0 ?_
  refine g_iconst h 0 (v := 0) (by decide) dX13_bought_1 ?_
  refine pfX13_141 h (by decide : kd 103 = 11) dX13_bought_2 ?_
  refine g_nmM hf (fun M1 hf => ?_)
  refine g_aload_n h 0 rfl dX13_bought_5 ?_
  refine g_iload_n h 1 rfl dX13_bought_6 ?_
  refine g_iconst h 1 (v := 1) (by decide) dX13_bought_7 ?_
  obtain ⟨v2, M3, hq, hf⟩ := b2_some hf
  refine g_callVwi (As := [.int x1, .int 1]) (rest := []) h ceX13_isWhat mlX13_414 imX13_isWhat seX13_isWhat (by rfl) (kd_lt (by rw [(by decide : kd 103 = 11)]; decide)) (ent_11 (by decide : kd 103 = 11)) rfl rfl ⟨by decide, by decide⟩ ⟨by decide, by decide⟩ rfl dX13_bought_8 rfl (Nat.le_of_ble_eq_true rfl) (cmX13_isWhat hq) ?_
  refine g_if_ne h 16 (by decide) hf dX13_bought_11 (fun hf => ?_) (fun hf => ?_)
  · refine g_iconst h 1 (v := 1) (by decide) dX13_bought_16 ?_
    refine g_aload_n h 0 rfl dX13_bought_17 ?_
    refine gfX13_342 h (by decide : kd 103 = 11) dX13_bought_18 ?_
    refine g_nmI hf (fun v4 hf => ?_)
    refine g_ishl h dX13_bought_21 ?_
    refine g_iconst h 1 (v := 1) (by decide) dX13_bought_22 ?_
    refine g_isub h dX13_bought_23 ?_
    refine g_iconst h 1 (v := 1) (by decide) dX13_bought_24 ?_
    refine g_aload_n h 0 rfl dX13_bought_25 ?_
    refine gfX13_345 h (by decide : kd 103 = 11) dX13_bought_26 ?_
    refine g_nmI hf (fun v5 hf => ?_)
    refine g_ishl h dX13_bought_29 ?_
    refine g_iconst h 1 (v := 1) (by decide) dX13_bought_30 ?_
    refine g_isub h dX13_bought_31 ?_
    refine g_bipush h 7 (v := 7) (by decide) dX13_bought_32 ?_
    refine g_ishl h dX13_bought_34 ?_
    refine g_ior h dX13_bought_35 ?_
    refine g_nmI hf (fun v6 hf => ?_)
    refine g_istore_n h rfl [(2, .int v6), (0, rv G.1 103), (1, .int x1)] (by decide) rfl dX13_bought_36 ?_
    refine g_iconst h (-1) (v := (-1)) (by decide) dX13_bought_37 ?_
    refine g_istore_n h rfl [(3, .int (-1)), (2, .int v6), (0, rv G.1 103), (1, .int x1)] (by decide) rfl dX13_bought_38 ?_
    refine g_iconst h 0 (v := 0) (by decide) dX13_bought_39 ?_
    refine g_istore h [(4, .int 0), (3, .int (-1)), (2, .int v6), (0, rv G.1 103), (1, .int x1)] (by decide) rfl dX13_bought_40 ?_
    refine g_sub [3, 4, 2, 1, 0] rfl ?_
    exact kX13_bought_l42 h _ _ _ _ _ _ _ hf
  · refine g_iconst h 0 (v := 0) (by decide) dX13_bought_14 ?_
    cases hf
    exact g_iret h rfl ⟨rfl, rfl⟩ (Nat.le_refl _) (Nat.le_refl _) dX13_bought_15

theorem cmX13_bought {l : Launch} {w : WX} {M : Mem} {x1 : Int32} {res : (Int32 × Mem)} (hf : fX13_bought M x1 = some res) : CM l w yX13_bought cX13_bought 5 (some .int) { frames := 2, cells := 0, slots := 0, locals := 45 } 0 0 [rv w 103, .int x1] M (Pwi res) := by
  refine CM_of (by decide) (by decide) (fun G hw hl h => ?_)
  subst hw
  exact kX13_bought_e0 h hf

-- X13_isBrother
theorem kX13_isBrother_e0 {G : GX} (h : OKm G cX13_isBrother RX13 2 (some .boolean) { frames := 1, cells := 0, slots := 0, locals := 22 }) {M : Mem} {x1 : Int32} {res : (Int32 × Mem)} (hf : fX13_isBrother M x1 = some res) : GG G (Qm G (Pwi res) 0 0) 0 0 0 [(0, rv G.1 103), (1, .int x1)] [] M := by
  unfold fX13_isBrother at hf
  refine g_aload_n h 0 rfl dX13_isBrother_0 ?_
  refine g_iload_n h 1 rfl dX13_isBrother_1 ?_
  refine g_iconst h 0 (v := 0) (by decide) dX13_isBrother_2 ?_
  refine g_iconst h 1 (v := 1) (by decide) dX13_isBrother_3 ?_
  obtain ⟨v1, hq, hf⟩ := bd_some hf
  refine g_callSri (As := [.int x1, .int 0, .int 1]) (rest := [rv G.1 103]) h ceX13_within mlX13_407 smX13_within rfl rfl ⟨by decide, by decide⟩ ⟨by decide, by decide⟩ rfl dX13_isBrother_4 rfl (Nat.le_of_ble_eq_true rfl) (cmX13_within hq) ?_
  refine g_iconst h 1 (v := 1) (by decide) dX13_isBrother_7 ?_
  obtain ⟨v2, M3, hq, hf⟩ := b2_some hf
  refine g_callVwi (As := [.int v1, .int 1]) (rest := []) h ceX13_right mlX13_326 imX13_right seX13_right (by rfl) (kd_lt (by rw [(by decide : kd 103 = 11)]; decide)) (ent_11 (by decide : kd 103 = 11)) rfl rfl ⟨by decide, by decide⟩ ⟨by decide, by decide⟩ rfl dX13_isBrother_8 rfl (Nat.le_of_ble_eq_true rfl) (cmX13_right hq) ?_
  obtain ⟨hz, hf⟩ := pre_ck hf
  cases hf
  exact g_zret h hz rfl ⟨rfl, rfl⟩ (Nat.le_refl _) (Nat.le_refl _) dX13_isBrother_11

theorem cmX13_isBrother {l : Launch} {w : WX} {M : Mem} {x1 : Int32} {res : (Int32 × Mem)} (hf : fX13_isBrother M x1 = some res) : CM l w yX13_isBrother cX13_isBrother 2 (some .boolean) { frames := 1, cells := 0, slots := 0, locals := 22 } 0 0 [rv w 103, .int x1] M (Pwi res) := by
  refine CM_of (by decide) (by decide) (fun G hw hl h => ?_)
  subst hw
  exact kX13_isBrother_e0 h hf

-- X13_brother
theorem kX13_brother_e0 {G : GX} (h : OKm G cX13_brother RX13 3 (some .int) { frames := 5, cells := 0, slots := 0, locals := 121 }) {M : Mem} {x1 : Int32} {x2 : Int32} {res : (Int32 × Mem)} (hf : fX13_brother M x1 x2 = some res) : GG G (Qm G (Pwi res) 0 0) 0 0 0 [(0, rv G.1 103), (1, .int x1), (2, .int x2)] [] M := by
  unfold fX13_brother at hf
  refine g_aload_n h 0 rfl dX13_brother_0 ?_
  refine g_iconst h 0 (v := 0) (by decide) dX13_brother_1 ?_
  refine pfX13_141 h (by decide : kd 103 = 11) dX13_brother_2 ?_
  refine g_nmM hf (fun M1 hf => ?_)
  refine g_aload_n h 0 rfl dX13_brother_5 ?_
  refine g_iload_n h 1 rfl dX13_brother_6 ?_
  obtain ⟨v2, M3, hq, hf⟩ := b2_some hf
  refine g_callVwi (As := [.int x1]) (rest := []) h ceX13_isBrother mlX13_417 imX13_isBrother seX13_isBrother (by rfl) (kd_lt (by rw [(by decide : kd 103 = 11)]; decide)) (ent_11 (by decide : kd 103 = 11)) rfl rfl ⟨by decide, by decide⟩ ⟨by decide, by decide⟩ rfl dX13_brother_7 rfl (Nat.le_of_ble_eq_true rfl) (cmX13_isBrother hq) ?_
  refine g_if_eq h 22 (by decide) hf dX13_brother_10 (fun hf => ?_) (fun hf => ?_)
  · refine g_iconst h 0 (v := 0) (by decide) dX13_brother_22 ?_
    cases hf
    exact g_iret h rfl ⟨rfl, rfl⟩ (Nat.le_refl _) (Nat.le_refl _) dX13_brother_23
  · refine g_aload_n h 0 rfl dX13_brother_13 ?_
    refine g_iload_n h 2 rfl dX13_brother_14 ?_
    refine g_iconst h 5 (v := 5) (by decide) dX13_brother_15 ?_
    obtain ⟨v4, M5, hq, hf⟩ := b2_some hf
    refine g_callVwi (As := [.int x2, .int 5]) (rest := []) h ceX13_isWhat mlX13_414 imX13_isWhat seX13_isWhat (by rfl) (kd_lt (by rw [(by decide : kd 103 = 11)]; decide)) (ent_11 (by decide : kd 103 = 11)) rfl rfl ⟨by decide, by decide⟩ ⟨by decide, by decide⟩ rfl dX13_brother_16 rfl (Nat.le_of_ble_eq_true rfl) (cmX13_isWhat hq) ?_
    refine g_if_ne h 24 (by decide) hf dX13_brother_19 (fun hf => ?_) (fun hf => ?_)
    · refine g_iload_n h 2 rfl dX13_brother_24 ?_
      by_cases hx0 : x2 = 0
      · rw [if_pos hx0] at hf
        refine g_tabIn h (off := 35) 60 (by rw [hx0]; decide) (by rw [hx0]; decide) (by rw [hx0]; decide) (by decide) dX13_brother_25 ?_
        refine g_aload_n h 0 rfl dX13_brother_60 ?_
        refine gfX13_108 h (by decide : kd 103 = 11) dX13_brother_61 ?_
        refine g_bipush h 6 (v := 6) (by decide) dX13_brother_64 ?_
        refine g_iload_n h 1 rfl dX13_brother_66 ?_
        refine g_iadd h dX13_brother_67 ?_
        refine g_iald h 186 (by decide : kd 133 = 20) (by decide) hf dX13_brother_68 (fun v6 hf => ?_)
        cases hf
        exact g_iret h rfl ⟨rfl, rfl⟩ (Nat.le_refl _) (Nat.le_refl _) dX13_brother_69
      rw [if_neg hx0] at hf
      have hy0 : x2.toInt ≠ 0 := fun q => hx0 (Int32.toInt_inj.mp (by rw [q]; rfl))
      by_cases hx1 : x2 = 1
      · rw [if_pos hx1] at hf
        refine g_tabIn h (off := 45) 70 (by rw [hx1]; decide) (by rw [hx1]; decide) (by rw [hx1]; decide) (by decide) dX13_brother_25 ?_
        refine g_aload_n h 0 rfl dX13_brother_70 ?_
        refine gfX13_108 h (by decide : kd 103 = 11) dX13_brother_71 ?_
        refine g_bipush h 10 (v := 10) (by decide) dX13_brother_74 ?_
        refine g_iload_n h 1 rfl dX13_brother_76 ?_
        refine g_iadd h dX13_brother_77 ?_
        refine g_iald h 186 (by decide : kd 133 = 20) (by decide) hf dX13_brother_78 (fun v7 hf => ?_)
        cases hf
        exact g_iret h rfl ⟨rfl, rfl⟩ (Nat.le_refl _) (Nat.le_refl _) dX13_brother_79
      rw [if_neg hx1] at hf
      have hy1 : x2.toInt ≠ 1 := fun q => hx1 (Int32.toInt_inj.mp (by rw [q]; rfl))
      by_cases hx2 : x2 = 2
      · rw [if_pos hx2] at hf
        refine g_tabIn h (off := 55) 80 (by rw [hx2]; decide) (by rw [hx2]; decide) (by rw [hx2]; decide) (by decide) dX13_brother_25 ?_
        refine g_aload_n h 0 rfl dX13_brother_80 ?_
        refine gfX13_29 h (by decide : kd 103 = 11) dX13_brother_81 ?_
        refine g_iload_n h 1 rfl dX13_brother_84 ?_
        refine g_iald h 2 (by decide : kd 108 = 20) (by decide) hf dX13_brother_85 (fun v8 hf => ?_)
        cases hf
        exact g_iret h rfl ⟨rfl, rfl⟩ (Nat.le_refl _) (Nat.le_refl _) dX13_brother_86
      rw [if_neg hx2] at hf
      have hy2 : x2.toInt ≠ 2 := fun q => hx2 (Int32.toInt_inj.mp (by rw [q]; rfl))
      by_cases hx3 : x2 = 3
      · rw [if_pos hx3] at hf
        refine g_tabIn h (off := 62) 87 (by rw [hx3]; decide) (by rw [hx3]; decide) (by rw [hx3]; decide) (by decide) dX13_brother_25 ?_
        refine g_aload_n h 0 rfl dX13_brother_87 ?_
        refine g_iconst h 0 (v := 0) (by decide) dX13_brother_88 ?_
        refine g_iload_n h 1 rfl dX13_brother_89 ?_
        obtain ⟨v9, M10, hq, hf⟩ := b2_some hf
        refine g_callVwi (As := [.int 0, .int x1]) (rest := []) h ceX13_followers mlX13_375 imX13_followers seX13_followers (by rfl) (kd_lt (by rw [(by decide : kd 103 = 11)]; decide)) (ent_11 (by decide : kd 103 = 11)) rfl rfl ⟨by decide, by decide⟩ ⟨by decide, by decide⟩ rfl dX13_brother_90 rfl (Nat.le_of_ble_eq_true rfl) (cmX13_followers hq) ?_
        cases hf
        exact g_iret h rfl ⟨rfl, rfl⟩ (Nat.le_refl _) (Nat.le_refl _) dX13_brother_93
      rw [if_neg hx3] at hf
      have hy3 : x2.toInt ≠ 3 := fun q => hx3 (Int32.toInt_inj.mp (by rw [q]; rfl))
      by_cases hx4 : x2 = 4
      · rw [if_pos hx4] at hf
        refine g_tabIn h (off := 69) 94 (by rw [hx4]; decide) (by rw [hx4]; decide) (by rw [hx4]; decide) (by decide) dX13_brother_25 ?_
        refine g_aload_n h 0 rfl dX13_brother_94 ?_
        refine g_aload_n h 0 rfl dX13_brother_95 ?_
        refine g_iconst h 0 (v := 0) (by decide) dX13_brother_96 ?_
        refine g_iload_n h 1 rfl dX13_brother_97 ?_
        obtain ⟨v11, M12, hq, hf⟩ := b2_some hf
        refine g_callVwi (As := [.int 0, .int x1]) (rest := [rv G.1 103]) h ceX13_followers mlX13_375 imX13_followers seX13_followers (by rfl) (kd_lt (by rw [(by decide : kd 103 = 11)]; decide)) (ent_11 (by decide : kd 103 = 11)) rfl rfl ⟨by decide, by decide⟩ ⟨by decide, by decide⟩ rfl dX13_brother_98 rfl (Nat.le_of_ble_eq_true rfl) (cmX13_followers hq) ?_
        obtain ⟨v13, hq, hf⟩ := bd_some hf
        refine g_callVri (As := [.int v11]) (rest := []) h ceX13_menOf mlX13_378 imX13_menOf seX13_menOf (by rfl) (kd_lt (by rw [(by decide : kd 103 = 11)]; decide)) (ent_11 (by decide : kd 103 = 11)) rfl rfl ⟨by decide, by decide⟩ ⟨by decide, by decide⟩ rfl dX13_brother_101 rfl (Nat.le_of_ble_eq_true rfl) (cmX13_menOf hq) ?_
        cases hf
        exact g_iret h rfl ⟨rfl, rfl⟩ (Nat.le_refl _) (Nat.le_refl _) dX13_brother_104
      rw [if_neg hx4] at hf
      have hy4 : x2.toInt ≠ 4 := fun q => hx4 (Int32.toInt_inj.mp (by rw [q]; rfl))
      refine g_tabOut h 105 (by omega) (by decide) dX13_brother_25 ?_
      refine g_aload_n h 0 rfl dX13_brother_105 ?_
      refine g_iconst h 0 (v := 0) (by decide) dX13_brother_106 ?_
      refine g_iload_n h 1 rfl dX13_brother_107 ?_
      obtain ⟨v14, hq, hf⟩ := bd_some hf
      refine g_callVri (As := [.int 0, .int x1]) (rest := []) h ceX13_wayOf mlX13_393 imX13_wayOf seX13_wayOf (by rfl) (kd_lt (by rw [(by decide : kd 103 = 11)]; decide)) (ent_11 (by decide : kd 103 = 11)) rfl rfl ⟨by decide, by decide⟩ ⟨by decide, by decide⟩ rfl dX13_brother_108 rfl (Nat.le_of_ble_eq_true rfl) (cmX13_wayOf hq) ?_
      cases hf
      exact g_iret h rfl ⟨rfl, rfl⟩ (Nat.le_refl _) (Nat.le_refl _) dX13_brother_111
    · refine g_iconst h 0 (v := 0) (by decide) dX13_brother_22 ?_
      cases hf
      exact g_iret h rfl ⟨rfl, rfl⟩ (Nat.le_refl _) (Nat.le_refl _) dX13_brother_23

theorem cmX13_brother {l : Launch} {w : WX} {M : Mem} {x1 : Int32} {x2 : Int32} {res : (Int32 × Mem)} (hf : fX13_brother M x1 x2 = some res) : CM l w yX13_brother cX13_brother 3 (some .int) { frames := 5, cells := 0, slots := 0, locals := 121 } 0 0 [rv w 103, .int x1, .int x2] M (Pwi res) := by
  refine CM_of (by decide) (by decide) (fun G hw hl h => ?_)
  subst hw
  exact kX13_brother_e0 h hf

-- X13_isDeed
theorem kX13_isDeed_b18 {G : GX} (h : OKm G cX13_isDeed RX13 2 (some .boolean) { frames := 1, cells := 0, slots := 0, locals := 22 }) {M : Mem} {s0 : Int32} {res : (Int32 × Mem)} (hf : fX13_isDeed_b18 M s0 = some res) : GG G (Qm G (Pwi res) 0 0) 0 0 18 [] [.int s0, rv G.1 103] M := by
  unfold fX13_isDeed_b18 at hf
  refine g_iconst h 1 (v := 1) (by decide) dX13_isDeed_18 ?_
  obtain ⟨v1, M2, hq, hf⟩ := b2_some hf
  refine g_callVwi (As := [.int s0, .int 1]) (rest := []) h ceX13_right mlX13_326 imX13_right seX13_right (by rfl) (kd_lt (by rw [(by decide : kd 103 = 11)]; decide)) (ent_11 (by decide : kd 103 = 11)) rfl rfl ⟨by decide, by decide⟩ ⟨by decide, by decide⟩ rfl dX13_isDeed_19 rfl (Nat.le_of_ble_eq_true rfl) (cmX13_right hq) ?_
  obtain ⟨hz, hf⟩ := pre_ck hf
  cases hf
  exact g_zret h hz rfl ⟨rfl, rfl⟩ (Nat.le_refl _) (Nat.le_refl _) dX13_isDeed_22

theorem kX13_isDeed_b17 {G : GX} (h : OKm G cX13_isDeed RX13 2 (some .boolean) { frames := 1, cells := 0, slots := 0, locals := 22 }) {M : Mem} {res : (Int32 × Mem)} (hf : fX13_isDeed_b17 M = some res) : GG G (Qm G (Pwi res) 0 0) 0 0 17 [] [rv G.1 103] M := by
  unfold fX13_isDeed_b17 at hf
  refine g_iconst h 0 (v := 0) (by decide) dX13_isDeed_17 ?_
  refine g_sub [] rfl ?_
  exact kX13_isDeed_b18 h hf

theorem kX13_isDeed_e0 {G : GX} (h : OKm G cX13_isDeed RX13 2 (some .boolean) { frames := 1, cells := 0, slots := 0, locals := 22 }) {M : Mem} {x1 : Int32} {res : (Int32 × Mem)} (hf : fX13_isDeed M x1 = some res) : GG G (Qm G (Pwi res) 0 0) 0 0 0 [(0, rv G.1 103), (1, .int x1)] [] M := by
  unfold fX13_isDeed at hf
  refine g_aload_n h 0 rfl dX13_isDeed_0 ?_
  refine g_iload_n h 1 rfl dX13_isDeed_1 ?_
  refine g_if_lt h 17 (by decide) hf dX13_isDeed_2 (fun hf => ?_) (fun hf => ?_)
  · refine g_sub [] rfl ?_
    exact kX13_isDeed_b17 h hf
  · refine g_iload_n h 1 rfl dX13_isDeed_5 ?_
    refine g_aload_n h 0 rfl dX13_isDeed_6 ?_
    refine gfX13_333 h (by decide : kd 103 = 11) dX13_isDeed_7 ?_
    refine g_nmI hf (fun v3 hf => ?_)
    refine g_ic_ge h 17 (by decide) hf dX13_isDeed_10 (fun hf => ?_) (fun hf => ?_)
    · refine g_sub [] rfl ?_
      exact kX13_isDeed_b17 h hf
    · refine g_iconst h 1 (v := 1) (by decide) dX13_isDeed_13 ?_
      refine g_goto h 18 (by decide) dX13_isDeed_14 ?_
      refine g_sub [] rfl ?_
      exact kX13_isDeed_b18 h hf

theorem cmX13_isDeed {l : Launch} {w : WX} {M : Mem} {x1 : Int32} {res : (Int32 × Mem)} (hf : fX13_isDeed M x1 = some res) : CM l w yX13_isDeed cX13_isDeed 2 (some .boolean) { frames := 1, cells := 0, slots := 0, locals := 22 } 0 0 [rv w 103, .int x1] M (Pwi res) := by
  refine CM_of (by decide) (by decide) (fun G hw hl h => ?_)
  subst hw
  exact kX13_isDeed_e0 h hf

-- X13_refuses
theorem kX13_refuses_e0 {G : GX} (h : OKm G cX13_refuses RX13 2 (some .int) { frames := 0, cells := 0, slots := 0, locals := 0 }) {M : Mem} {x1 : Int32} {res : (Int32 × Mem)} (hf : fX13_refuses M x1 = some res) : GG G (Qm G (Pwi res) 0 0) 0 0 0 [(0, rv G.1 103), (1, .int x1)] [] M := by
  unfold fX13_refuses at hf
  refine g_aload_n h 0 rfl dX13_refuses_0 ?_
  refine gfX13_59 h (by decide : kd 103 = 11) dX13_refuses_1 ?_
  refine g_iload_n h 1 rfl dX13_refuses_4 ?_
  refine g_dup2 h rfl rfl dX13_refuses_5 ?_
  refine g_iald h 3 (by decide : kd 117 = 20) (by decide) hf dX13_refuses_6 (fun v1 hf => ?_)
  refine g_iconst h 1 (v := 1) (by decide) dX13_refuses_7 ?_
  refine g_iadd h dX13_refuses_8 ?_
  refine g_iast h 3 (by decide : kd 117 = 20) (by decide) hf dX13_refuses_9 (fun M2 hf => ?_)
  refine g_iconst h (-1) (v := (-1)) (by decide) dX13_refuses_10 ?_
  cases hf
  exact g_iret h rfl ⟨rfl, rfl⟩ (Nat.le_refl _) (Nat.le_refl _) dX13_refuses_11

theorem cmX13_refuses {l : Launch} {w : WX} {M : Mem} {x1 : Int32} {res : (Int32 × Mem)} (hf : fX13_refuses M x1 = some res) : CM l w yX13_refuses cX13_refuses 2 (some .int) { frames := 0, cells := 0, slots := 0, locals := 0 } 0 0 [rv w 103, .int x1] M (Pwi res) := by
  refine CM_of (by decide) (by decide) (fun G hw hl h => ?_)
  subst hw
  exact kX13_refuses_e0 h hf

-- X13_keeps
theorem kX13_keeps_l52 {G : GX} (h : OKm G cX13_keeps RX13 2 none { frames := 0, cells := 0, slots := 0, locals := 0 }) : ∀ (n : Nat) (M : Mem) (x1 : Int32) (res : Mem), fX13_keeps_l52 n M x1 = some res → GG G (Qm G (Pwv res) 0 0) 0 0 52 [(0, rv G.1 103), (1, .int x1)] [] M := by
  intro n
  induction n with
  | zero => intro M x1 res hf; rw [fX13_keeps_l52] at hf; cases hf
  | succ n ih =>
    intro M x1 res hf
    rw [fX13_keeps_l52] at hf
    refine g_iload_n h 1 rfl dX13_keeps_52 ?_
    refine g_bipush h 31 (v := 31) (by decide) dX13_keeps_53 ?_
    refine g_ic_ge h 84 (by decide) hf dX13_keeps_55 (fun hf => ?_) (fun hf => ?_)
    · refine g_aload_n h 0 rfl dX13_keeps_84 ?_
      refine g_dup h rfl dX13_keeps_85 ?_
      refine gfX13_352 h (by decide : kd 103 = 11) dX13_keeps_86 ?_
      refine g_nmI hf (fun v2 hf => ?_)
      refine g_iconst h 1 (v := 1) (by decide) dX13_keeps_89 ?_
      refine g_iadd h dX13_keeps_90 ?_
      refine pfX13_352 h (by decide : kd 103 = 11) dX13_keeps_91 ?_
      refine g_nmM hf (fun M3 hf => ?_)
      cases hf
      exact g_vret h rfl ⟨rfl, rfl⟩ (Nat.le_refl _) (Nat.le_refl _) dX13_keeps_94
    · refine g_aload_n h 0 rfl dX13_keeps_58 ?_
      refine gfX13_111 h (by decide : kd 103 = 11) dX13_keeps_59 ?_
      refine g_bipush h 31 (v := 31) (by decide) dX13_keeps_62 ?_
      refine g_aload_n h 0 rfl dX13_keeps_64 ?_
      refine gfX13_352 h (by decide : kd 103 = 11) dX13_keeps_65 ?_
      refine g_nmI hf (fun v4 hf => ?_)
      refine g_imul h dX13_keeps_68 ?_
      refine g_iload_n h 1 rfl dX13_keeps_69 ?_
      refine g_iadd h dX13_keeps_70 ?_
      refine g_aload_n h 0 rfl dX13_keeps_71 ?_
      refine gfX13_108 h (by decide : kd 103 = 11) dX13_keeps_72 ?_
      refine g_iload_n h 1 rfl dX13_keeps_75 ?_
      refine g_iald h 186 (by decide : kd 133 = 20) (by decide) hf dX13_keeps_76 (fun v5 hf => ?_)
      refine g_iast h 1240 (by decide : kd 134 = 20) (by decide) hf dX13_keeps_77 (fun M6 hf => ?_)
      refine g_iinc h 1 1 rfl (v := x1 + 1) rfl [(1, .int (x1 + 1)), (0, rv G.1 103)] (by decide) rfl dX13_keeps_78 ?_
      refine g_nmV hf (fun v7 hf => ?_)
      refine g_goto h 52 (by decide) dX13_keeps_81 ?_
      refine g_sub [1, 0] rfl ?_
      exact ih _ _ _ hf

theorem kX13_keeps_b50 {G : GX} (h : OKm G cX13_keeps RX13 2 none { frames := 0, cells := 0, slots := 0, locals := 0 }) {M : Mem} {res : Mem} (hf : fX13_keeps_b50 M = some res) : GG G (Qm G (Pwv res) 0 0) 0 0 50 [(0, rv G.1 103)] [] M := by
  unfold fX13_keeps_b50 at hf
  refine g_iconst h 0 (v := 0) (by decide) dX13_keeps_50 ?_
  refine g_istore_n h rfl [(1, .int 0), (0, rv G.1 103)] (by decide) rfl dX13_keeps_51 ?_
  refine g_sub [1, 0] rfl ?_
  exact kX13_keeps_l52 h _ _ _ _ hf

theorem kX13_keeps_l12 {G : GX} (h : OKm G cX13_keeps RX13 2 none { frames := 0, cells := 0, slots := 0, locals := 0 }) : ∀ (n : Nat) (M : Mem) (x1 : Int32) (res : Mem), fX13_keeps_l12 n M x1 = some res → GG G (Qm G (Pwv res) 0 0) 0 0 12 [(0, rv G.1 103), (1, .int x1)] [] M := by
  intro n
  induction n with
  | zero => intro M x1 res hf; rw [fX13_keeps_l12] at hf; cases hf
  | succ n ih =>
    intro M x1 res hf
    rw [fX13_keeps_l12] at hf
    refine g_iload_n h 1 rfl dX13_keeps_12 ?_
    refine g_sipush h 1240 (v := 1240) (by decide) dX13_keeps_13 ?_
    refine g_ic_ge h 40 (by decide) hf dX13_keeps_16 (fun hf => ?_) (fun hf => ?_)
    · refine g_aload_n h 0 rfl dX13_keeps_40 ?_
      refine g_dup h rfl dX13_keeps_41 ?_
      refine gfX13_352 h (by decide : kd 103 = 11) dX13_keeps_42 ?_
      refine g_nmI hf (fun v8 hf => ?_)
      refine g_iconst h 1 (v := 1) (by decide) dX13_keeps_45 ?_
      refine g_isub h dX13_keeps_46 ?_
      refine pfX13_352 h (by decide : kd 103 = 11) dX13_keeps_47 ?_
      refine g_nmM hf (fun M9 hf => ?_)
      refine g_sub [0] rfl ?_
      exact kX13_keeps_b50 h hf
    · refine g_aload_n h 0 rfl dX13_keeps_19 ?_
      refine gfX13_111 h (by decide : kd 103 = 11) dX13_keeps_20 ?_
      refine g_iload_n h 1 rfl dX13_keeps_23 ?_
      refine g_bipush h 31 (v := 31) (by decide) dX13_keeps_24 ?_
      refine g_isub h dX13_keeps_26 ?_
      refine g_aload_n h 0 rfl dX13_keeps_27 ?_
      refine gfX13_111 h (by decide : kd 103 = 11) dX13_keeps_28 ?_
      refine g_iload_n h 1 rfl dX13_keeps_31 ?_
      refine g_iald h 1240 (by decide : kd 134 = 20) (by decide) hf dX13_keeps_32 (fun v10 hf => ?_)
      refine g_iast h 1240 (by decide : kd 134 = 20) (by decide) hf dX13_keeps_33 (fun M11 hf => ?_)
      refine g_iinc h 1 1 rfl (v := x1 + 1) rfl [(1, .int (x1 + 1)), (0, rv G.1 103)] (by decide) rfl dX13_keeps_34 ?_
      refine g_nmV hf (fun v12 hf => ?_)
      refine g_goto h 12 (by decide) dX13_keeps_37 ?_
      refine g_sub [1, 0] rfl ?_
      exact ih _ _ _ hf

theorem kX13_keeps_e0 {G : GX} (h : OKm G cX13_keeps RX13 2 none { frames := 0, cells := 0, slots := 0, locals := 0 }) {M : Mem} {res : Mem} (hf : fX13_keeps M = some res) : GG G (Qm G (Pwv res) 0 0) 0 0 0 [(0, rv G.1 103)] [] M := by
  unfold fX13_keeps at hf
  refine g_aload_n h 0 rfl dX13_keeps_0 ?_
  refine gfX13_352 h (by decide : kd 103 = 11) dX13_keeps_1 ?_
  refine g_nmI hf (fun v1 hf => ?_)
  refine g_bipush h 40 (v := 40) (by decide) dX13_keeps_4 ?_
  refine g_ic_ne h 50 (by decide) hf dX13_keeps_6 (fun hf => ?_) (fun hf => ?_)
  · refine g_sub [0] rfl ?_
    exact kX13_keeps_b50 h hf
  · refine g_bipush h 31 (v := 31) (by decide) dX13_keeps_9 ?_
    refine g_istore_n h rfl [(1, .int 31), (0, rv G.1 103)] (by decide) rfl dX13_keeps_11 ?_
    refine g_sub [1, 0] rfl ?_
    exact kX13_keeps_l12 h _ _ _ _ hf

theorem cmX13_keeps {l : Launch} {w : WX} {M : Mem} {res : Mem} (hf : fX13_keeps M = some res) : CM l w yX13_keeps cX13_keeps 2 none { frames := 0, cells := 0, slots := 0, locals := 0 } 0 0 [rv w 103] M (Pwv res) := by
  refine CM_of (by decide) (by decide) (fun G hw hl h => ?_)
  subst hw
  exact kX13_keeps_e0 h hf

-- X13_change
theorem kX13_change_b37 {G : GX} (h : OKm G cX13_change RX13 5 (some .int) { frames := 2, cells := 0, slots := 0, locals := 43 }) {M : Mem} {res : (Int32 × Mem)} (hf : fX13_change_b37 M = some res) : GG G (Qm G (Pwi res) 0 0) 0 0 37 [(0, rv G.1 103)] [] M := by
  unfold fX13_change_b37 at hf
  refine g_aload_n h 0 rfl dX13_change_37 ?_
  refine g_iconst h 1 (v := 1) (by decide) dX13_change_38 ?_
  obtain ⟨v6, M7, hq, hf⟩ := b2_some hf
  refine g_callVwi (As := [.int 1]) (rest := []) h ceX13_refuses mlX13_423 imX13_refuses seX13_refuses (by rfl) (kd_lt (by rw [(by decide : kd 103 = 11)]; decide)) (ent_11 (by decide : kd 103 = 11)) rfl rfl ⟨by decide, by decide⟩ ⟨by decide, by decide⟩ rfl dX13_change_39 rfl (Nat.le_of_ble_eq_true rfl) (cmX13_refuses hq) ?_
  cases hf
  exact g_iret h rfl ⟨rfl, rfl⟩ (Nat.le_refl _) (Nat.le_refl _) dX13_change_42

theorem kX13_change_e0 {G : GX} (h : OKm G cX13_change RX13 5 (some .int) { frames := 2, cells := 0, slots := 0, locals := 43 }) {M : Mem} {x1 : Int32} {x2 : Int32} {x3 : Int32} {res : (Int32 × Mem)} (hf : fX13_change M x1 x2 x3 = some res) : GG G (Qm G (Pwi res) 0 0) 0 0 0 [(0, rv G.1 103), (1, .int x1), (2, .int x2), (3, .int x3)] [] M := by
  unfold fX13_change at hf
  refine g_aload_n h 0 rfl dX13_change_0 ?_
  refine g_iconst h 0 (v := 0) (by decide) dX13_change_1 ?_
  refine pfX13_141 h (by decide : kd 103 = 11) dX13_change_2 ?_
  refine g_nmM hf (fun M1 hf => ?_)
  refine g_aload_n h 0 rfl dX13_change_5 ?_
  refine g_iload_n h 1 rfl dX13_change_6 ?_
  obtain ⟨v2, M3, hq, hf⟩ := b2_some hf
  refine g_callVwi (As := [.int x1]) (rest := []) h ceX13_isBrother mlX13_417 imX13_isBrother seX13_isBrother (by rfl) (kd_lt (by rw [(by decide : kd 103 = 11)]; decide)) (ent_11 (by decide : kd 103 = 11)) rfl rfl ⟨by decide, by decide⟩ ⟨by decide, by decide⟩ rfl dX13_change_7 rfl (Nat.le_of_ble_eq_true rfl) (cmX13_isBrother hq) ?_
  refine g_if_eq h 21 (by decide) hf dX13_change_10 (fun hf => ?_) (fun hf => ?_)
  · refine g_iconst h 0 (v := 0) (by decide) dX13_change_21 ?_
    cases hf
    exact g_iret h rfl ⟨rfl, rfl⟩ (Nat.le_refl _) (Nat.le_refl _) dX13_change_22
  · refine g_aload_n h 0 rfl dX13_change_13 ?_
    refine g_iload_n h 3 rfl dX13_change_14 ?_
    obtain ⟨v4, M5, hq, hf⟩ := b2_some hf
    refine g_callVwi (As := [.int x3]) (rest := []) h ceX13_isDeed mlX13_411 imX13_isDeed seX13_isDeed (by rfl) (kd_lt (by rw [(by decide : kd 103 = 11)]; decide)) (ent_11 (by decide : kd 103 = 11)) rfl rfl ⟨by decide, by decide⟩ ⟨by decide, by decide⟩ rfl dX13_change_15 rfl (Nat.le_of_ble_eq_true rfl) (cmX13_isDeed hq) ?_
    refine g_if_ne h 23 (by decide) hf dX13_change_18 (fun hf => ?_) (fun hf => ?_)
    · refine g_iload_n h 2 rfl dX13_change_23 ?_
      refine g_if_lt h 37 (by decide) hf dX13_change_24 (fun hf => ?_) (fun hf => ?_)
      · refine g_sub [0] rfl ?_
        exact kX13_change_b37 h hf
      · refine g_iload_n h 2 rfl dX13_change_27 ?_
        refine g_aload_n h 0 rfl dX13_change_28 ?_
        refine gfX13_29 h (by decide : kd 103 = 11) dX13_change_29 ?_
        refine g_iload_n h 1 rfl dX13_change_32 ?_
        refine g_iald h 2 (by decide : kd 108 = 20) (by decide) hf dX13_change_33 (fun v8 hf => ?_)
        refine g_ic_lt h 43 (by decide) hf dX13_change_34 (fun hf => ?_) (fun hf => ?_)
        · refine g_aload_n h 0 rfl dX13_change_43 ?_
          obtain ⟨M9, hq, hf⟩ := bd_some hf
          refine g_callVwv (As := []) (rest := []) h ceX13_keeps mlX13_426 imX13_keeps seX13_keeps (by rfl) (kd_lt (by rw [(by decide : kd 103 = 11)]; decide)) (ent_11 (by decide : kd 103 = 11)) rfl rfl ⟨by decide, by decide⟩ ⟨by decide, by decide⟩ rfl dX13_change_44 rfl (Nat.le_of_ble_eq_true rfl) (cmX13_keeps hq) ?_
          refine g_aload_n h 0 rfl dX13_change_47 ?_
          refine gfX13_108 h (by decide : kd 103 = 11) dX13_change_48 ?_
          refine g_bipush h 13 (v := 13) (by decide) dX13_change_51 ?_
          refine g_bipush h 6 (v := 6) (by decide) dX13_change_53 ?_
          refine g_iload_n h 1 rfl dX13_change_55 ?_
          refine g_imul h dX13_change_56 ?_
          refine g_iadd h dX13_change_57 ?_
          refine g_iload_n h 2 rfl dX13_change_58 ?_
          refine g_iadd h dX13_change_59 ?_
          refine g_iald h 186 (by decide : kd 133 = 20) (by decide) hf dX13_change_60 (fun v10 hf => ?_)
          refine g_istore h [(4, .int v10), (0, rv G.1 103), (1, .int x1), (2, .int x2), (3, .int x3)] (by decide) rfl dX13_change_61 ?_
          refine g_aload_n h 1 rfl dX13_change_63 ?_
          refine gfX13_108 h (by decide : kd 103 = 11) dX13_change_64 ?_
          refine g_bipush h 13 (v := 13) (by decide) dX13_change_67 ?_
          refine g_bipush h 6 (v := 6) (by decide) dX13_change_69 ?_
          refine g_iload_n h 2 rfl dX13_change_71 ?_
          refine g_imul h dX13_change_72 ?_
          refine g_iadd h dX13_change_73 ?_
          refine g_iload_n h 3 rfl dX13_change_74 ?_
          refine g_iadd h dX13_change_75 ?_
          refine g_iload_n h 4 rfl dX13_change_76 ?_
          refine g_iast h 186 (by decide : kd 133 = 20) (by decide) hf dX13_change_77 (fun M11 hf => ?_)
          refine g_iload h 0 rfl dX13_change_78 ?_
          cases hf
          exact g_iret h rfl ⟨rfl, rfl⟩ (Nat.le_refl _) (Nat.le_refl _) dX13_change_80
        · refine g_sub [0] rfl ?_
          exact kX13_change_b37 h hf
    · refine g_iconst h 0 (v := 0) (by decide) dX13_change_21 ?_
      cases hf
      exact g_iret h rfl ⟨rfl, rfl⟩ (Nat.le_refl _) (Nat.le_refl _) dX13_change_22

theorem cmX13_change {l : Launch} {w : WX} {M : Mem} {x1 : Int32} {x2 : Int32} {x3 : Int32} {res : (Int32 × Mem)} (hf : fX13_change M x1 x2 x3 = some res) : CM l w yX13_change cX13_change 5 (some .int) { frames := 2, cells := 0, slots := 0, locals := 43 } 0 0 [rv w 103, .int x1, .int x2, .int x3] M (Pwi res) := by
  refine CM_of (by decide) (by decide) (fun G hw hl h => ?_)
  subst hw
  exact kX13_change_e0 h hf

-- X13_draw
theorem kX13_draw_e0 {G : GX} (h : OKm G cX13_draw RX13 2 (some .int) { frames := 0, cells := 0, slots := 0, locals := 0 }) {M : Mem} {x1 : Int32} {res : (Int32 × Mem)} (hf : fX13_draw M x1 = some res) : GG G (Qm G (Pwi res) 0 0) 0 0 0 [(0, rv G.1 103), (1, .int x1)] [] M := by
  unfold fX13_draw at hf
  refine g_aload_n h 0 rfl dX13_draw_0 ?_
  refine g_aload_n h 0 rfl dX13_draw_1 ?_
  refine gfX13_480 h (by decide : kd 103 = 11) dX13_draw_2 ?_
  refine g_nmI hf (fun v1 hf => ?_)
  refine g_ldcw h 483 (v := 1103515245) coX13_483 dX13_draw_5 ?_
  refine g_imul h dX13_draw_8 ?_
  refine g_sipush h 12345 (v := 12345) (by decide) dX13_draw_9 ?_
  refine g_iadd h dX13_draw_12 ?_
  refine pfX13_480 h (by decide : kd 103 = 11) dX13_draw_13 ?_
  refine g_nmM hf (fun M2 hf => ?_)
  refine g_aload_n h 0 rfl dX13_draw_16 ?_
  refine gfX13_480 h (by decide : kd 103 = 11) dX13_draw_17 ?_
  refine g_nmI hf (fun v3 hf => ?_)
  refine g_bipush h 16 (v := 16) (by decide) dX13_draw_20 ?_
  refine g_ishr h dX13_draw_22 ?_
  refine g_sipush h 32767 (v := 32767) (by decide) dX13_draw_23 ?_
  refine g_iand h dX13_draw_26 ?_
  refine g_iload_n h 1 rfl dX13_draw_27 ?_
  obtain ⟨hne, hf⟩ := pre_if hf
  refine g_irem h hne dX13_draw_28 ?_
  cases hf
  exact g_iret h rfl ⟨rfl, rfl⟩ (Nat.le_refl _) (Nat.le_refl _) dX13_draw_29

theorem cmX13_draw {l : Launch} {w : WX} {M : Mem} {x1 : Int32} {res : (Int32 × Mem)} (hf : fX13_draw M x1 = some res) : CM l w yX13_draw cX13_draw 2 (some .int) { frames := 0, cells := 0, slots := 0, locals := 0 } 0 0 [rv w 103, .int x1] M (Pwi res) := by
  refine CM_of (by decide) (by decide) (fun G hw hl h => ?_)
  subst hw
  exact kX13_draw_e0 h hf

-- X13_cities
theorem kX13_cities_b93 {G : GX} (h : OKm G cX13_cities RX13 6 (some .int) { frames := 7, cells := 0, slots := 0, locals := 166 }) {a46 : Mem → Int32 → Int32 → Int32 → Option (Int32 × Mem)} (ha46 : ∀ (M : Mem) (x2 : Int32) (x3 : Int32) (x4 : Int32) (res : (Int32 × Mem)), a46 M x2 x3 x4 = some res → GG G (Qm G (Pwi res) 0 0) 0 0 46 [(0, rv G.1 103), (2, .int x2), (3, .int x3), (4, .int x4)] [] M) {M : Mem} {x2 : Int32} {x3 : Int32} {x4 : Int32} {x5 : Int32} {res : (Int32 × Mem)} (hf : fX13_cities_b93 a46 M x2 x3 x4 x5 = some res) : GG G (Qm G (Pwi res) 0 0) 0 0 93 [(0, rv G.1 103), (2, .int x2), (3, .int x3), (4, .int x4), (5, .int x5)] [] M := by
  unfold fX13_cities_b93 at hf
  refine g_aload_n h 0 rfl dX13_cities_93 ?_
  refine g_bipush h 31 (v := 31) (by decide) dX13_cities_94 ?_
  refine g_iload h 4 rfl dX13_cities_96 ?_
  obtain ⟨M17, hq, hf⟩ := bd_some hf
  refine g_callVwv (As := [.int 31, .int x5]) (rest := []) h ceX13_gathers mlX13_390 imX13_gathers seX13_gathers (by rfl) (kd_lt (by rw [(by decide : kd 103 = 11)]; decide)) (ent_11 (by decide : kd 103 = 11)) rfl rfl ⟨by decide, by decide⟩ ⟨by decide, by decide⟩ rfl dX13_cities_98 rfl (Nat.le_of_ble_eq_true rfl) (cmX13_gathers hq) ?_
  refine g_aload_n h 0 rfl dX13_cities_101 ?_
  refine g_bipush h 31 (v := 31) (by decide) dX13_cities_102 ?_
  refine g_aload_n h 0 rfl dX13_cities_104 ?_
  refine g_bipush h 31 (v := 31) (by decide) dX13_cities_105 ?_
  refine g_aload_n h 0 rfl dX13_cities_107 ?_
  refine gfX13_108 h (by decide : kd 103 = 11) dX13_cities_108 ?_
  refine g_bipush h 35 (v := 35) (by decide) dX13_cities_111 ?_
  refine g_iald h 186 (by decide : kd 133 = 20) (by decide) hf dX13_cities_113 (fun v18 hf => ?_)
  obtain ⟨v19, hq, hf⟩ := bd_some hf
  refine g_callVri (As := [.int 31, .int v18]) (rest := [.int 31, rv G.1 103]) h ceX13_wayOf mlX13_393 imX13_wayOf seX13_wayOf (by rfl) (kd_lt (by rw [(by decide : kd 103 = 11)]; decide)) (ent_11 (by decide : kd 103 = 11)) rfl rfl ⟨by decide, by decide⟩ ⟨by decide, by decide⟩ rfl dX13_cities_114 rfl (Nat.le_of_ble_eq_true rfl) (cmX13_wayOf hq) ?_
  obtain ⟨v20, M21, hq, hf⟩ := b2_some hf
  refine g_callVwi (As := [.int 31, .int v19]) (rest := []) h ceX13_does mlX13_396 imX13_does seX13_does (by rfl) (kd_lt (by rw [(by decide : kd 103 = 11)]; decide)) (ent_11 (by decide : kd 103 = 11)) rfl rfl ⟨by decide, by decide⟩ ⟨by decide, by decide⟩ rfl dX13_cities_117 rfl (Nat.le_of_ble_eq_true rfl) (cmX13_does hq) ?_
  refine g_pop h rfl dX13_cities_120 ?_
  refine g_aload_n h 0 rfl dX13_cities_121 ?_
  refine g_bipush h 31 (v := 31) (by decide) dX13_cities_122 ?_
  refine g_iconst h 1 (v := 1) (by decide) dX13_cities_124 ?_
  obtain ⟨M22, hq, hf⟩ := bd_some hf
  refine g_callVwv (As := [.int 31, .int 1]) (rest := []) h ceX13_ends mlX13_400 imX13_ends seX13_ends (by rfl) (kd_lt (by rw [(by decide : kd 103 = 11)]; decide)) (ent_11 (by decide : kd 103 = 11)) rfl rfl ⟨by decide, by decide⟩ ⟨by decide, by decide⟩ rfl dX13_cities_125 rfl (Nat.le_of_ble_eq_true rfl) (cmX13_ends hq) ?_
  refine g_iinc h 4 3 rfl (v := x4 + 1) rfl [(4, .int (x4 + 1)), (0, rv G.1 103), (2, .int x2), (3, .int x3), (5, .int x5)] (by decide) rfl dX13_cities_128 ?_
  refine g_nmV hf (fun v23 hf => ?_)
  refine g_goto h 46 (by decide) dX13_cities_131 ?_
  refine g_sub [1, 2, 3, 0] rfl ?_
  exact ha46 _ _ _ _ _ hf

theorem kX13_cities_l46 {G : GX} (h : OKm G cX13_cities RX13 6 (some .int) { frames := 7, cells := 0, slots := 0, locals := 166 }) : ∀ (n : Nat) (M : Mem) (x2 : Int32) (x3 : Int32) (x4 : Int32) (res : (Int32 × Mem)), fX13_cities_l46 n M x2 x3 x4 = some res → GG G (Qm G (Pwi res) 0 0) 0 0 46 [(0, rv G.1 103), (2, .int x2), (3, .int x3), (4, .int x4)] [] M := by
  intro n
  induction n with
  | zero => intro M x2 x3 x4 res hf; rw [fX13_cities_l46] at hf; cases hf
  | succ n ih =>
    intro M x2 x3 x4 res hf
    rw [fX13_cities_l46] at hf
    refine g_iload h 3 rfl dX13_cities_46 ?_
    refine g_iload_n h 1 rfl dX13_cities_48 ?_
    refine g_ic_ge h 134 (by decide) hf dX13_cities_49 (fun hf => ?_) (fun hf => ?_)
    · refine g_iload_n h 2 rfl dX13_cities_134 ?_
      refine g_if_ne h 148 (by decide) hf dX13_cities_135 (fun hf => ?_) (fun hf => ?_)
      · refine g_iload_n h 2 rfl dX13_cities_148 ?_
        refine g_iconst h 1 (v := 1) (by decide) dX13_cities_149 ?_
        refine g_ic_ne h 163 (by decide) hf dX13_cities_150 (fun hf => ?_) (fun hf => ?_)
        · refine g_aload_n h 0 rfl dX13_cities_163 ?_
          refine gfX13_108 h (by decide : kd 103 = 11) dX13_cities_164 ?_
          refine g_bipush h 37 (v := 37) (by decide) dX13_cities_167 ?_
          refine g_iald h 186 (by decide : kd 133 = 20) (by decide) hf dX13_cities_169 (fun v9 hf => ?_)
          refine g_aload_n h 0 rfl dX13_cities_170 ?_
          refine gfX13_108 h (by decide : kd 103 = 11) dX13_cities_171 ?_
          refine g_bipush h 38 (v := 38) (by decide) dX13_cities_174 ?_
          refine g_iald h 186 (by decide : kd 133 = 20) (by decide) hf dX13_cities_176 (fun v10 hf => ?_)
          refine g_isub h dX13_cities_177 ?_
          cases hf
          exact g_iret h rfl ⟨rfl, rfl⟩ (Nat.le_refl _) (Nat.le_refl _) dX13_cities_178
        · refine g_aload_n h 0 rfl dX13_cities_153 ?_
          refine gfX13_108 h (by decide : kd 103 = 11) dX13_cities_154 ?_
          refine g_bipush h 33 (v := 33) (by decide) dX13_cities_157 ?_
          refine g_iald h 186 (by decide : kd 133 = 20) (by decide) hf dX13_cities_159 (fun v11 hf => ?_)
          refine g_goto h 178 (by decide) dX13_cities_160 ?_
          cases hf
          exact g_iret h rfl ⟨rfl, rfl⟩ (Nat.le_refl _) (Nat.le_refl _) dX13_cities_178
      · refine g_aload_n h 0 rfl dX13_cities_138 ?_
        refine gfX13_108 h (by decide : kd 103 = 11) dX13_cities_139 ?_
        refine g_bipush h 31 (v := 31) (by decide) dX13_cities_142 ?_
        refine g_iald h 186 (by decide : kd 133 = 20) (by decide) hf dX13_cities_144 (fun v12 hf => ?_)
        refine g_goto h 178 (by decide) dX13_cities_145 ?_
        cases hf
        exact g_iret h rfl ⟨rfl, rfl⟩ (Nat.le_refl _) (Nat.le_refl _) dX13_cities_178
    · refine g_aload_n h 0 rfl dX13_cities_52 ?_
      refine g_bipush h 60 (v := 60) (by decide) dX13_cities_53 ?_
      obtain ⟨v13, M14, hq, hf⟩ := b2_some hf
      refine g_callVwi (As := [.int 60]) (rest := []) h ceX13_draw mlX13_484 imX13_draw seX13_draw (by rfl) (kd_lt (by rw [(by decide : kd 103 = 11)]; decide)) (ent_11 (by decide : kd 103 = 11)) rfl rfl ⟨by decide, by decide⟩ ⟨by decide, by decide⟩ rfl dX13_cities_55 rfl (Nat.le_of_ble_eq_true rfl) (cmX13_draw hq) ?_
      refine g_istore h [(5, .int v13), (0, rv G.1 103), (2, .int x2), (3, .int x3), (4, .int x4)] (by decide) rfl dX13_cities_58 ?_
      refine g_aload_n h 1 rfl dX13_cities_60 ?_
      refine g_bipush h 9 (v := 9) (by decide) dX13_cities_61 ?_
      obtain ⟨v15, M16, hq, hf⟩ := b2_some hf
      refine g_callVwi (As := [.int 9]) (rest := []) h ceX13_draw mlX13_484 imX13_draw seX13_draw (by rfl) (kd_lt (by rw [(by decide : kd 103 = 11)]; decide)) (ent_11 (by decide : kd 103 = 11)) rfl rfl ⟨by decide, by decide⟩ ⟨by decide, by decide⟩ rfl dX13_cities_63 rfl (Nat.le_of_ble_eq_true rfl) (cmX13_draw hq) ?_
      refine g_if_ne h 93 (by decide) hf dX13_cities_66 (fun hf => ?_) (fun hf => ?_)
      · refine g_sub [1, 2, 3, 4, 0] rfl ?_
        exact kX13_cities_b93 h ih hf
      · refine g_aload_n h 1 rfl dX13_cities_69 ?_
        refine gfX13_108 h (by decide : kd 103 = 11) dX13_cities_70 ?_
        refine g_bipush h 35 (v := 35) (by decide) dX13_cities_73 ?_
        refine g_iconst h 1 (v := 1) (by decide) dX13_cities_75 ?_
        refine g_aload_n h 1 rfl dX13_cities_76 ?_
        refine gfX13_108 h (by decide : kd 103 = 11) dX13_cities_77 ?_
        refine g_bipush h 35 (v := 35) (by decide) dX13_cities_80 ?_
        refine g_iald h 186 (by decide : kd 133 = 20) (by decide) hf dX13_cities_82 (fun v24 hf => ?_)
        refine g_isub h dX13_cities_83 ?_
        refine g_iast h 186 (by decide : kd 133 = 20) (by decide) hf dX13_cities_84 (fun M25 hf => ?_)
        refine g_aload_n h 1 rfl dX13_cities_85 ?_
        refine gfX13_108 h (by decide : kd 103 = 11) dX13_cities_86 ?_
        refine g_bipush h 36 (v := 36) (by decide) dX13_cities_89 ?_
        refine g_iconst h 0 (v := 0) (by decide) dX13_cities_91 ?_
        refine g_iast h 186 (by decide : kd 133 = 20) (by decide) hf dX13_cities_92 (fun M26 hf => ?_)
        refine g_sub [1, 2, 3, 4, 0] rfl ?_
        exact kX13_cities_b93 h ih hf

theorem kX13_cities_e0 {G : GX} (h : OKm G cX13_cities RX13 6 (some .int) { frames := 7, cells := 0, slots := 0, locals := 166 }) {M : Mem} {x1 : Int32} {x2 : Int32} {x3 : Int32} {res : (Int32 × Mem)} (hf : fX13_cities M x1 x2 x3 = some res) : GG G (Qm G (Pwi res) 0 0) 0 0 0 [(0, rv G.1 103), (1, .int x1), (2, .int x2), (3, .int x3)] [] M := by
  unfold fX13_cities at hf
  refine g_aload_n h 0 rfl dX13_cities_0 ?_
  refine g_iconst h 0 (v := 0) (by decide) dX13_cities_1 ?_
  refine pfX13_141 h (by decide : kd 103 = 11) dX13_cities_2 ?_
  refine g_nmM hf (fun M1 hf => ?_)
  refine g_aload_n h 0 rfl dX13_cities_5 ?_
  refine g_iload_n h 3 rfl dX13_cities_6 ?_
  refine g_iconst h 2 (v := 2) (by decide) dX13_cities_7 ?_
  obtain ⟨v2, M3, hq, hf⟩ := b2_some hf
  refine g_callVwi (As := [.int x3, .int 2]) (rest := []) h ceX13_isWhat mlX13_414 imX13_isWhat seX13_isWhat (by rfl) (kd_lt (by rw [(by decide : kd 103 = 11)]; decide)) (ent_11 (by decide : kd 103 = 11)) rfl rfl ⟨by decide, by decide⟩ ⟨by decide, by decide⟩ rfl dX13_cities_8 rfl (Nat.le_of_ble_eq_true rfl) (cmX13_isWhat hq) ?_
  refine g_if_eq h 29 (by decide) hf dX13_cities_11 (fun hf => ?_) (fun hf => ?_)
  · refine g_iconst h 0 (v := 0) (by decide) dX13_cities_29 ?_
    cases hf
    exact g_iret h rfl ⟨rfl, rfl⟩ (Nat.le_refl _) (Nat.le_refl _) dX13_cities_30
  · refine g_aload_n h 0 rfl dX13_cities_14 ?_
    refine g_iload_n h 2 rfl dX13_cities_15 ?_
    refine g_iconst h 0 (v := 0) (by decide) dX13_cities_16 ?_
    refine g_bipush h 60 (v := 60) (by decide) dX13_cities_17 ?_
    obtain ⟨v4, hq, hf⟩ := bd_some hf
    refine g_callSri (As := [.int x2, .int 0, .int 60]) (rest := [rv G.1 103]) h ceX13_within mlX13_407 smX13_within rfl rfl ⟨by decide, by decide⟩ ⟨by decide, by decide⟩ rfl dX13_cities_19 rfl (Nat.le_of_ble_eq_true rfl) (cmX13_within hq) ?_
    refine g_iconst h 2 (v := 2) (by decide) dX13_cities_22 ?_
    obtain ⟨v5, M6, hq, hf⟩ := b2_some hf
    refine g_callVwi (As := [.int v4, .int 2]) (rest := []) h ceX13_right mlX13_326 imX13_right seX13_right (by rfl) (kd_lt (by rw [(by decide : kd 103 = 11)]; decide)) (ent_11 (by decide : kd 103 = 11)) rfl rfl ⟨by decide, by decide⟩ ⟨by decide, by decide⟩ rfl dX13_cities_23 rfl (Nat.le_of_ble_eq_true rfl) (cmX13_right hq) ?_
    refine g_if_ne h 31 (by decide) hf dX13_cities_26 (fun hf => ?_) (fun hf => ?_)
    · refine g_aload_n h 0 rfl dX13_cities_31 ?_
      refine g_iconst h 0 (v := 0) (by decide) dX13_cities_32 ?_
      refine g_bipush h 31 (v := 31) (by decide) dX13_cities_33 ?_
      obtain ⟨M7, hq, hf⟩ := bd_some hf
      refine g_callVwv (As := [.int 0, .int 31]) (rest := []) h ceX13_lays0 mlX13_432 imX13_lays0 seX13_lays0 (by rfl) (kd_lt (by rw [(by decide : kd 103 = 11)]; decide)) (ent_11 (by decide : kd 103 = 11)) rfl rfl ⟨by decide, by decide⟩ ⟨by decide, by decide⟩ rfl dX13_cities_35 rfl (Nat.le_of_ble_eq_true rfl) (cmX13_lays0 hq) ?_
      refine g_aload_n h 0 rfl dX13_cities_38 ?_
      refine g_iload_n h 1 rfl dX13_cities_39 ?_
      refine pfX13_480 h (by decide : kd 103 = 11) dX13_cities_40 ?_
      refine g_nmM hf (fun M8 hf => ?_)
      refine g_iconst h 0 (v := 0) (by decide) dX13_cities_43 ?_
      refine g_istore h [(4, .int 0), (0, rv G.1 103), (1, .int x1), (2, .int x2), (3, .int x3)] (by decide) rfl dX13_cities_44 ?_
      refine g_sub [1, 3, 4, 0] rfl ?_
      exact kX13_cities_l46 h _ _ _ _ _ _ hf
    · refine g_iconst h 0 (v := 0) (by decide) dX13_cities_29 ?_
      cases hf
      exact g_iret h rfl ⟨rfl, rfl⟩ (Nat.le_refl _) (Nat.le_refl _) dX13_cities_30

theorem cmX13_cities {l : Launch} {w : WX} {M : Mem} {x1 : Int32} {x2 : Int32} {x3 : Int32} {res : (Int32 × Mem)} (hf : fX13_cities M x1 x2 x3 = some res) : CM l w yX13_cities cX13_cities 6 (some .int) { frames := 7, cells := 0, slots := 0, locals := 166 } 0 0 [rv w 103, .int x1, .int x2, .int x3] M (Pwi res) := by
  refine CM_of (by decide) (by decide) (fun G hw hl h => ?_)
  subst hw
  exact kX13_cities_e0 h hf

-- X13_isOpen
theorem kX13_isOpen_e0 {G : GX} (h : OKm G cX13_isOpen RX13 1 (some .boolean) { frames := 0, cells := 0, slots := 0, locals := 0 }) {M : Mem} {x0 : Int32} {res : Int32} (hf : fX13_isOpen x0 = some res) : GG G (Qm G (Pri res M) 0 0) 0 0 0 [(0, .int x0)] [] M := by
  unfold fX13_isOpen at hf
  refine g_iload_n h 0 rfl dX13_isOpen_0 ?_
  refine g_bipush h 14 (v := 14) (by decide) dX13_isOpen_1 ?_
  refine g_ic_lt h 10 (by decide) hf dX13_isOpen_3 (fun hf => ?_) (fun hf => ?_)
  · refine g_iconst h 0 (v := 0) (by decide) dX13_isOpen_10 ?_
    cases hf
    exact g_zret h (by decide) rfl ⟨rfl, rfl⟩ (Nat.le_refl _) (Nat.le_refl _) dX13_isOpen_11
  · refine g_iconst h 1 (v := 1) (by decide) dX13_isOpen_6 ?_
    refine g_goto h 11 (by decide) dX13_isOpen_7 ?_
    cases hf
    exact g_zret h (by decide) rfl ⟨rfl, rfl⟩ (Nat.le_refl _) (Nat.le_refl _) dX13_isOpen_11

theorem cmX13_isOpen {l : Launch} {w : WX} {M : Mem} {x0 : Int32} {res : Int32} (hf : fX13_isOpen x0 = some res) : CM l w yX13_isOpen cX13_isOpen 1 (some .boolean) { frames := 0, cells := 0, slots := 0, locals := 0 } 0 0 [.int x0] M (Pri res M) := by
  refine CM_of (by decide) (by decide) (fun G hw hl h => ?_)
  subst hw
  exact kX13_isOpen_e0 h hf

-- X13_strength
theorem kX13_strength_e0 {G : GX} (h : OKm G cX13_strength RX13 1 (some .int) { frames := 0, cells := 0, slots := 0, locals := 0 }) {M : Mem} {x0 : Int32} {res : Int32} (hf : fX13_strength x0 = some res) : GG G (Qm G (Pri res M) 0 0) 0 0 0 [(0, .int x0)] [] M := by
  unfold fX13_strength at hf
  refine g_iload_n h 0 rfl dX13_strength_0 ?_
  refine g_iconst h 5 (v := 5) (by decide) dX13_strength_1 ?_
  refine g_ic_ne h 9 (by decide) hf dX13_strength_2 (fun hf => ?_) (fun hf => ?_)
  · refine g_iload_n h 0 rfl dX13_strength_9 ?_
    refine g_iconst h 4 (v := 4) (by decide) dX13_strength_10 ?_
    refine g_ic_ne h 18 (by decide) hf dX13_strength_11 (fun hf => ?_) (fun hf => ?_)
    · refine g_iload_n h 0 rfl dX13_strength_18 ?_
      refine g_iconst h 3 (v := 3) (by decide) dX13_strength_19 ?_
      refine g_ic_ne h 27 (by decide) hf dX13_strength_20 (fun hf => ?_) (fun hf => ?_)
      · refine g_iload_n h 0 rfl dX13_strength_27 ?_
        refine g_bipush h 6 (v := 6) (by decide) dX13_strength_28 ?_
        refine g_ic_eq h 39 (by decide) hf dX13_strength_30 (fun hf => ?_) (fun hf => ?_)
        · refine g_iconst h 4 (v := 4) (by decide) dX13_strength_39 ?_
          refine g_goto h 61 (by decide) dX13_strength_40 ?_
          cases hf
          exact g_iret h rfl ⟨rfl, rfl⟩ (Nat.le_refl _) (Nat.le_refl _) dX13_strength_61
        · refine g_iload_n h 0 rfl dX13_strength_33 ?_
          refine g_bipush h 7 (v := 7) (by decide) dX13_strength_34 ?_
          refine g_ic_ne h 43 (by decide) hf dX13_strength_36 (fun hf => ?_) (fun hf => ?_)
          · refine g_iload_n h 0 rfl dX13_strength_43 ?_
            refine g_bipush h 8 (v := 8) (by decide) dX13_strength_44 ?_
            refine g_ic_eq h 55 (by decide) hf dX13_strength_46 (fun hf => ?_) (fun hf => ?_)
            · refine g_iconst h 5 (v := 5) (by decide) dX13_strength_55 ?_
              refine g_goto h 61 (by decide) dX13_strength_56 ?_
              cases hf
              exact g_iret h rfl ⟨rfl, rfl⟩ (Nat.le_refl _) (Nat.le_refl _) dX13_strength_61
            · refine g_iload_n h 0 rfl dX13_strength_49 ?_
              refine g_bipush h 9 (v := 9) (by decide) dX13_strength_50 ?_
              refine g_ic_ne h 59 (by decide) hf dX13_strength_52 (fun hf => ?_) (fun hf => ?_)
              · refine g_bipush h 6 (v := 6) (by decide) dX13_strength_59 ?_
                cases hf
                exact g_iret h rfl ⟨rfl, rfl⟩ (Nat.le_refl _) (Nat.le_refl _) dX13_strength_61
              · refine g_iconst h 5 (v := 5) (by decide) dX13_strength_55 ?_
                refine g_goto h 61 (by decide) dX13_strength_56 ?_
                cases hf
                exact g_iret h rfl ⟨rfl, rfl⟩ (Nat.le_refl _) (Nat.le_refl _) dX13_strength_61
          · refine g_iconst h 4 (v := 4) (by decide) dX13_strength_39 ?_
            refine g_goto h 61 (by decide) dX13_strength_40 ?_
            cases hf
            exact g_iret h rfl ⟨rfl, rfl⟩ (Nat.le_refl _) (Nat.le_refl _) dX13_strength_61
      · refine g_iconst h 3 (v := 3) (by decide) dX13_strength_23 ?_
        refine g_goto h 61 (by decide) dX13_strength_24 ?_
        cases hf
        exact g_iret h rfl ⟨rfl, rfl⟩ (Nat.le_refl _) (Nat.le_refl _) dX13_strength_61
    · refine g_iconst h 2 (v := 2) (by decide) dX13_strength_14 ?_
      refine g_goto h 61 (by decide) dX13_strength_15 ?_
      cases hf
      exact g_iret h rfl ⟨rfl, rfl⟩ (Nat.le_refl _) (Nat.le_refl _) dX13_strength_61
  · refine g_iconst h 1 (v := 1) (by decide) dX13_strength_5 ?_
    refine g_goto h 61 (by decide) dX13_strength_6 ?_
    cases hf
    exact g_iret h rfl ⟨rfl, rfl⟩ (Nat.le_refl _) (Nat.le_refl _) dX13_strength_61

theorem cmX13_strength {l : Launch} {w : WX} {M : Mem} {x0 : Int32} {res : Int32} (hf : fX13_strength x0 = some res) : CM l w yX13_strength cX13_strength 1 (some .int) { frames := 0, cells := 0, slots := 0, locals := 0 } 0 0 [.int x0] M (Pri res M) := by
  refine CM_of (by decide) (by decide) (fun G hw hl h => ?_)
  subst hw
  exact kX13_strength_e0 h hf

-- X13_puts
theorem kX13_puts_e0 {G : GX} (h : OKm G cX13_puts RX13 2 none { frames := 0, cells := 0, slots := 0, locals := 0 }) {M : Mem} {x1 : Int32} {res : Mem} (hf : fX13_puts M x1 = some res) : GG G (Qm G (Pwv res) 0 0) 0 0 0 [(0, rv G.1 103), (1, .int x1)] [] M := by
  unfold fX13_puts at hf
  refine g_aload_n h 0 rfl dX13_puts_0 ?_
  refine gfX13_98 h (by decide : kd 103 = 11) dX13_puts_1 ?_
  refine g_aload_n h 0 rfl dX13_puts_4 ?_
  refine gfX13_217 h (by decide : kd 103 = 11) dX13_puts_5 ?_
  refine g_nmI hf (fun v1 hf => ?_)
  refine g_iload_n h 1 rfl dX13_puts_8 ?_
  refine g_iast h 1400 (by decide : kd 130 = 20) (by decide) hf dX13_puts_9 (fun M2 hf => ?_)
  refine g_aload_n h 0 rfl dX13_puts_10 ?_
  refine g_dup h rfl dX13_puts_11 ?_
  refine gfX13_217 h (by decide : kd 103 = 11) dX13_puts_12 ?_
  refine g_nmI hf (fun v3 hf => ?_)
  refine g_iconst h 1 (v := 1) (by decide) dX13_puts_15 ?_
  refine g_iadd h dX13_puts_16 ?_
  refine pfX13_217 h (by decide : kd 103 = 11) dX13_puts_17 ?_
  refine g_nmM hf (fun M4 hf => ?_)
  cases hf
  exact g_vret h rfl ⟨rfl, rfl⟩ (Nat.le_refl _) (Nat.le_refl _) dX13_puts_20

theorem cmX13_puts {l : Launch} {w : WX} {M : Mem} {x1 : Int32} {res : Mem} (hf : fX13_puts M x1 = some res) : CM l w yX13_puts cX13_puts 2 none { frames := 0, cells := 0, slots := 0, locals := 0 } 0 0 [rv w 103, .int x1] M (Pwv res) := by
  refine CM_of (by decide) (by decide) (fun G hw hl h => ?_)
  subst hw
  exact kX13_puts_e0 h hf

-- X13_copies
theorem kX13_copies_l2 {G : GX} (h : OKm G cX13_copies RX13 4 none { frames := 0, cells := 0, slots := 0, locals := 0 }) : ∀ (n : Nat) (M : Mem) (x1 : Nat) (x2 : Nat) (x3 : Int32) (res : Mem), fX13_copies_l2 n M x1 x2 x3 = some res → GG G (Qm G (Pwv res) 0 0) 0 0 2 [(1, rv G.1 x1), (2, rv G.1 x2), (3, .int x3)] [] M := by
  intro n
  induction n with
  | zero => intro M x1 x2 x3 res hf; rw [fX13_copies_l2] at hf; cases hf
  | succ n ih =>
    intro M x1 x2 x3 res hf
    rw [fX13_copies_l2] at hf
    obtain ⟨hk_x1, hf⟩ := pre_ck hf
    obtain ⟨hk_x2, hf⟩ := pre_ck hf
    refine g_iload_n h 2 rfl dX13_copies_2 ?_
    refine g_aload_n h 0 rfl dX13_copies_3 ?_
    refine g_ilen h (ln x1) (z := Int32.ofNat (ln x1)) hk_x1 rfl rfl dX13_copies_4 ?_
    refine g_ic_ge h 20 (by decide) hf dX13_copies_5 (fun hf => ?_) (fun hf => ?_)
    · cases hf
      exact g_vret h rfl ⟨rfl, rfl⟩ (Nat.le_refl _) (Nat.le_refl _) dX13_copies_20
    · refine g_aload_n h 1 rfl dX13_copies_8 ?_
      refine g_iload_n h 2 rfl dX13_copies_9 ?_
      refine g_aload_n h 0 rfl dX13_copies_10 ?_
      refine g_iload_n h 2 rfl dX13_copies_11 ?_
      refine g_iald h (ln x1) hk_x1 rfl hf dX13_copies_12 (fun v1 hf => ?_)
      refine g_iast h (ln x2) hk_x2 rfl hf dX13_copies_13 (fun M2 hf => ?_)
      refine g_iinc h 3 2 rfl (v := x3 + 1) rfl [(3, .int (x3 + 1)), (1, rv G.1 x1), (2, rv G.1 x2)] (by decide) rfl dX13_copies_14 ?_
      refine g_nmV hf (fun v3 hf => ?_)
      refine g_goto h 2 (by decide) dX13_copies_17 ?_
      refine g_sub [1, 2, 0] rfl ?_
      exact ih _ _ _ _ _ hf

theorem kX13_copies_e0 {G : GX} (h : OKm G cX13_copies RX13 4 none { frames := 0, cells := 0, slots := 0, locals := 0 }) {M : Mem} {x1 : Nat} {x2 : Nat} {res : Mem} (hf : fX13_copies M x1 x2 = some res) : GG G (Qm G (Pwv res) 0 0) 0 0 0 [(0, rv G.1 103), (1, rv G.1 x1), (2, rv G.1 x2)] [] M := by
  unfold fX13_copies at hf
  obtain ⟨hk_x1, hf⟩ := pre_ck hf
  obtain ⟨hk_x2, hf⟩ := pre_ck hf
  refine g_iconst h 0 (v := 0) (by decide) dX13_copies_0 ?_
  refine g_istore_n h rfl [(3, .int 0), (0, rv G.1 103), (1, rv G.1 x1), (2, rv G.1 x2)] (by decide) rfl dX13_copies_1 ?_
  refine g_sub [2, 3, 0] rfl ?_
  exact kX13_copies_l2 h _ _ _ _ _ _ hf

theorem cmX13_copies {l : Launch} {w : WX} {M : Mem} {x1 : Nat} {x2 : Nat} {res : Mem} (hf : fX13_copies M x1 x2 = some res) : CM l w yX13_copies cX13_copies 4 none { frames := 0, cells := 0, slots := 0, locals := 0 } 0 0 [rv w 103, rv w x1, rv w x2] M (Pwv res) := by
  refine CM_of (by decide) (by decide) (fun G hw hl h => ?_)
  subst hw
  exact kX13_copies_e0 h hf

-- X13_goesYears
theorem kX13_goesYears_l2 {G : GX} (h : OKm G cX13_goesYears RX13 4 none { frames := 8, cells := 0, slots := 0, locals := 188 }) : ∀ (n : Nat) (M : Mem) (x1 : Int32) (x2 : Int32) (x3 : Int32) (res : Mem), fX13_goesYears_l2 n M x1 x2 x3 = some res → GG G (Qm G (Pwv res) 0 0) 0 0 2 [(0, rv G.1 103), (1, .int x1), (2, .int x2), (3, .int x3)] [] M := by
  intro n
  induction n with
  | zero => intro M x1 x2 x3 res hf; rw [fX13_goesYears_l2] at hf; cases hf
  | succ n ih =>
    intro M x1 x2 x3 res hf
    rw [fX13_goesYears_l2] at hf
    refine g_iload_n h 3 rfl dX13_goesYears_2 ?_
    refine g_iload_n h 2 rfl dX13_goesYears_3 ?_
    refine g_ic_ge h 20 (by decide) hf dX13_goesYears_4 (fun hf => ?_) (fun hf => ?_)
    · cases hf
      exact g_vret h rfl ⟨rfl, rfl⟩ (Nat.le_refl _) (Nat.le_refl _) dX13_goesYears_20
    · refine g_aload_n h 0 rfl dX13_goesYears_7 ?_
      refine g_iload_n h 1 rfl dX13_goesYears_8 ?_
      refine g_bipush h (-2) (v := (-2)) (by decide) dX13_goesYears_9 ?_
      obtain ⟨M1, hq, hf⟩ := bd_some hf
      refine g_callVwv (As := [.int x1, .int (-2)]) (rest := []) h ceX13_goesBy mlX13_404 imX13_goesBy seX13_goesBy (by rfl) (kd_lt (by rw [(by decide : kd 103 = 11)]; decide)) (ent_11 (by decide : kd 103 = 11)) rfl rfl ⟨by decide, by decide⟩ ⟨by decide, by decide⟩ rfl dX13_goesYears_11 rfl (Nat.le_of_ble_eq_true rfl) (cmX13_goesBy hq) ?_
      refine g_iinc h 3 3 rfl (v := x3 + 1) rfl [(3, .int (x3 + 1)), (0, rv G.1 103), (1, .int x1), (2, .int x2)] (by decide) rfl dX13_goesYears_14 ?_
      refine g_nmV hf (fun v2 hf => ?_)
      refine g_goto h 2 (by decide) dX13_goesYears_17 ?_
      refine g_sub [1, 2, 3, 0] rfl ?_
      exact ih _ _ _ _ _ hf

theorem kX13_goesYears_e0 {G : GX} (h : OKm G cX13_goesYears RX13 4 none { frames := 8, cells := 0, slots := 0, locals := 188 }) {M : Mem} {x1 : Int32} {x2 : Int32} {res : Mem} (hf : fX13_goesYears M x1 x2 = some res) : GG G (Qm G (Pwv res) 0 0) 0 0 0 [(0, rv G.1 103), (1, .int x1), (2, .int x2)] [] M := by
  unfold fX13_goesYears at hf
  refine g_iconst h 0 (v := 0) (by decide) dX13_goesYears_0 ?_
  refine g_istore_n h rfl [(3, .int 0), (0, rv G.1 103), (1, .int x1), (2, .int x2)] (by decide) rfl dX13_goesYears_1 ?_
  refine g_sub [1, 2, 3, 0] rfl ?_
  exact kX13_goesYears_l2 h _ _ _ _ _ _ hf

theorem cmX13_goesYears {l : Launch} {w : WX} {M : Mem} {x1 : Int32} {x2 : Int32} {res : Mem} (hf : fX13_goesYears M x1 x2 = some res) : CM l w yX13_goesYears cX13_goesYears 4 none { frames := 8, cells := 0, slots := 0, locals := 188 } 0 0 [rv w 103, .int x1, .int x2] M (Pwv res) := by
  refine CM_of (by decide) (by decide) (fun G hw hl h => ?_)
  subst hw
  exact kX13_goesYears_e0 h hf

-- X13_cost
theorem kX13_cost_l61 {G : GX} (h : OKm G cX13_cost RX13 4 (some .int) { frames := 9, cells := 0, slots := 0, locals := 211 }) : ∀ (n : Nat) (M : Mem) (x1 : Int32) (x2 : Int32) (x3 : Int32) (res : (Int32 × Mem)), fX13_cost_l61 n M x1 x2 x3 = some res → GG G (Qm G (Pwi res) 0 0) 0 0 61 [(0, rv G.1 103), (1, .int x1), (2, .int x2), (3, .int x3)] [] M := by
  intro n
  induction n with
  | zero => intro M x1 x2 x3 res hf; rw [fX13_cost_l61] at hf; cases hf
  | succ n ih =>
    intro M x1 x2 x3 res hf
    rw [fX13_cost_l61] at hf
    refine g_iload_n h 3 rfl dX13_cost_61 ?_
    refine g_iload_n h 1 rfl dX13_cost_62 ?_
    refine g_ic_ge h 116 (by decide) hf dX13_cost_63 (fun hf => ?_) (fun hf => ?_)
    · refine g_aload_n h 0 rfl dX13_cost_116 ?_
      refine gfX13_108 h (by decide : kd 103 = 11) dX13_cost_117 ?_
      refine g_bipush h 31 (v := 31) (by decide) dX13_cost_120 ?_
      refine g_iald h 186 (by decide : kd 133 = 20) (by decide) hf dX13_cost_122 (fun v11 hf => ?_)
      refine g_aload_n h 0 rfl dX13_cost_123 ?_
      refine gfX13_108 h (by decide : kd 103 = 11) dX13_cost_124 ?_
      refine g_bipush h 33 (v := 33) (by decide) dX13_cost_127 ?_
      refine g_iald h 186 (by decide : kd 133 = 20) (by decide) hf dX13_cost_129 (fun v12 hf => ?_)
      refine g_isub h dX13_cost_130 ?_
      refine g_iload_n h 2 rfl dX13_cost_131 ?_
      refine g_isub h dX13_cost_132 ?_
      cases hf
      exact g_iret h rfl ⟨rfl, rfl⟩ (Nat.le_refl _) (Nat.le_refl _) dX13_cost_133
    · refine g_aload_n h 0 rfl dX13_cost_66 ?_
      refine g_bipush h 31 (v := 31) (by decide) dX13_cost_67 ?_
      refine g_aload_n h 0 rfl dX13_cost_69 ?_
      refine g_aload_n h 0 rfl dX13_cost_70 ?_
      refine gfX13_108 h (by decide : kd 103 = 11) dX13_cost_71 ?_
      refine g_bipush h 34 (v := 34) (by decide) dX13_cost_74 ?_
      refine g_iald h 186 (by decide : kd 133 = 20) (by decide) hf dX13_cost_76 (fun v13 hf => ?_)
      obtain ⟨v14, hq, hf⟩ := bd_some hf
      refine g_callVri (As := [.int v13]) (rest := [.int 31, rv G.1 103]) h ceX13_harvestOf mlX13_387 imX13_harvestOf seX13_harvestOf (by rfl) (kd_lt (by rw [(by decide : kd 103 = 11)]; decide)) (ent_11 (by decide : kd 103 = 11)) rfl rfl ⟨by decide, by decide⟩ ⟨by decide, by decide⟩ rfl dX13_cost_77 rfl (Nat.le_of_ble_eq_true rfl) (cmX13_harvestOf hq) ?_
      obtain ⟨M15, hq, hf⟩ := bd_some hf
      refine g_callVwv (As := [.int 31, .int v14]) (rest := []) h ceX13_gathers mlX13_390 imX13_gathers seX13_gathers (by rfl) (kd_lt (by rw [(by decide : kd 103 = 11)]; decide)) (ent_11 (by decide : kd 103 = 11)) rfl rfl ⟨by decide, by decide⟩ ⟨by decide, by decide⟩ rfl dX13_cost_80 rfl (Nat.le_of_ble_eq_true rfl) (cmX13_gathers hq) ?_
      refine g_aload_n h 0 rfl dX13_cost_83 ?_
      refine g_bipush h 31 (v := 31) (by decide) dX13_cost_84 ?_
      refine g_aload_n h 0 rfl dX13_cost_86 ?_
      refine g_bipush h 31 (v := 31) (by decide) dX13_cost_87 ?_
      refine g_aload_n h 0 rfl dX13_cost_89 ?_
      refine gfX13_108 h (by decide : kd 103 = 11) dX13_cost_90 ?_
      refine g_bipush h 35 (v := 35) (by decide) dX13_cost_93 ?_
      refine g_iald h 186 (by decide : kd 133 = 20) (by decide) hf dX13_cost_95 (fun v16 hf => ?_)
      obtain ⟨v17, hq, hf⟩ := bd_some hf
      refine g_callVri (As := [.int 31, .int v16]) (rest := [.int 31, rv G.1 103]) h ceX13_wayOf mlX13_393 imX13_wayOf seX13_wayOf (by rfl) (kd_lt (by rw [(by decide : kd 103 = 11)]; decide)) (ent_11 (by decide : kd 103 = 11)) rfl rfl ⟨by decide, by decide⟩ ⟨by decide, by decide⟩ rfl dX13_cost_96 rfl (Nat.le_of_ble_eq_true rfl) (cmX13_wayOf hq) ?_
      obtain ⟨v18, M19, hq, hf⟩ := b2_some hf
      refine g_callVwi (As := [.int 31, .int v17]) (rest := []) h ceX13_does mlX13_396 imX13_does seX13_does (by rfl) (kd_lt (by rw [(by decide : kd 103 = 11)]; decide)) (ent_11 (by decide : kd 103 = 11)) rfl rfl ⟨by decide, by decide⟩ ⟨by decide, by decide⟩ rfl dX13_cost_99 rfl (Nat.le_of_ble_eq_true rfl) (cmX13_does hq) ?_
      refine g_pop h rfl dX13_cost_102 ?_
      refine g_aload_n h 0 rfl dX13_cost_103 ?_
      refine g_bipush h 31 (v := 31) (by decide) dX13_cost_104 ?_
      refine g_iconst h 0 (v := 0) (by decide) dX13_cost_106 ?_
      obtain ⟨M20, hq, hf⟩ := bd_some hf
      refine g_callVwv (As := [.int 31, .int 0]) (rest := []) h ceX13_ends mlX13_400 imX13_ends seX13_ends (by rfl) (kd_lt (by rw [(by decide : kd 103 = 11)]; decide)) (ent_11 (by decide : kd 103 = 11)) rfl rfl ⟨by decide, by decide⟩ ⟨by decide, by decide⟩ rfl dX13_cost_107 rfl (Nat.le_of_ble_eq_true rfl) (cmX13_ends hq) ?_
      refine g_iinc h 3 3 rfl (v := x3 + 1) rfl [(3, .int (x3 + 1)), (0, rv G.1 103), (1, .int x1), (2, .int x2)] (by decide) rfl dX13_cost_110 ?_
      refine g_nmV hf (fun v21 hf => ?_)
      refine g_goto h 61 (by decide) dX13_cost_113 ?_
      refine g_sub [1, 2, 3, 0] rfl ?_
      exact ih _ _ _ _ _ hf

theorem kX13_cost_e0 {G : GX} (h : OKm G cX13_cost RX13 4 (some .int) { frames := 9, cells := 0, slots := 0, locals := 211 }) {M : Mem} {x1 : Int32} {res : (Int32 × Mem)} (hf : fX13_cost M x1 = some res) : GG G (Qm G (Pwi res) 0 0) 0 0 0 [(0, rv G.1 103), (1, .int x1)] [] M := by
  unfold fX13_cost at hf
  refine g_aload_n h 0 rfl dX13_cost_0 ?_
  refine g_iconst h 0 (v := 0) (by decide) dX13_cost_1 ?_
  refine pfX13_141 h (by decide : kd 103 = 11) dX13_cost_2 ?_
  refine g_nmM hf (fun M1 hf => ?_)
  refine g_aload_n h 0 rfl dX13_cost_5 ?_
  refine g_iload_n h 1 rfl dX13_cost_6 ?_
  refine g_iconst h 1 (v := 1) (by decide) dX13_cost_7 ?_
  refine g_bipush h 60 (v := 60) (by decide) dX13_cost_8 ?_
  obtain ⟨v2, hq, hf⟩ := bd_some hf
  refine g_callSri (As := [.int x1, .int 1, .int 60]) (rest := [rv G.1 103]) h ceX13_within mlX13_407 smX13_within rfl rfl ⟨by decide, by decide⟩ ⟨by decide, by decide⟩ rfl dX13_cost_10 rfl (Nat.le_of_ble_eq_true rfl) (cmX13_within hq) ?_
  refine g_iconst h 1 (v := 1) (by decide) dX13_cost_13 ?_
  obtain ⟨v3, M4, hq, hf⟩ := b2_some hf
  refine g_callVwi (As := [.int v2, .int 1]) (rest := []) h ceX13_right mlX13_326 imX13_right seX13_right (by rfl) (kd_lt (by rw [(by decide : kd 103 = 11)]; decide)) (ent_11 (by decide : kd 103 = 11)) rfl rfl ⟨by decide, by decide⟩ ⟨by decide, by decide⟩ rfl dX13_cost_14 rfl (Nat.le_of_ble_eq_true rfl) (cmX13_right hq) ?_
  refine g_if_ne h 22 (by decide) hf dX13_cost_17 (fun hf => ?_) (fun hf => ?_)
  · refine g_aload_n h 0 rfl dX13_cost_22 ?_
    refine g_iconst h 0 (v := 0) (by decide) dX13_cost_23 ?_
    refine g_bipush h 31 (v := 31) (by decide) dX13_cost_24 ?_
    obtain ⟨M5, hq, hf⟩ := bd_some hf
    refine g_callVwv (As := [.int 0, .int 31]) (rest := []) h ceX13_lays0 mlX13_432 imX13_lays0 seX13_lays0 (by rfl) (kd_lt (by rw [(by decide : kd 103 = 11)]; decide)) (ent_11 (by decide : kd 103 = 11)) rfl rfl ⟨by decide, by decide⟩ ⟨by decide, by decide⟩ rfl dX13_cost_26 rfl (Nat.le_of_ble_eq_true rfl) (cmX13_lays0 hq) ?_
    refine g_aload_n h 0 rfl dX13_cost_29 ?_
    refine g_bipush h 31 (v := 31) (by decide) dX13_cost_30 ?_
    refine g_iload_n h 1 rfl dX13_cost_32 ?_
    obtain ⟨M6, hq, hf⟩ := bd_some hf
    refine g_callVwv (As := [.int 31, .int x1]) (rest := []) h ceX13_goesYears mlX13_429 imX13_goesYears seX13_goesYears (by rfl) (kd_lt (by rw [(by decide : kd 103 = 11)]; decide)) (ent_11 (by decide : kd 103 = 11)) rfl rfl ⟨by decide, by decide⟩ ⟨by decide, by decide⟩ rfl dX13_cost_33 rfl (Nat.le_of_ble_eq_true rfl) (cmX13_goesYears hq) ?_
    refine g_aload_n h 0 rfl dX13_cost_36 ?_
    refine gfX13_108 h (by decide : kd 103 = 11) dX13_cost_37 ?_
    refine g_bipush h 31 (v := 31) (by decide) dX13_cost_40 ?_
    refine g_iald h 186 (by decide : kd 133 = 20) (by decide) hf dX13_cost_42 (fun v7 hf => ?_)
    refine g_aload_n h 0 rfl dX13_cost_43 ?_
    refine gfX13_108 h (by decide : kd 103 = 11) dX13_cost_44 ?_
    refine g_bipush h 33 (v := 33) (by decide) dX13_cost_47 ?_
    refine g_iald h 186 (by decide : kd 133 = 20) (by decide) hf dX13_cost_49 (fun v8 hf => ?_)
    refine g_isub h dX13_cost_50 ?_
    refine g_nmI hf (fun v9 hf => ?_)
    refine g_istore_n h rfl [(2, .int v9), (0, rv G.1 103), (1, .int x1)] (by decide) rfl dX13_cost_51 ?_
    refine g_aload_n h 1 rfl dX13_cost_52 ?_
    refine g_iconst h 0 (v := 0) (by decide) dX13_cost_53 ?_
    refine g_bipush h 31 (v := 31) (by decide) dX13_cost_54 ?_
    obtain ⟨M10, hq, hf⟩ := bd_some hf
    refine g_callVwv (As := [.int 0, .int 31]) (rest := []) h ceX13_lays0 mlX13_432 imX13_lays0 seX13_lays0 (by rfl) (kd_lt (by rw [(by decide : kd 103 = 11)]; decide)) (ent_11 (by decide : kd 103 = 11)) rfl rfl ⟨by decide, by decide⟩ ⟨by decide, by decide⟩ rfl dX13_cost_56 rfl (Nat.le_of_ble_eq_true rfl) (cmX13_lays0 hq) ?_
    refine g_iconst h 0 (v := 0) (by decide) dX13_cost_59 ?_
    refine g_istore_n h rfl [(3, .int 0), (2, .int v9), (0, rv G.1 103), (1, .int x1)] (by decide) rfl dX13_cost_60 ?_
    refine g_sub [2, 3, 1, 0] rfl ?_
    exact kX13_cost_l61 h _ _ _ _ _ _ hf
  · refine g_iconst h 0 (v := 0) (by decide) dX13_cost_20 ?_
    cases hf
    exact g_iret h rfl ⟨rfl, rfl⟩ (Nat.le_refl _) (Nat.le_refl _) dX13_cost_21

theorem cmX13_cost {l : Launch} {w : WX} {M : Mem} {x1 : Int32} {res : (Int32 × Mem)} (hf : fX13_cost M x1 = some res) : CM l w yX13_cost cX13_cost 4 (some .int) { frames := 9, cells := 0, slots := 0, locals := 211 } 0 0 [rv w 103, .int x1] M (Pwi res) := by
  refine CM_of (by decide) (by decide) (fun G hw hl h => ?_)
  subst hw
  exact kX13_cost_e0 h hf

-- X13_count
theorem kX13_count_e0 {G : GX} (h : OKm G cX13_count RX13 2 (some .int) { frames := 1, cells := 0, slots := 0, locals := 22 }) {M : Mem} {x1 : Int32} {res : (Int32 × Mem)} (hf : fX13_count M x1 = some res) : GG G (Qm G (Pwi res) 0 0) 0 0 0 [(0, rv G.1 103), (1, .int x1)] [] M := by
  unfold fX13_count at hf
  refine g_aload_n h 0 rfl dX13_count_0 ?_
  refine g_iconst h 0 (v := 0) (by decide) dX13_count_1 ?_
  refine pfX13_141 h (by decide : kd 103 = 11) dX13_count_2 ?_
  refine g_nmM hf (fun M1 hf => ?_)
  refine g_aload_n h 0 rfl dX13_count_5 ?_
  refine g_iload_n h 1 rfl dX13_count_6 ?_
  refine g_iconst h 0 (v := 0) (by decide) dX13_count_7 ?_
  refine g_bipush h 18 (v := 18) (by decide) dX13_count_8 ?_
  obtain ⟨v2, hq, hf⟩ := bd_some hf
  refine g_callSri (As := [.int x1, .int 0, .int 18]) (rest := [rv G.1 103]) h ceX13_within mlX13_407 smX13_within rfl rfl ⟨by decide, by decide⟩ ⟨by decide, by decide⟩ rfl dX13_count_10 rfl (Nat.le_of_ble_eq_true rfl) (cmX13_within hq) ?_
  refine g_iconst h 1 (v := 1) (by decide) dX13_count_13 ?_
  obtain ⟨v3, M4, hq, hf⟩ := b2_some hf
  refine g_callVwi (As := [.int v2, .int 1]) (rest := []) h ceX13_right mlX13_326 imX13_right seX13_right (by rfl) (kd_lt (by rw [(by decide : kd 103 = 11)]; decide)) (ent_11 (by decide : kd 103 = 11)) rfl rfl ⟨by decide, by decide⟩ ⟨by decide, by decide⟩ rfl dX13_count_14 rfl (Nat.le_of_ble_eq_true rfl) (cmX13_right hq) ?_
  refine g_if_ne h 22 (by decide) hf dX13_count_17 (fun hf => ?_) (fun hf => ?_)
  · refine g_iload_n h 1 rfl dX13_count_22 ?_
    by_cases hx0 : x1 = 0
    · rw [if_pos hx0] at hf
      refine g_tabIn h (off := 77) 100 (by rw [hx0]; decide) (by rw [hx0]; decide) (by rw [hx0]; decide) (by decide) dX13_count_23 ?_
      refine g_aload_n h 0 rfl dX13_count_100 ?_
      refine gfX13_108 h (by decide : kd 103 = 11) dX13_count_101 ?_
      refine g_iconst h 0 (v := 0) (by decide) dX13_count_104 ?_
      refine g_iload_n h 1 rfl dX13_count_105 ?_
      refine g_iadd h dX13_count_106 ?_
      refine g_iald h 186 (by decide : kd 133 = 20) (by decide) hf dX13_count_107 (fun v5 hf => ?_)
      cases hf
      exact g_iret h rfl ⟨rfl, rfl⟩ (Nat.le_refl _) (Nat.le_refl _) dX13_count_108
    rw [if_neg hx0] at hf
    have hy0 : x1.toInt ≠ 0 := fun q => hx0 (Int32.toInt_inj.mp (by rw [q]; rfl))
    by_cases hx1 : x1 = 1
    · rw [if_pos hx1] at hf
      refine g_tabIn h (off := 77) 100 (by rw [hx1]; decide) (by rw [hx1]; decide) (by rw [hx1]; decide) (by decide) dX13_count_23 ?_
      refine g_aload_n h 0 rfl dX13_count_100 ?_
      refine gfX13_108 h (by decide : kd 103 = 11) dX13_count_101 ?_
      refine g_iconst h 0 (v := 0) (by decide) dX13_count_104 ?_
      refine g_iload_n h 1 rfl dX13_count_105 ?_
      refine g_iadd h dX13_count_106 ?_
      refine g_iald h 186 (by decide : kd 133 = 20) (by decide) hf dX13_count_107 (fun v6 hf => ?_)
      cases hf
      exact g_iret h rfl ⟨rfl, rfl⟩ (Nat.le_refl _) (Nat.le_refl _) dX13_count_108
    rw [if_neg hx1] at hf
    have hy1 : x1.toInt ≠ 1 := fun q => hx1 (Int32.toInt_inj.mp (by rw [q]; rfl))
    by_cases hx2 : x1 = 2
    · rw [if_pos hx2] at hf
      refine g_tabIn h (off := 77) 100 (by rw [hx2]; decide) (by rw [hx2]; decide) (by rw [hx2]; decide) (by decide) dX13_count_23 ?_
      refine g_aload_n h 0 rfl dX13_count_100 ?_
      refine gfX13_108 h (by decide : kd 103 = 11) dX13_count_101 ?_
      refine g_iconst h 0 (v := 0) (by decide) dX13_count_104 ?_
      refine g_iload_n h 1 rfl dX13_count_105 ?_
      refine g_iadd h dX13_count_106 ?_
      refine g_iald h 186 (by decide : kd 133 = 20) (by decide) hf dX13_count_107 (fun v7 hf => ?_)
      cases hf
      exact g_iret h rfl ⟨rfl, rfl⟩ (Nat.le_refl _) (Nat.le_refl _) dX13_count_108
    rw [if_neg hx2] at hf
    have hy2 : x1.toInt ≠ 2 := fun q => hx2 (Int32.toInt_inj.mp (by rw [q]; rfl))
    by_cases hx3 : x1 = 3
    · rw [if_pos hx3] at hf
      refine g_tabIn h (off := 77) 100 (by rw [hx3]; decide) (by rw [hx3]; decide) (by rw [hx3]; decide) (by decide) dX13_count_23 ?_
      refine g_aload_n h 0 rfl dX13_count_100 ?_
      refine gfX13_108 h (by decide : kd 103 = 11) dX13_count_101 ?_
      refine g_iconst h 0 (v := 0) (by decide) dX13_count_104 ?_
      refine g_iload_n h 1 rfl dX13_count_105 ?_
      refine g_iadd h dX13_count_106 ?_
      refine g_iald h 186 (by decide : kd 133 = 20) (by decide) hf dX13_count_107 (fun v8 hf => ?_)
      cases hf
      exact g_iret h rfl ⟨rfl, rfl⟩ (Nat.le_refl _) (Nat.le_refl _) dX13_count_108
    rw [if_neg hx3] at hf
    have hy3 : x1.toInt ≠ 3 := fun q => hx3 (Int32.toInt_inj.mp (by rw [q]; rfl))
    by_cases hx4 : x1 = 4
    · rw [if_pos hx4] at hf
      refine g_tabIn h (off := 77) 100 (by rw [hx4]; decide) (by rw [hx4]; decide) (by rw [hx4]; decide) (by decide) dX13_count_23 ?_
      refine g_aload_n h 0 rfl dX13_count_100 ?_
      refine gfX13_108 h (by decide : kd 103 = 11) dX13_count_101 ?_
      refine g_iconst h 0 (v := 0) (by decide) dX13_count_104 ?_
      refine g_iload_n h 1 rfl dX13_count_105 ?_
      refine g_iadd h dX13_count_106 ?_
      refine g_iald h 186 (by decide : kd 133 = 20) (by decide) hf dX13_count_107 (fun v9 hf => ?_)
      cases hf
      exact g_iret h rfl ⟨rfl, rfl⟩ (Nat.le_refl _) (Nat.le_refl _) dX13_count_108
    rw [if_neg hx4] at hf
    have hy4 : x1.toInt ≠ 4 := fun q => hx4 (Int32.toInt_inj.mp (by rw [q]; rfl))
    by_cases hx5 : x1 = 5
    · rw [if_pos hx5] at hf
      refine g_tabIn h (off := 77) 100 (by rw [hx5]; decide) (by rw [hx5]; decide) (by rw [hx5]; decide) (by decide) dX13_count_23 ?_
      refine g_aload_n h 0 rfl dX13_count_100 ?_
      refine gfX13_108 h (by decide : kd 103 = 11) dX13_count_101 ?_
      refine g_iconst h 0 (v := 0) (by decide) dX13_count_104 ?_
      refine g_iload_n h 1 rfl dX13_count_105 ?_
      refine g_iadd h dX13_count_106 ?_
      refine g_iald h 186 (by decide : kd 133 = 20) (by decide) hf dX13_count_107 (fun v10 hf => ?_)
      cases hf
      exact g_iret h rfl ⟨rfl, rfl⟩ (Nat.le_refl _) (Nat.le_refl _) dX13_count_108
    rw [if_neg hx5] at hf
    have hy5 : x1.toInt ≠ 5 := fun q => hx5 (Int32.toInt_inj.mp (by rw [q]; rfl))
    by_cases hx6 : x1 = 6
    · rw [if_pos hx6] at hf
      refine g_tabIn h (off := 86) 109 (by rw [hx6]; decide) (by rw [hx6]; decide) (by rw [hx6]; decide) (by decide) dX13_count_23 ?_
      refine g_aload_n h 0 rfl dX13_count_109 ?_
      refine gfX13_108 h (by decide : kd 103 = 11) dX13_count_110 ?_
      refine g_bipush h 12 (v := 12) (by decide) dX13_count_113 ?_
      refine g_iald h 186 (by decide : kd 133 = 20) (by decide) hf dX13_count_115 (fun v11 hf => ?_)
      cases hf
      exact g_iret h rfl ⟨rfl, rfl⟩ (Nat.le_refl _) (Nat.le_refl _) dX13_count_116
    rw [if_neg hx6] at hf
    have hy6 : x1.toInt ≠ 6 := fun q => hx6 (Int32.toInt_inj.mp (by rw [q]; rfl))
    by_cases hx7 : x1 = 7
    · rw [if_pos hx7] at hf
      refine g_tabIn h (off := 94) 117 (by rw [hx7]; decide) (by rw [hx7]; decide) (by rw [hx7]; decide) (by decide) dX13_count_23 ?_
      refine g_aload_n h 0 rfl dX13_count_117 ?_
      refine gfX13_108 h (by decide : kd 103 = 11) dX13_count_118 ?_
      refine g_bipush h 8 (v := 8) (by decide) dX13_count_121 ?_
      refine g_iald h 186 (by decide : kd 133 = 20) (by decide) hf dX13_count_123 (fun v12 hf => ?_)
      cases hf
      exact g_iret h rfl ⟨rfl, rfl⟩ (Nat.le_refl _) (Nat.le_refl _) dX13_count_124
    rw [if_neg hx7] at hf
    have hy7 : x1.toInt ≠ 7 := fun q => hx7 (Int32.toInt_inj.mp (by rw [q]; rfl))
    by_cases hx8 : x1 = 8
    · rw [if_pos hx8] at hf
      refine g_tabIn h (off := 102) 125 (by rw [hx8]; decide) (by rw [hx8]; decide) (by rw [hx8]; decide) (by decide) dX13_count_23 ?_
      refine g_aload_n h 0 rfl dX13_count_125 ?_
      refine gfX13_108 h (by decide : kd 103 = 11) dX13_count_126 ?_
      refine g_bipush h 9 (v := 9) (by decide) dX13_count_129 ?_
      refine g_iald h 186 (by decide : kd 133 = 20) (by decide) hf dX13_count_131 (fun v13 hf => ?_)
      cases hf
      exact g_iret h rfl ⟨rfl, rfl⟩ (Nat.le_refl _) (Nat.le_refl _) dX13_count_132
    rw [if_neg hx8] at hf
    have hy8 : x1.toInt ≠ 8 := fun q => hx8 (Int32.toInt_inj.mp (by rw [q]; rfl))
    by_cases hx9 : x1 = 9
    · rw [if_pos hx9] at hf
      refine g_tabIn h (off := 110) 133 (by rw [hx9]; decide) (by rw [hx9]; decide) (by rw [hx9]; decide) (by decide) dX13_count_23 ?_
      refine g_aload_n h 0 rfl dX13_count_133 ?_
      refine gfX13_333 h (by decide : kd 103 = 11) dX13_count_134 ?_
      refine g_nmI hf (fun v14 hf => ?_)
      cases hf
      exact g_iret h rfl ⟨rfl, rfl⟩ (Nat.le_refl _) (Nat.le_refl _) dX13_count_137
    rw [if_neg hx9] at hf
    have hy9 : x1.toInt ≠ 9 := fun q => hx9 (Int32.toInt_inj.mp (by rw [q]; rfl))
    by_cases hx10 : x1 = 10
    · rw [if_pos hx10] at hf
      refine g_tabIn h (off := 115) 138 (by rw [hx10]; decide) (by rw [hx10]; decide) (by rw [hx10]; decide) (by decide) dX13_count_23 ?_
      refine g_aload_n h 0 rfl dX13_count_138 ?_
      refine gfX13_339 h (by decide : kd 103 = 11) dX13_count_139 ?_
      refine g_nmI hf (fun v15 hf => ?_)
      cases hf
      exact g_iret h rfl ⟨rfl, rfl⟩ (Nat.le_refl _) (Nat.le_refl _) dX13_count_142
    rw [if_neg hx10] at hf
    have hy10 : x1.toInt ≠ 10 := fun q => hx10 (Int32.toInt_inj.mp (by rw [q]; rfl))
    by_cases hx11 : x1 = 11
    · rw [if_pos hx11] at hf
      refine g_tabIn h (off := 120) 143 (by rw [hx11]; decide) (by rw [hx11]; decide) (by rw [hx11]; decide) (by decide) dX13_count_23 ?_
      refine g_aload_n h 0 rfl dX13_count_143 ?_
      refine gfX13_342 h (by decide : kd 103 = 11) dX13_count_144 ?_
      refine g_nmI hf (fun v16 hf => ?_)
      cases hf
      exact g_iret h rfl ⟨rfl, rfl⟩ (Nat.le_refl _) (Nat.le_refl _) dX13_count_147
    rw [if_neg hx11] at hf
    have hy11 : x1.toInt ≠ 11 := fun q => hx11 (Int32.toInt_inj.mp (by rw [q]; rfl))
    by_cases hx12 : x1 = 12
    · rw [if_pos hx12] at hf
      refine g_tabIn h (off := 125) 148 (by rw [hx12]; decide) (by rw [hx12]; decide) (by rw [hx12]; decide) (by decide) dX13_count_23 ?_
      refine g_aload_n h 0 rfl dX13_count_148 ?_
      refine gfX13_345 h (by decide : kd 103 = 11) dX13_count_149 ?_
      refine g_nmI hf (fun v17 hf => ?_)
      cases hf
      exact g_iret h rfl ⟨rfl, rfl⟩ (Nat.le_refl _) (Nat.le_refl _) dX13_count_152
    rw [if_neg hx12] at hf
    have hy12 : x1.toInt ≠ 12 := fun q => hx12 (Int32.toInt_inj.mp (by rw [q]; rfl))
    by_cases hx13 : x1 = 13
    · rw [if_pos hx13] at hf
      refine g_tabIn h (off := 130) 153 (by rw [hx13]; decide) (by rw [hx13]; decide) (by rw [hx13]; decide) (by decide) dX13_count_23 ?_
      refine g_aload_n h 0 rfl dX13_count_153 ?_
      refine gfX13_352 h (by decide : kd 103 = 11) dX13_count_154 ?_
      refine g_nmI hf (fun v18 hf => ?_)
      cases hf
      exact g_iret h rfl ⟨rfl, rfl⟩ (Nat.le_refl _) (Nat.le_refl _) dX13_count_157
    rw [if_neg hx13] at hf
    have hy13 : x1.toInt ≠ 13 := fun q => hx13 (Int32.toInt_inj.mp (by rw [q]; rfl))
    by_cases hx14 : x1 = 14
    · rw [if_pos hx14] at hf
      refine g_tabIn h (off := 135) 158 (by rw [hx14]; decide) (by rw [hx14]; decide) (by rw [hx14]; decide) (by decide) dX13_count_23 ?_
      refine g_aload_n h 0 rfl dX13_count_158 ?_
      refine gfX13_355 h (by decide : kd 103 = 11) dX13_count_159 ?_
      refine g_nmI hf (fun v19 hf => ?_)
      cases hf
      exact g_iret h rfl ⟨rfl, rfl⟩ (Nat.le_refl _) (Nat.le_refl _) dX13_count_162
    rw [if_neg hx14] at hf
    have hy14 : x1.toInt ≠ 14 := fun q => hx14 (Int32.toInt_inj.mp (by rw [q]; rfl))
    by_cases hx15 : x1 = 15
    · rw [if_pos hx15] at hf
      refine g_tabIn h (off := 140) 163 (by rw [hx15]; decide) (by rw [hx15]; decide) (by rw [hx15]; decide) (by decide) dX13_count_23 ?_
      refine g_aload_n h 0 rfl dX13_count_163 ?_
      refine gfX13_144 h (by decide : kd 103 = 11) dX13_count_164 ?_
      refine g_nmI hf (fun v20 hf => ?_)
      cases hf
      exact g_iret h rfl ⟨rfl, rfl⟩ (Nat.le_refl _) (Nat.le_refl _) dX13_count_167
    rw [if_neg hx15] at hf
    have hy15 : x1.toInt ≠ 15 := fun q => hx15 (Int32.toInt_inj.mp (by rw [q]; rfl))
    refine g_tabOut h 168 (by omega) (by decide) dX13_count_23 ?_
    refine g_aload_n h 0 rfl dX13_count_168 ?_
    refine gfX13_59 h (by decide : kd 103 = 11) dX13_count_169 ?_
    refine g_iload_n h 1 rfl dX13_count_172 ?_
    refine g_bipush h 16 (v := 16) (by decide) dX13_count_173 ?_
    refine g_isub h dX13_count_175 ?_
    refine g_iald h 3 (by decide : kd 117 = 20) (by decide) hf dX13_count_176 (fun v21 hf => ?_)
    cases hf
    exact g_iret h rfl ⟨rfl, rfl⟩ (Nat.le_refl _) (Nat.le_refl _) dX13_count_177
  · refine g_iconst h 0 (v := 0) (by decide) dX13_count_20 ?_
    cases hf
    exact g_iret h rfl ⟨rfl, rfl⟩ (Nat.le_refl _) (Nat.le_refl _) dX13_count_21

theorem cmX13_count {l : Launch} {w : WX} {M : Mem} {x1 : Int32} {res : (Int32 × Mem)} (hf : fX13_count M x1 = some res) : CM l w yX13_count cX13_count 2 (some .int) { frames := 1, cells := 0, slots := 0, locals := 22 } 0 0 [rv w 103, .int x1] M (Pwi res) := by
  refine CM_of (by decide) (by decide) (fun G hw hl h => ?_)
  subst hw
  exact kX13_count_e0 h hf

-- X13_deed
theorem kX13_deed_e0 {G : GX} (h : OKm G cX13_deed RX13 3 (some .int) { frames := 2, cells := 0, slots := 0, locals := 44 }) {M : Mem} {x1 : Int32} {x2 : Int32} {res : (Int32 × Mem)} (hf : fX13_deed M x1 x2 = some res) : GG G (Qm G (Pwi res) 0 0) 0 0 0 [(0, rv G.1 103), (1, .int x1), (2, .int x2)] [] M := by
  unfold fX13_deed at hf
  refine g_aload_n h 0 rfl dX13_deed_0 ?_
  refine g_iconst h 0 (v := 0) (by decide) dX13_deed_1 ?_
  refine pfX13_141 h (by decide : kd 103 = 11) dX13_deed_2 ?_
  refine g_nmM hf (fun M1 hf => ?_)
  refine g_aload_n h 0 rfl dX13_deed_5 ?_
  refine g_iload_n h 1 rfl dX13_deed_6 ?_
  obtain ⟨v2, M3, hq, hf⟩ := b2_some hf
  refine g_callVwi (As := [.int x1]) (rest := []) h ceX13_isDeed mlX13_411 imX13_isDeed seX13_isDeed (by rfl) (kd_lt (by rw [(by decide : kd 103 = 11)]; decide)) (ent_11 (by decide : kd 103 = 11)) rfl rfl ⟨by decide, by decide⟩ ⟨by decide, by decide⟩ rfl dX13_deed_7 rfl (Nat.le_of_ble_eq_true rfl) (cmX13_isDeed hq) ?_
  refine g_if_eq h 22 (by decide) hf dX13_deed_10 (fun hf => ?_) (fun hf => ?_)
  · refine g_iconst h 0 (v := 0) (by decide) dX13_deed_22 ?_
    cases hf
    exact g_iret h rfl ⟨rfl, rfl⟩ (Nat.le_refl _) (Nat.le_refl _) dX13_deed_23
  · refine g_aload_n h 0 rfl dX13_deed_13 ?_
    refine g_iload_n h 2 rfl dX13_deed_14 ?_
    refine g_iconst h 4 (v := 4) (by decide) dX13_deed_15 ?_
    obtain ⟨v4, M5, hq, hf⟩ := b2_some hf
    refine g_callVwi (As := [.int x2, .int 4]) (rest := []) h ceX13_isWhat mlX13_414 imX13_isWhat seX13_isWhat (by rfl) (kd_lt (by rw [(by decide : kd 103 = 11)]; decide)) (ent_11 (by decide : kd 103 = 11)) rfl rfl ⟨by decide, by decide⟩ ⟨by decide, by decide⟩ rfl dX13_deed_16 rfl (Nat.le_of_ble_eq_true rfl) (cmX13_isWhat hq) ?_
    refine g_if_ne h 24 (by decide) hf dX13_deed_19 (fun hf => ?_) (fun hf => ?_)
    · refine g_iload_n h 2 rfl dX13_deed_24 ?_
      refine g_if_ne h 37 (by decide) hf dX13_deed_25 (fun hf => ?_) (fun hf => ?_)
      · refine g_iload_n h 2 rfl dX13_deed_37 ?_
        refine g_iconst h 1 (v := 1) (by decide) dX13_deed_38 ?_
        refine g_ic_ne h 51 (by decide) hf dX13_deed_39 (fun hf => ?_) (fun hf => ?_)
        · refine g_iload_n h 2 rfl dX13_deed_51 ?_
          refine g_iconst h 2 (v := 2) (by decide) dX13_deed_52 ?_
          refine g_ic_ne h 65 (by decide) hf dX13_deed_53 (fun hf => ?_) (fun hf => ?_)
          · refine g_iload_n h 2 rfl dX13_deed_65 ?_
            refine g_iconst h 3 (v := 3) (by decide) dX13_deed_66 ?_
            refine g_ic_ne h 79 (by decide) hf dX13_deed_67 (fun hf => ?_) (fun hf => ?_)
            · refine g_aload_n h 0 rfl dX13_deed_79 ?_
              refine gfX13_16 h (by decide : kd 103 = 11) dX13_deed_80 ?_
              refine g_iload_n h 1 rfl dX13_deed_83 ?_
              refine g_iald h 7 (by decide : kd 104 = 20) (by decide) hf dX13_deed_84 (fun v6 hf => ?_)
              refine g_aload_n h 0 rfl dX13_deed_85 ?_
              refine gfX13_108 h (by decide : kd 103 = 11) dX13_deed_86 ?_
              refine g_iconst h 0 (v := 0) (by decide) dX13_deed_89 ?_
              refine g_iald h 186 (by decide : kd 133 = 20) (by decide) hf dX13_deed_90 (fun v7 hf => ?_)
              refine g_ic_gt h 98 (by decide) hf dX13_deed_91 (fun hf => ?_) (fun hf => ?_)
              · refine g_iconst h 0 (v := 0) (by decide) dX13_deed_98 ?_
                cases hf
                exact g_iret h rfl ⟨rfl, rfl⟩ (Nat.le_refl _) (Nat.le_refl _) dX13_deed_99
              · refine g_iconst h 1 (v := 1) (by decide) dX13_deed_94 ?_
                refine g_goto h 99 (by decide) dX13_deed_95 ?_
                cases hf
                exact g_iret h rfl ⟨rfl, rfl⟩ (Nat.le_refl _) (Nat.le_refl _) dX13_deed_99
            · refine g_aload_n h 0 rfl dX13_deed_70 ?_
              refine gfX13_26 h (by decide : kd 103 = 11) dX13_deed_71 ?_
              refine g_iload_n h 1 rfl dX13_deed_74 ?_
              refine g_iald h 7 (by decide : kd 107 = 20) (by decide) hf dX13_deed_75 (fun v8 hf => ?_)
              refine g_goto h 99 (by decide) dX13_deed_76 ?_
              cases hf
              exact g_iret h rfl ⟨rfl, rfl⟩ (Nat.le_refl _) (Nat.le_refl _) dX13_deed_99
          · refine g_aload_n h 0 rfl dX13_deed_56 ?_
            refine gfX13_23 h (by decide : kd 103 = 11) dX13_deed_57 ?_
            refine g_iload_n h 1 rfl dX13_deed_60 ?_
            refine g_iald h 7 (by decide : kd 106 = 20) (by decide) hf dX13_deed_61 (fun v9 hf => ?_)
            refine g_goto h 99 (by decide) dX13_deed_62 ?_
            cases hf
            exact g_iret h rfl ⟨rfl, rfl⟩ (Nat.le_refl _) (Nat.le_refl _) dX13_deed_99
        · refine g_aload_n h 0 rfl dX13_deed_42 ?_
          refine gfX13_20 h (by decide : kd 103 = 11) dX13_deed_43 ?_
          refine g_iload_n h 1 rfl dX13_deed_46 ?_
          refine g_iald h 7 (by decide : kd 105 = 20) (by decide) hf dX13_deed_47 (fun v10 hf => ?_)
          refine g_goto h 99 (by decide) dX13_deed_48 ?_
          cases hf
          exact g_iret h rfl ⟨rfl, rfl⟩ (Nat.le_refl _) (Nat.le_refl _) dX13_deed_99
      · refine g_aload_n h 0 rfl dX13_deed_28 ?_
        refine gfX13_16 h (by decide : kd 103 = 11) dX13_deed_29 ?_
        refine g_iload_n h 1 rfl dX13_deed_32 ?_
        refine g_iald h 7 (by decide : kd 104 = 20) (by decide) hf dX13_deed_33 (fun v11 hf => ?_)
        refine g_goto h 99 (by decide) dX13_deed_34 ?_
        cases hf
        exact g_iret h rfl ⟨rfl, rfl⟩ (Nat.le_refl _) (Nat.le_refl _) dX13_deed_99
    · refine g_iconst h 0 (v := 0) (by decide) dX13_deed_22 ?_
      cases hf
      exact g_iret h rfl ⟨rfl, rfl⟩ (Nat.le_refl _) (Nat.le_refl _) dX13_deed_23

theorem cmX13_deed {l : Launch} {w : WX} {M : Mem} {x1 : Int32} {x2 : Int32} {res : (Int32 × Mem)} (hf : fX13_deed M x1 x2 = some res) : CM l w yX13_deed cX13_deed 3 (some .int) { frames := 2, cells := 0, slots := 0, locals := 44 } 0 0 [rv w 103, .int x1, .int x2] M (Pwi res) := by
  refine CM_of (by decide) (by decide) (fun G hw hl h => ?_)
  subst hw
  exact kX13_deed_e0 h hf

