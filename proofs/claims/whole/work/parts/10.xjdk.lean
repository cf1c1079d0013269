theorem g_nret {G : GX} {kc ks pc nL : Nat} {lv : List (Nat × Value)} {M : Mem} {b : ByteArray} {own : String} {ret : Option FieldType} {rm : Room} (h : OKm G b own nL ret rm) {post : Option Value → Mem → Prop} {mc ms : Nat} {x : Int32} {ty : FieldType} (hrt : ret = some ty) (hn : narrow ty (.int x) = .int x) (hp : post (some (.int x)) M) (hkc : kc ≤ mc) (hks : ks ≤ ms) (hd : decode b pc = .ok (.ireturn, 1)) : GG G (Qm G post mc ms) kc ks pc lv [.int x] M := by
  obtain ⟨w, p, l, e, R, s, m, args, below, meth, c⟩ := G
  obtain ⟨hx, hb, hml, hown, hts, hSS, hlk, hret, hR⟩ := h
  intro H locs ls hl hP hS
  refine W.widen hkc hks ?_
  exact W.zret hx hb (hret.trans hrt) hn (fun t ht hW => ⟨⟨_, M, rfl, hp, by rw [ht]; exact hP⟩, hS.F ht⟩) hS.2.2 hd hlk
theorem g_gsQ {G : GX} {Q : State → Prop} {kc ks pc nL : Nat} {lv : List (Nat × Value)} {st : List Value} {M : Mem} {b : ByteArray} {own : String} {ret : Option FieldType} {rm : Room} (h : OKm G b own nL ret rm) {idx : Nat} (hlink : Cond.fieldLink own idx "jdk/internal/util/Preconditions" "SIOOBE_FORMATTER" "Ljava/util/function/BiFunction;" ∈ LW) (hd : decode b pc = .ok (.getstatic idx, 3)) (kn : GG G Q kc ks (pc + 3) lv (.null :: st) M) (kr : ∀ t : Nat, GG G Q kc ks (pc + 3) lv (.ref t :: st) M) : GG G Q kc ks pc lv st M := by
  obtain ⟨w, p, l, e, R, s, m, args, below, meth, c⟩ := G
  obtain ⟨hx, hb, hml, hown, hts, hSS, hlk, hret, hR⟩ := h
  intro H locs ls hl hP hS
  rcases hSS.2.1.2.2.2.2.2.2.2.2.1 with hZ | ⟨t, hZ⟩
  · exact va_gets hx hb hZ hS hown (hts _ hlink) (fun _ q => q) hd (kn H locs ls hl hP hS)
  · exact va_gets hx hb hZ hS hown (hts _ hlink) (fun _ q => q) hd (kr t H locs ls hl hP hS)
theorem cmJ0_coder {l : Launch} {w : WX} {M : Mem} {o : Nat} (ho : 1100 ≤ o ∧ o < 1123) : CM l w yJ0_coder_7d493 cJ0_coder_7d493 1 (some .byte) { frames := 0, cells := 0, slots := 0, locals := 0 } 0 0 [rv w o] M (Pri 0 M) := by
  refine CM_of (by decide) (Nat.le_of_ble_eq_true rfl) (fun G hw hl h => ?_)
  subst hw
  change GG G _ 0 0 0 [(0, rv G.1 o)] [] M
  refine g_gsC h flJ0_38 dJ0_coder_7d493_0 ?_
  refine g_if_eq (A := (none : Option Unit)) (B := some ()) (res := ()) h 13 (by decide) (by decide) dJ0_coder_7d493_3 (fun q => by cases q) (fun _ => ?_)
  refine g_aload_n h 0 rfl dJ0_coder_7d493_6 ?_
  refine g_getCod h ho flJ0_15 dJ0_coder_7d493_7 ?_
  refine g_goto h 14 (by decide) dJ0_coder_7d493_10 ?_
  exact g_nret h rfl (by decide) ⟨rfl, rfl⟩ (Nat.le_refl _) (Nat.le_refl _) dJ0_coder_7d493_14
theorem cmJ0_isLatin1 {l : Launch} {w : WX} {M : Mem} {o : Nat} (ho : 1100 ≤ o ∧ o < 1123) : CM l w yJ0_isLatin1_aae02 cJ0_isLatin1_aae02 1 (some .boolean) { frames := 0, cells := 0, slots := 0, locals := 0 } 0 0 [rv w o] M (Pri 1 M) := by
  refine CM_of (by decide) (Nat.le_of_ble_eq_true rfl) (fun G hw hl h => ?_)
  subst hw
  change GG G _ 0 0 0 [(0, rv G.1 o)] [] M
  refine g_gsC h flJ0_38 dJ0_isLatin1_aae02_0 ?_
  refine g_if_eq (A := (none : Option Unit)) (B := some ()) (res := ()) h 17 (by decide) (by decide) dJ0_isLatin1_aae02_3 (fun q => by cases q) (fun _ => ?_)
  refine g_aload_n h 0 rfl dJ0_isLatin1_aae02_6 ?_
  refine g_getCod h ho flJ0_15 dJ0_isLatin1_aae02_7 ?_
  refine g_if_ne (A := some ()) (B := (none : Option Unit)) (res := ()) h 17 (by decide) (by decide) dJ0_isLatin1_aae02_10 (fun q => by cases q) (fun _ => ?_)
  refine g_iconst h 1 (v := 1) (by decide) dJ0_isLatin1_aae02_13 ?_
  refine g_goto h 18 (by decide) dJ0_isLatin1_aae02_14 ?_
  exact g_zret h (by decide) rfl ⟨rfl, rfl⟩ (Nat.le_refl _) (Nat.le_refl _) dJ0_isLatin1_aae02_18
def fJ0_length (o : Nat) : Option Int32 := ck (1100 ≤ o ∧ o < 1123) <| some (nI (sLn o))
theorem tLn_s {o : Nat} (h : 1100 ≤ o) : tLn (o + 100) = sLn o := by unfold tLn sLn; rw [show o + 100 - 1200 = o - 1100 by omega]
theorem cmJ0_length {l : Launch} {w : WX} {M : Mem} {o : Nat} {res : Int32} (zf : fJ0_length o = some res) : CM l w yJ0_length_8abf5 cJ0_length_8abf5 1 (some .int) { frames := 1, cells := 0, slots := 0, locals := 40 } 0 0 [rv w o] M (Pri res M) := by
  obtain ⟨ho, zf⟩ := pre_ck zf
  obtain rfl := Option.some.inj zf
  refine CM_of (by decide) (Nat.le_of_ble_eq_true rfl) (fun G hw hl h => ?_)
  subst hw
  change GG G _ 0 0 0 [(0, rv G.1 o)] [] M
  refine g_aload_n h 0 rfl dJ0_length_8abf5_0 ?_
  refine g_getVal h ho flJ0_9 dJ0_length_8abf5_1 ?_
  refine g_tlen h (by omega) dJ0_length_8abf5_4 ?_
  refine g_aload_n h 0 rfl dJ0_length_8abf5_5 ?_
  refine g_callTri (As := []) (rest := [.int (nI (tLn (o + 100)))]) h ceJ0_coder_7d493 mlJ0_335 rfl imJ0_coder_7d493 seJ0_coder_7d493 ho rfl rfl ⟨by decide, by decide⟩ ⟨by decide, by decide⟩ rfl dJ0_length_8abf5_6 rfl (Nat.le_of_ble_eq_true rfl) (cmJ0_coder ho) ?_
  refine g_ishr h dJ0_length_8abf5_9 ?_
  have e1 : nI (tLn (o + 100)) >>> ((0 : Int32) &&& 31) = nI (sLn o) := by rw [tLn_s ho.1]; exact sb_shr0 _
  rw [e1]
  exact g_iret h rfl ⟨rfl, rfl⟩ (Nat.le_refl _) (Nat.le_refl _) dJ0_length_8abf5_10
theorem cmJ3_checkIndex_n {l : Launch} {w : WX} {M : Mem} {a c9 : Int32} (h0 : ¬ a < 0) (h1 : a < c9) : CM l w yJ3_checkIndex_8e157 cJ3_checkIndex_8e157 3 (some .int) { frames := 0, cells := 0, slots := 0, locals := 0 } 0 0 [.int a, .int c9, .null] M (Pri a M) := by
  refine CM_of (by decide) (Nat.le_of_ble_eq_true rfl) (fun G hw hl h => ?_)
  subst hw
  change GG G _ 0 0 0 [(0, .int a), (1, .int c9), (2, .null)] [] M
  refine g_iload_n h 0 rfl dJ3_checkIndex_8e157_0 ?_
  refine g_if_lt (A := (none : Option Unit)) (B := some ()) (res := ()) h 9 (by decide) (by rw [if_neg h0]) dJ3_checkIndex_8e157_1 (fun q => by cases q) (fun _ => ?_)
  refine g_iload_n h 0 rfl dJ3_checkIndex_8e157_4 ?_
  refine g_iload_n h 1 rfl dJ3_checkIndex_8e157_5 ?_
  refine g_ic_lt (A := some ()) (B := (none : Option Unit)) (res := ()) h 16 (by decide) (by rw [if_pos h1]) dJ3_checkIndex_8e157_6 (fun _ => ?_) (fun q => by cases q)
  refine g_iload_n h 0 rfl dJ3_checkIndex_8e157_16 ?_
  exact g_iret h rfl ⟨rfl, rfl⟩ (Nat.le_refl _) (Nat.le_refl _) dJ3_checkIndex_8e157_17
theorem cmJ3_checkIndex_r {l : Launch} {w : WX} {M : Mem} {a c9 : Int32} {t : Nat} (h0 : ¬ a < 0) (h1 : a < c9) : CM l w yJ3_checkIndex_8e157 cJ3_checkIndex_8e157 3 (some .int) { frames := 0, cells := 0, slots := 0, locals := 0 } 0 0 [.int a, .int c9, .ref t] M (Pri a M) := by
  refine CM_of (by decide) (Nat.le_of_ble_eq_true rfl) (fun G hw hl h => ?_)
  subst hw
  change GG G _ 0 0 0 [(0, .int a), (1, .int c9), (2, .ref t)] [] M
  refine g_iload_n h 0 rfl dJ3_checkIndex_8e157_0 ?_
  refine g_if_lt (A := (none : Option Unit)) (B := some ()) (res := ()) h 9 (by decide) (by rw [if_neg h0]) dJ3_checkIndex_8e157_1 (fun q => by cases q) (fun _ => ?_)
  refine g_iload_n h 0 rfl dJ3_checkIndex_8e157_4 ?_
  refine g_iload_n h 1 rfl dJ3_checkIndex_8e157_5 ?_
  refine g_ic_lt (A := some ()) (B := (none : Option Unit)) (res := ()) h 16 (by decide) (by rw [if_pos h1]) dJ3_checkIndex_8e157_6 (fun _ => ?_) (fun q => by cases q)
  refine g_iload_n h 0 rfl dJ3_checkIndex_8e157_16 ?_
  exact g_iret h rfl ⟨rfl, rfl⟩ (Nat.le_refl _) (Nat.le_refl _) dJ3_checkIndex_8e157_17
theorem cmJ0_checkIndex {l : Launch} {w : WX} {M : Mem} {a c9 : Int32} (h0 : ¬ a < 0) (h1 : a < c9) : CM l w yJ0_checkIndex_df160 cJ0_checkIndex_df160 2 none { frames := 1, cells := 0, slots := 0, locals := 40 } 0 0 [.int a, .int c9] M (Pwv M) := by
  refine CM_of (by decide) (Nat.le_of_ble_eq_true rfl) (fun G hw hl h => ?_)
  subst hw
  change GG G _ 0 0 0 [(0, .int a), (1, .int c9)] [] M
  refine g_iload_n h 0 rfl dJ0_checkIndex_df160_0 ?_
  refine g_iload_n h 1 rfl dJ0_checkIndex_df160_1 ?_
  refine g_gsQ h flJ0_1053 dJ0_checkIndex_df160_2 ?_ (fun t => ?_)
  · refine g_callSri (As := [.int a, .int c9, .null]) (rest := []) h ceJ3_checkIndex_8e157 mlJ0_1059 smJ3_checkIndex_8e157 rfl rfl ⟨by decide, by decide⟩ ⟨by decide, by decide⟩ rfl dJ0_checkIndex_df160_5 rfl (Nat.le_of_ble_eq_true rfl) (cmJ3_checkIndex_n h0 h1) ?_
    refine g_pop h rfl dJ0_checkIndex_df160_8 ?_
    exact g_vret h rfl ⟨rfl, rfl⟩ (Nat.le_refl _) (Nat.le_refl _) dJ0_checkIndex_df160_9
  · refine g_callSri (As := [.int a, .int c9, .ref t]) (rest := []) h ceJ3_checkIndex_8e157 mlJ0_1059 smJ3_checkIndex_8e157 rfl rfl ⟨by decide, by decide⟩ ⟨by decide, by decide⟩ rfl dJ0_checkIndex_df160_5 rfl (Nat.le_of_ble_eq_true rfl) (cmJ3_checkIndex_r h0 h1) ?_
    refine g_pop h rfl dJ0_checkIndex_df160_8 ?_
    exact g_vret h rfl ⟨rfl, rfl⟩ (Nat.le_refl _) (Nat.le_refl _) dJ0_checkIndex_df160_9
def fJ1_charAt (o : Nat) (i : Int32) : Option Int32 := ck (1200 ≤ o ∧ o < 1223) <| ck (i < nI (tLn o)) <| ldT o i fun v => some ((v &&& 255).toUInt32 % 65536).toInt32
theorem cmJ1_charAt {l : Launch} {w : WX} {M : Mem} {o : Nat} {i res : Int32} (zf : fJ1_charAt o i = some res) : CM l w yJ1_charAt_3b067 cJ1_charAt_3b067 2 (some .char) { frames := 2, cells := 0, slots := 0, locals := 90 } 0 0 [rv w o, .int i] M (Pri res M) := by
  obtain ⟨ho, zf⟩ := pre_ck zf
  obtain ⟨hi, zf⟩ := pre_ck zf
  have hi0 : ¬ i < 0 := fun q => (pre_if zf).1 (Or.inl q)
  refine CM_of (by decide) (Nat.le_of_ble_eq_true rfl) (fun G hw hl h => ?_)
  subst hw
  change GG G _ 0 0 0 [(0, rv G.1 o), (1, .int i)] [] M
  refine g_iload_n h 1 rfl dJ1_charAt_3b067_0 ?_
  refine g_aload_n h 0 rfl dJ1_charAt_3b067_1 ?_
  refine g_tlen h ho dJ1_charAt_3b067_2 ?_
  refine g_callSwv (As := [.int i, .int (nI (tLn o))]) (rest := []) h ceJ0_checkIndex_df160 mlJ1_9 smJ0_checkIndex_df160 rfl rfl ⟨by decide, by decide⟩ ⟨by decide, by decide⟩ rfl dJ1_charAt_3b067_3 rfl (Nat.le_of_ble_eq_true rfl) (cmJ0_checkIndex hi0 hi) ?_
  refine g_aload_n h 0 rfl dJ1_charAt_3b067_6 ?_
  refine g_iload_n h 1 rfl dJ1_charAt_3b067_7 ?_
  refine g_tbald h ho zf dJ1_charAt_3b067_8 ?_
  clear zf; intro v zf
  obtain rfl := Option.some.inj zf
  refine g_sipush h 255 (v := 255) (by decide) dJ1_charAt_3b067_9 ?_
  refine g_iand h dJ1_charAt_3b067_12 ?_
  refine g_i2c h dJ1_charAt_3b067_13 ?_
  exact g_nret h rfl (pk_nc _) ⟨rfl, rfl⟩ (Nat.le_refl _) (Nat.le_refl _) dJ1_charAt_3b067_14
def fJ0_charAt (o : Nat) (i : Int32) : Option Int32 := ck (1100 ≤ o ∧ o < 1123) <| b1 (fJ1_charAt (o + 100) i) fun v => ck (v = (v.toUInt32 % 65536).toInt32) <| some v
theorem cmJ0_charAt {l : Launch} {w : WX} {M : Mem} {o : Nat} {i res : Int32} (zf : fJ0_charAt o i = some res) : CM l w yJ0_charAt_5068e cJ0_charAt_5068e 2 (some .char) { frames := 3, cells := 0, slots := 0, locals := 130 } 0 0 [rv w o, .int i] M (Pri res M) := by
  obtain ⟨ho, zf⟩ := pre_ck zf
  obtain ⟨v, zq, zf⟩ := bd_some zf
  obtain ⟨hv, zf⟩ := pre_ck zf
  obtain rfl := Option.some.inj zf
  refine CM_of (by decide) (Nat.le_of_ble_eq_true rfl) (fun G hw hl h => ?_)
  subst hw
  change GG G _ 0 0 0 [(0, rv G.1 o), (1, .int i)] [] M
  refine g_aload_n h 0 rfl dJ0_charAt_5068e_0 ?_
  refine g_callTri (As := []) (rest := []) h ceJ0_isLatin1_aae02 mlJ0_492 rfl imJ0_isLatin1_aae02 seJ0_isLatin1_aae02 ho rfl rfl ⟨by decide, by decide⟩ ⟨by decide, by decide⟩ rfl dJ0_charAt_5068e_1 rfl (Nat.le_of_ble_eq_true rfl) (cmJ0_isLatin1 ho) ?_
  refine g_if_eq (A := (none : Option Unit)) (B := some ()) (res := ()) h 16 (by decide) (by decide) dJ0_charAt_5068e_4 (fun q => by cases q) (fun _ => ?_)
  refine g_aload_n h 0 rfl dJ0_charAt_5068e_7 ?_
  refine g_getVal h ho flJ0_9 dJ0_charAt_5068e_8 ?_
  refine g_iload_n h 1 rfl dJ0_charAt_5068e_11 ?_
  refine g_callSri (As := [rv G.1 (o + 100), .int i]) (rest := []) h ceJ1_charAt_3b067 mlJ0_495 smJ1_charAt_3b067 rfl rfl ⟨by decide, by decide⟩ ⟨by decide, by decide⟩ rfl dJ0_charAt_5068e_12 rfl (Nat.le_of_ble_eq_true rfl) (cmJ1_charAt zq) ?_
  exact g_nret h rfl (by rw [hv]; exact pk_nc _) ⟨rfl, rfl⟩ (Nat.le_refl _) (Nat.le_refl _) dJ0_charAt_5068e_15
def fJe_ordinal (o : Nat) : Option Int32 := ck (1000 ≤ o ∧ o < 1023) <| some (wOrd o)
theorem cmJe_ordinal {l : Launch} {w : WX} {M : Mem} {o : Nat} {res : Int32} (zf : fJe_ordinal o = some res) : CM l w yJx29ce0_ordinal_8abf5 cJx29ce0_ordinal_8abf5 1 (some .int) { frames := 0, cells := 0, slots := 0, locals := 0 } 0 0 [rv w o] M (Pri res M) := by
  obtain ⟨ho, zf⟩ := pre_ck zf
  obtain rfl := Option.some.inj zf
  refine CM_of (by decide) (Nat.le_of_ble_eq_true rfl) (fun G hw hl h => ?_)
  subst hw
  change GG G _ 0 0 0 [(0, rv G.1 o)] [] M
  refine g_aload_n h 0 rfl dJx29ce0_ordinal_8abf5_0 ?_
  refine g_getOrd h ho flJx29ce0_7 dJx29ce0_ordinal_8abf5_1 ?_
  exact g_iret h rfl ⟨rfl, rfl⟩ (Nat.le_refl _) (Nat.le_refl _) dJx29ce0_ordinal_8abf5_4
theorem sameOrd : Cond.sameMethod "TurnBrothers$Word" "java/lang/Enum" "ordinal" "()I" ∈ LW := List.mem_filter.mpr ⟨(List.mem_append_right _ (List.mem_append_right _ (List.mem_append_right _ (List.mem_append_right _ (List.mem_append_left _ (List.mem_of_getElem? (i := 88) rfl)))))), rfl⟩
theorem selOrd : Cond.selects "TurnBrothers$Word" ⟨"TurnBrothers$Word", "ordinal", "()I"⟩ ⟨"java/lang/Enum", "ordinal", "()I"⟩ ∈ LW := List.mem_filter.mpr ⟨(List.mem_append_right _ (List.mem_append_right _ (List.mem_append_right _ (List.mem_append_right _ (List.mem_append_left _ (List.mem_of_getElem? (i := 90) rfl)))))), rfl⟩
