/-! THE LAW'S LOOP -/
theorem lcmp_self (x : Int64) : lg_cmp x x = 0 := by
  unfold lg_cmp
  simp
def S1 (e : Nat) : Prop := e = 1
def S12 (e : Nat) : Prop := e = 1 ∨ e = 2
def brF (w : Option (Int32 × Mem)) (o2 : Mem → Option (Int32 × Mem)) (C : Mem → Option Int32) : Option Int32 := b2 w fun v N => b2 (o2 N) fun r N2 => b1 (fX13_thrown N2) fun t => if t = v then (if v = 0 then ldL N2 144 1 0 fun y => if lg_cmp y (Int32.toInt64 r) = 0 then C N2 else some 0 else C N2) else some 0
theorem brE {v : Nat} {w : Option (Int32 × Mem)} {M : Mem} {o2 : Mem → Option (Int32 × Mem)} {C : Mem → Option Int32} {A : LA} (h : Rel A M) (hv : v = 1 ∨ v = 2) (hw : w = some (nI v, M)) (hs : simM (o2 M) M (.error v)) (hC : ∀ N A', Rel A' N → C N = some 1) : brF w o2 C = some 1 := by
  obtain ⟨b, M2, o, ro, g⟩ := hs
  unfold brF fX13_thrown
  rw [hw, b2_s, o, b2_s, pu_s, b1_s, show gI M2 103 0 = nI v from g, if_pos rfl, if_neg (nI_ne0 (by omega) (by omega))]
  exact hC M2 A (h.ro ro)
theorem brO {w : Option (Int32 × Mem)} {M1 M2 : Mem} {o2 : Mem → Option (Int32 × Mem)} {C : Mem → Option Int32} {A : LA} {v : Int32} (hw : w = some (0, sL M1 144 0 (Int32.toInt64 v))) (ho : o2 (sL M1 144 0 (Int32.toInt64 v)) = some (v, M2)) (hr : Rel A M2) (h0 : gI M2 103 0 = 0) (hl : ∀ N g, KL g N → pm2 g (o2 N)) (hC : ∀ N A', Rel A' N → C N = some 1) : brF w o2 C = some 1 := by
  have hg : gL M2 144 0 = Int32.toInt64 v := hl _ _ (show KL (Int32.toInt64 v) (sL M1 144 0 (Int32.toInt64 v)) by unfold KL; rw [gL_sL, if_pos ⟨rfl, rfl⟩]) (v, M2) ho
  unfold brF fX13_thrown
  rw [hw, b2_s, ho, b2_s, pu_s, b1_s, h0, if_pos rfl, if_pos rfl, show (ldL M2 144 1 0 fun y => if lg_cmp y (Int32.toInt64 v) = 0 then C M2 else some 0) = if lg_cmp (gL M2 144 0) (Int32.toInt64 v) = 0 then C M2 else some 0 from ldL_nI (i := 0) (by decide) (by decide), hg, if_pos (lcmp_self _)]
  exact hC M2 A hr
theorem bT_ok {α β : Type} {a : α} {kx : Nat → Option β} {k : α → Option β} : bT (some (.ok a)) kx k = k a := Eq.trans rfl rfl
theorem st144 {M : Mem} {v : Int64} {K : Mem → Option (Int32 × Mem)} : stL M 144 1 0 v K = K (sL M 144 0 v) := stL_nI (i := 0) (by decide) (by decide)
theorem brR {A : LA} {M : Mem} (h : Rel A M) {o1 : Option (Except Nat Int32)} {o2 : Mem → Option (Int32 × Mem)} (hq : qR o1 o2 M) (he : Er S1 o1) (hl : ∀ N g, KL g N → pm2 g (o2 N)) {C : Mem → Option Int32} (hC : ∀ N A', Rel A' N → C N = some 1) : brF (bT o1 (fun e => if e = 1 then some (1, M) else none) fun a => stL M 144 1 0 (Int32.toInt64 a) fun M2 => some (0, M2)) o2 C = some 1 := by
  obtain ⟨sp, s1, s2⟩ := hq
  cases sp with
  | error e =>
    have e1 : e = 1 := he e s1
    subst e1
    exact brE (v := 1) h (Or.inl rfl) (by rw [s1]; rfl) (s2 M RO.rf) hC
  | ok a =>
    obtain ⟨b, M2, o, ro, g0, hb⟩ := s2 (sL M 144 0 (Int32.toInt64 a)) RO.rf.sL
    subst hb
    exact brO (by rw [s1, bT_ok]; exact st144) o (h.ro (RO.rf.sL.tr ro)) g0 hl hC
theorem brC {A : LA} {M : Mem} (h : Rel A M) {o1 : Option (Except Nat (Int32 × Mem))} {o2 : Mem → Option (Int32 × Mem)} (hq : qC o1 o2 M) (he : Er S1 o1) (hl : ∀ N g, KL g N → pm2 g (o2 N)) {C : Mem → Option Int32} (hC : ∀ N A', Rel A' N → C N = some 1) : brF (bT o1 (fun e => if e = 1 then some (1, M) else none) fun a => stL a.2 144 1 0 (Int32.toInt64 a.1) fun M2 => some (0, M2)) o2 C = some 1 := by
  obtain ⟨sp, s1, s2⟩ := hq
  cases sp with
  | error e =>
    have s1 : o1 = some (.error e) := s1
    have e1 : e = 1 := he e s1
    subst e1
    exact brE (v := 1) h (Or.inl rfl) (by rw [s1]; rfl) (s2 M RO.rf) hC
  | ok a =>
    obtain ⟨M1, s1, f⟩ := s1
    obtain ⟨b, M2, o, ro, g0, hb⟩ := s2 (sL M1 144 0 (Int32.toInt64 a)) f.sL
    subst hb
    exact brO (by rw [s1, bT_ok]; exact st144) o (h.ro (f.sL.tr ro)) g0 hl hC
theorem brC2 {A : LA} {M : Mem} (h : Rel A M) {o1 : Option (Except Nat (Int32 × Mem))} {o2 : Mem → Option (Int32 × Mem)} (hq : qC o1 o2 M) (he : Er S12 o1) (hl : ∀ N g, KL g N → pm2 g (o2 N)) {C : Mem → Option Int32} (hC : ∀ N A', Rel A' N → C N = some 1) : brF (bT o1 (fun e => if e = 1 then some (1, M) else some (2, M)) fun a => stL a.2 144 1 0 (Int32.toInt64 a.1) fun M2 => some (0, M2)) o2 C = some 1 := by
  obtain ⟨sp, s1, s2⟩ := hq
  cases sp with
  | error e =>
    have s1 : o1 = some (.error e) := s1
    rcases he e s1 with e1 | e1
    · subst e1
      exact brE (v := 1) h (Or.inl rfl) (by rw [s1]; rfl) (s2 M RO.rf) hC
    · subst e1
      exact brE (v := 2) h (Or.inr rfl) (by rw [s1]; rfl) (s2 M RO.rf) hC
  | ok a =>
    obtain ⟨M1, s1, f⟩ := s1
    obtain ⟨b, M2, o, ro, g0, hb⟩ := s2 (sL M1 144 0 (Int32.toInt64 a)) f.sL
    subst hb
    exact brO (by rw [s1, bT_ok]; exact st144) o (h.ro (f.sL.tr ro)) g0 hl hC
theorem brC1 {A : LA} {M : Mem} (h : Rel A M) {o1 : Option (Except Nat (Int32 × Mem))} {o2 : Mem → Option (Int32 × Mem)} (hq : qC1 o1 o2 M) (hl : ∀ N g, KL g N → pm2 g (o2 N)) {C : Mem → Option Int32} (hC : ∀ N A', Rel A' N → C N = some 1) : brF (bT o1 (fun e => if e = 1 then none else some (1, M)) fun a => stL a.2 144 1 0 (Int32.toInt64 a.1) fun M2 => some (0, M2)) o2 C = some 1 := by
  rcases hq with ⟨s1, s2⟩ | ⟨a, ⟨M1, s1, f⟩, s2⟩
  · exact brE (v := 1) h (Or.inl rfl) (by rw [s1]; rfl) (s2 M RO.rf) hC
  · obtain ⟨b, M2, o, ro, g0, hb⟩ := s2 (sL M1 144 0 (Int32.toInt64 a)) f.sL
    subst hb
    exact brO (by rw [s1, bT_ok]; exact st144) o (h.ro (f.sL.tr ro)) g0 hl hC
theorem brX {A : LA} {M : Mem} (h : Rel A M) {o1 : Option (Except Nat (Int32 × Mem))} {o2 : Mem → Option (Int32 × Mem)} (hq : qX o1 o2 M) (he : Er S1 o1) (hl : ∀ N g, KL g N → pm2 g (o2 N)) {C : Mem → Option Int32} (hC : ∀ N A', Rel A' N → C N = some 1) : brF (bT o1 (fun e => if e = 1 then some (1, M) else none) fun a => stL a.2 144 1 0 (Int32.toInt64 a.1) fun M2 => some (0, M2)) o2 C = some 1 := by
  rcases hq with ⟨e, s1, s2⟩ | ⟨v, M1, s1, s2⟩
  · have e1 : e = 1 := he e s1
    subst e1
    exact brE (v := 1) h (Or.inl rfl) (by rw [s1]; rfl) (s2 M RO.rf) hC
  · obtain ⟨M2, A', o, r, g0⟩ := s2 (Int32.toInt64 v)
    exact brO (by rw [s1, bT_ok]; exact st144) o r g0 hl hC
theorem brL {A : LA} {M : Mem} (h : Rel A M) {x : Int32} (hl : ∀ N g, KL g N → pm2 g (fX13_land N x)) {C : Mem → Option Int32} (hC : ∀ N A', Rel A' N → C N = some 1) : brF (fL_land M x) (fun N => fX13_land N x) C = some 1 := by
  unfold fL_land
  rcases land_a h x with ⟨s1, s2⟩ | ⟨v, M1, s1, s2⟩
  · exact brE (v := 1) h (Or.inl rfl) (by rw [s1]; rfl) (s2 M RO.rf) hC
  · obtain ⟨M2, A', o, r, g0⟩ := s2 (Int32.toInt64 v)
    exact brO (by rw [s1, bT_ok]; exact st144) o r g0 hl hC
theorem brA {o1 : Option (Int32 × Mem)} {o2 : Mem → Option (Int32 × Mem)} (hq : qA o1 o2) {C : Mem → Option Int32} (hC : ∀ N A', Rel A' N → C N = some 1) : (b2 o1 fun v N => b2 (o2 N) fun w N2 => if v = w then C N2 else some 0) = some 1 := by
  obtain ⟨v, M1, M2, A', s1, s2, r⟩ := hq
  rw [s1, b2_s, s2, b2_s, if_pos rfl]
  exact hC M2 A' r
theorem brN {A : LA} {M : Mem} (h : Rel A M) {o1 : Option (Int32 × Mem)} {o2 : Mem → Option (Int32 × Mem)} (hq : qN o1 o2 M) {C : Mem → Option Int32} (hC : ∀ N A', Rel A' N → C N = some 1) : (b2 o1 fun v N => b2 (o2 N) fun w N2 => if v = w then C N2 else some 0) = some 1 := by
  obtain ⟨v, M1, s1, f, s2⟩ := hq
  obtain ⟨M2, o, f2⟩ := s2 M1 f
  rw [s1, b2_s, o, b2_s, if_pos rfl]
  exact hC M2 A (h.ro (f.tr f2))
theorem brW {A : LA} {M : Mem} (h : Rel A M) {o1 : Option (Except Nat Int32)} {o2 : Mem → Option (Int32 × Mem)} (hq : qR o1 o2 M) (he : Er S1 o1) (hl : ∀ N g, KL g N → pm2 g (o2 N)) {C : Mem → Option Int32} (hC : ∀ N A', Rel A' N → C N = some 1) : (b2 (bT o1 (fun e => if e = 1 then some (1, M) else none) fun a => if a = 0 then stL M 144 1 0 0 fun M2 => some (0, M2) else stL M 144 1 0 1 fun M2 => some (0, M2)) fun v N => b2 (o2 N) fun r N2 => b1 (fX13_thrown N2) fun t => if t = v then (if v = 0 then ldL N2 144 1 0 fun y => if r = 0 then (if lg_cmp y 0 = 0 then C N2 else some 0) else (if lg_cmp y 1 = 0 then C N2 else some 0) else C N2) else some 0) = some 1 := by
  obtain ⟨sp, s1, s2⟩ := hq
  unfold fX13_thrown
  cases sp with
  | error e =>
    have e1 : e = 1 := he e s1
    subst e1
    obtain ⟨b, M2, o, ro, g⟩ := s2 M RO.rf
    rw [s1, show bT (some (Except.error 1 : Except Nat Int32)) (fun e => if e = 1 then some ((1 : Int32), M) else none) (fun a => if a = 0 then stL M 144 1 0 0 fun M2 => some (0, M2) else stL M 144 1 0 1 fun M2 => some (0, M2)) = some (1, M) from rfl, b2_s, o, b2_s, pu_s, b1_s, show gI M2 103 0 = 1 from g, if_pos rfl, if_neg (by decide)]
    exact hC M2 A (h.ro ro)
  | ok a =>
    have key : ∀ u : Int64, (u = if a = 0 then 0 else 1) → (if a = 0 then stL M 144 1 0 0 fun M2 => some ((0 : Int32), M2) else stL M 144 1 0 1 fun M2 => some (0, M2)) = some (0, sL M 144 0 u) := fun u hu => by
      by_cases z : a = 0
      · rw [if_pos z] at hu ⊢
        rw [hu]; exact st144
      · rw [if_neg z] at hu ⊢
        rw [hu]; exact st144
    obtain ⟨b, M2, o, ro, g0, hb⟩ := s2 (sL M 144 0 (if a = 0 then 0 else 1)) RO.rf.sL
    subst hb
    have hg : gL M2 144 0 = (if b = 0 then 0 else 1) := hl _ _ (show KL (if b = 0 then 0 else 1) (sL M 144 0 (if b = 0 then 0 else 1)) by unfold KL; rw [gL_sL, if_pos ⟨rfl, rfl⟩]) (b, M2) o
    rw [s1, show bT (some (Except.ok b : Except Nat Int32)) (fun e => if e = 1 then some ((1 : Int32), M) else none) (fun a => if a = 0 then stL M 144 1 0 0 fun M2 => some (0, M2) else stL M 144 1 0 1 fun M2 => some (0, M2)) = (if b = 0 then stL M 144 1 0 0 fun M2 => some (0, M2) else stL M 144 1 0 1 fun M2 => some (0, M2)) from rfl, key _ rfl, b2_s, o, b2_s, pu_s, b1_s, g0, if_pos rfl, if_pos rfl]
    rw [show (ldL M2 144 1 0 fun y => if b = 0 then (if lg_cmp y 0 = 0 then C M2 else some 0) else (if lg_cmp y 1 = 0 then C M2 else some 0)) = (if b = 0 then (if lg_cmp (gL M2 144 0) 0 = 0 then C M2 else some 0) else (if lg_cmp (gL M2 144 0) 1 = 0 then C M2 else some 0)) from ldL_nI (i := 0) (by decide) (by decide), hg]
    by_cases z : b = 0
    · rw [if_pos z, if_pos z, if_pos (lcmp_self _)]
      exact hC M2 A (h.ro (RO.rf.sL.tr ro))
    · rw [if_neg z, if_neg z, if_pos (lcmp_self _)]
      exact hC M2 A (h.ro (RO.rf.sL.tr ro))
theorem lb_feed {xs : Nat → Int32} {L i : Nat} (hi : i + 6 ≤ L) (hL : L ≤ 100000) {a : Mem → Int32 → Option Int32} {A : LA} {M : Mem} (h : Rel A M) (hC : ∀ N A', Rel A' N → fL_law_b2164 xs L a N (nI i) = some 1) : fL_law_b212 xs L a M (nI i) = some 1 := by
  have hx1 : ∀ {β : Type} (k : Int32 → Option β), ldX xs L (nI i + 1) k = k (xs (i + 1)) := fun k => by
    rw [show (1 : Int32) = nI 1 from rfl, nI_add]
    unfold ldX
    rw [nI_clamp (by omega), if_neg (by rintro (y | y); exact nI_pos (by omega) y; omega)]
  have hx2 : ∀ {β : Type} (k : Int32 → Option β), ldX xs L (nI i + 2) k = k (xs (i + 2)) := fun k => by
    rw [show (2 : Int32) = nI 2 from rfl, nI_add]
    unfold ldX
    rw [nI_clamp (by omega), if_neg (by rintro (y | y); exact nI_pos (by omega) y; omega)]
  have hx3 : ∀ {β : Type} (k : Int32 → Option β), ldX xs L (nI i + 3) k = k (xs (i + 3)) := fun k => by
    rw [show (3 : Int32) = nI 3 from rfl, nI_add]
    unfold ldX
    rw [nI_clamp (by omega), if_neg (by rintro (y | y); exact nI_pos (by omega) y; omega)]
  have hx4 : ∀ {β : Type} (k : Int32 → Option β), ldX xs L (nI i + 4) k = k (xs (i + 4)) := fun k => by
    rw [show (4 : Int32) = nI 4 from rfl, nI_add]
    unfold ldX
    rw [nI_clamp (by omega), if_neg (by rintro (y | y); exact nI_pos (by omega) y; omega)]
  have hx5 : ∀ {β : Type} (k : Int32 → Option β), ldX xs L (nI i + 5) k = k (xs (i + 5)) := fun k => by
    rw [show (5 : Int32) = nI 5 from rfl, nI_add]
    unfold ldX
    rw [nI_clamp (by omega), if_neg (by rintro (y | y); exact nI_pos (by omega) y; omega)]
  unfold fL_law_b212
  simp only [hx1, hx2, hx3, hx4, hx5]
  exact brA (feed_a h (xs (i + 1)) (xs (i + 2)) (xs (i + 3)) (xs (i + 4)) (xs (i + 5))) hC
theorem lb_land {xs : Nat → Int32} {L i : Nat} (hi : i + 6 ≤ L) (hL : L ≤ 100000) {a : Mem → Int32 → Option Int32} {A : LA} {M : Mem} (h : Rel A M) (hC : ∀ N A', Rel A' N → fL_law_b2164 xs L a N (nI i) = some 1) : fL_law_b285 xs L a M (nI i) = some 1 := by
  have hx1 : ∀ {β : Type} (k : Int32 → Option β), ldX xs L (nI i + 1) k = k (xs (i + 1)) := fun k => by
    rw [show (1 : Int32) = nI 1 from rfl, nI_add]
    unfold ldX
    rw [nI_clamp (by omega), if_neg (by rintro (y | y); exact nI_pos (by omega) y; omega)]
  unfold fL_law_b285
  simp only [hx1]
  exact brL h (fun N g kg => pl_fX13_land kg) hC
theorem lb_fault {xs : Nat → Int32} {L i : Nat} (hi : i + 6 ≤ L) (hL : L ≤ 100000) {a : Mem → Int32 → Option Int32} {A : LA} {M : Mem} (h : Rel A M) (hC : ∀ N A', Rel A' N → fL_law_b2164 xs L a N (nI i) = some 1) : fL_law_b341 xs L a M (nI i) = some 1 := by
  unfold fL_law_b341
  obtain ⟨f1, M2, f2, f3⟩ := fault_q h
  rw [f1, b1_s, f2, b2_s, if_pos rfl]
  exact hC M2 A (h.ro f3)
theorem lb_count {xs : Nat → Int32} {L i : Nat} (hi : i + 6 ≤ L) (hL : L ≤ 100000) {a : Mem → Int32 → Option Int32} {A : LA} {M : Mem} (h : Rel A M) (hC : ∀ N A', Rel A' N → fL_law_b2164 xs L a N (nI i) = some 1) : fL_law_b354 xs L a M (nI i) = some 1 := by
  have hx1 : ∀ {β : Type} (k : Int32 → Option β), ldX xs L (nI i + 1) k = k (xs (i + 1)) := fun k => by
    rw [show (1 : Int32) = nI 1 from rfl, nI_add]
    unfold ldX
    rw [nI_clamp (by omega), if_neg (by rintro (y | y); exact nI_pos (by omega) y; omega)]
  unfold fL_law_b354
  simp only [hx1]
  exact brR h (count_q h (xs (i + 1))) (er_fX12_count (S := S1) (s1 := rfl)) (fun N g kg => pl_fX13_count kg) hC
theorem lb_deed {xs : Nat → Int32} {L i : Nat} (hi : i + 6 ≤ L) (hL : L ≤ 100000) {a : Mem → Int32 → Option Int32} {A : LA} {M : Mem} (h : Rel A M) (hC : ∀ N A', Rel A' N → fL_law_b2164 xs L a N (nI i) = some 1) : fL_law_b410 xs L a M (nI i) = some 1 := by
  have hx1 : ∀ {β : Type} (k : Int32 → Option β), ldX xs L (nI i + 1) k = k (xs (i + 1)) := fun k => by
    rw [show (1 : Int32) = nI 1 from rfl, nI_add]
    unfold ldX
    rw [nI_clamp (by omega), if_neg (by rintro (y | y); exact nI_pos (by omega) y; omega)]
  have hx2 : ∀ {β : Type} (k : Int32 → Option β), ldX xs L (nI i + 2) k = k (xs (i + 2)) := fun k => by
    rw [show (2 : Int32) = nI 2 from rfl, nI_add]
    unfold ldX
    rw [nI_clamp (by omega), if_neg (by rintro (y | y); exact nI_pos (by omega) y; omega)]
  unfold fL_law_b410
  simp only [hx1, hx2]
  exact brR h (deed_q h (xs (i + 1)) (xs (i + 2))) (er_fX12_deed (S := S1) (s1 := rfl)) (fun N g kg => pl_fX13_deed kg) hC
theorem lb_brother {xs : Nat → Int32} {L i : Nat} (hi : i + 6 ≤ L) (hL : L ≤ 100000) {a : Mem → Int32 → Option Int32} {A : LA} {M : Mem} (h : Rel A M) (hC : ∀ N A', Rel A' N → fL_law_b2164 xs L a N (nI i) = some 1) : fL_law_b478 xs L a M (nI i) = some 1 := by
  have hx1 : ∀ {β : Type} (k : Int32 → Option β), ldX xs L (nI i + 1) k = k (xs (i + 1)) := fun k => by
    rw [show (1 : Int32) = nI 1 from rfl, nI_add]
    unfold ldX
    rw [nI_clamp (by omega), if_neg (by rintro (y | y); exact nI_pos (by omega) y; omega)]
  have hx2 : ∀ {β : Type} (k : Int32 → Option β), ldX xs L (nI i + 2) k = k (xs (i + 2)) := fun k => by
    rw [show (2 : Int32) = nI 2 from rfl, nI_add]
    unfold ldX
    rw [nI_clamp (by omega), if_neg (by rintro (y | y); exact nI_pos (by omega) y; omega)]
  unfold fL_law_b478
  simp only [hx1, hx2]
  exact brC h (brother_q h (xs (i + 1)) (xs (i + 2))) (er_fX12_brother (S := S1) (s1 := rfl)) (fun N g kg => pl_fX13_brother kg) hC
theorem lb_way {xs : Nat → Int32} {L i : Nat} (hi : i + 6 ≤ L) (hL : L ≤ 100000) {a : Mem → Int32 → Option Int32} {A : LA} {M : Mem} (h : Rel A M) (hC : ∀ N A', Rel A' N → fL_law_b2164 xs L a N (nI i) = some 1) : fL_law_b546 xs L a M (nI i) = some 1 := by
  have hx1 : ∀ {β : Type} (k : Int32 → Option β), ldX xs L (nI i + 1) k = k (xs (i + 1)) := fun k => by
    rw [show (1 : Int32) = nI 1 from rfl, nI_add]
    unfold ldX
    rw [nI_clamp (by omega), if_neg (by rintro (y | y); exact nI_pos (by omega) y; omega)]
  have hx2 : ∀ {β : Type} (k : Int32 → Option β), ldX xs L (nI i + 2) k = k (xs (i + 2)) := fun k => by
    rw [show (2 : Int32) = nI 2 from rfl, nI_add]
    unfold ldX
    rw [nI_clamp (by omega), if_neg (by rintro (y | y); exact nI_pos (by omega) y; omega)]
  unfold fL_law_b546
  simp only [hx1, hx2]
  exact brR h (way_q h (xs (i + 1)) (xs (i + 2))) (er_fX12_way (S := S1) (s1 := rfl)) (fun N g kg => pl_fX13_way kg) hC
theorem lb_friend {xs : Nat → Int32} {L i : Nat} (hi : i + 6 ≤ L) (hL : L ≤ 100000) {a : Mem → Int32 → Option Int32} {A : LA} {M : Mem} (h : Rel A M) (hC : ∀ N A', Rel A' N → fL_law_b2164 xs L a N (nI i) = some 1) : fL_law_b614 xs L a M (nI i) = some 1 := by
  have hx1 : ∀ {β : Type} (k : Int32 → Option β), ldX xs L (nI i + 1) k = k (xs (i + 1)) := fun k => by
    rw [show (1 : Int32) = nI 1 from rfl, nI_add]
    unfold ldX
    rw [nI_clamp (by omega), if_neg (by rintro (y | y); exact nI_pos (by omega) y; omega)]
  have hx2 : ∀ {β : Type} (k : Int32 → Option β), ldX xs L (nI i + 2) k = k (xs (i + 2)) := fun k => by
    rw [show (2 : Int32) = nI 2 from rfl, nI_add]
    unfold ldX
    rw [nI_clamp (by omega), if_neg (by rintro (y | y); exact nI_pos (by omega) y; omega)]
  unfold fL_law_b614
  simp only [hx1, hx2]
  exact brC h (friend_q h (xs (i + 1)) (xs (i + 2))) (er_fX12_friend (S := S1) (s1 := rfl)) (fun N g kg => pl_fX13_friend kg) hC
theorem lb_years {xs : Nat → Int32} {L i : Nat} (hi : i + 6 ≤ L) (hL : L ≤ 100000) {a : Mem → Int32 → Option Int32} {A : LA} {M : Mem} (h : Rel A M) (hC : ∀ N A', Rel A' N → fL_law_b2164 xs L a N (nI i) = some 1) : fL_law_b682 xs L a M (nI i) = some 1 := by
  have hx1 : ∀ {β : Type} (k : Int32 → Option β), ldX xs L (nI i + 1) k = k (xs (i + 1)) := fun k => by
    rw [show (1 : Int32) = nI 1 from rfl, nI_add]
    unfold ldX
    rw [nI_clamp (by omega), if_neg (by rintro (y | y); exact nI_pos (by omega) y; omega)]
  unfold fL_law_b682
  simp only [hx1]
  exact brA (years_a h (xs (i + 1))) hC
theorem lb_change {xs : Nat → Int32} {L i : Nat} (hi : i + 6 ≤ L) (hL : L ≤ 100000) {a : Mem → Int32 → Option Int32} {A : LA} {M : Mem} (h : Rel A M) (hC : ∀ N A', Rel A' N → fL_law_b2164 xs L a N (nI i) = some 1) : fL_law_b707 xs L a M (nI i) = some 1 := by
  have hx1 : ∀ {β : Type} (k : Int32 → Option β), ldX xs L (nI i + 1) k = k (xs (i + 1)) := fun k => by
    rw [show (1 : Int32) = nI 1 from rfl, nI_add]
    unfold ldX
    rw [nI_clamp (by omega), if_neg (by rintro (y | y); exact nI_pos (by omega) y; omega)]
  have hx2 : ∀ {β : Type} (k : Int32 → Option β), ldX xs L (nI i + 2) k = k (xs (i + 2)) := fun k => by
    rw [show (2 : Int32) = nI 2 from rfl, nI_add]
    unfold ldX
    rw [nI_clamp (by omega), if_neg (by rintro (y | y); exact nI_pos (by omega) y; omega)]
  have hx3 : ∀ {β : Type} (k : Int32 → Option β), ldX xs L (nI i + 3) k = k (xs (i + 3)) := fun k => by
    rw [show (3 : Int32) = nI 3 from rfl, nI_add]
    unfold ldX
    rw [nI_clamp (by omega), if_neg (by rintro (y | y); exact nI_pos (by omega) y; omega)]
  unfold fL_law_b707
  simp only [hx1, hx2, hx3]
  exact brX h (change_a h (xs (i + 1)) (xs (i + 2)) (xs (i + 3))) (er_fX12_change (S := S1) (s1 := rfl)) (fun N g kg => pl_fX13_change kg) hC
theorem lb_term {xs : Nat → Int32} {L i : Nat} (hi : i + 6 ≤ L) (hL : L ≤ 100000) {a : Mem → Int32 → Option Int32} {A : LA} {M : Mem} (h : Rel A M) (hC : ∀ N A', Rel A' N → fL_law_b2164 xs L a N (nI i) = some 1) : fL_law_b787 xs L a M (nI i) = some 1 := by
  have hx1 : ∀ {β : Type} (k : Int32 → Option β), ldX xs L (nI i + 1) k = k (xs (i + 1)) := fun k => by
    rw [show (1 : Int32) = nI 1 from rfl, nI_add]
    unfold ldX
    rw [nI_clamp (by omega), if_neg (by rintro (y | y); exact nI_pos (by omega) y; omega)]
  unfold fL_law_b787
  simp only [hx1]
  exact brA (term_a h (xs (i + 1))) hC
theorem lb_loan {xs : Nat → Int32} {L i : Nat} (hi : i + 6 ≤ L) (hL : L ≤ 100000) {a : Mem → Int32 → Option Int32} {A : LA} {M : Mem} (h : Rel A M) (hC : ∀ N A', Rel A' N → fL_law_b2164 xs L a N (nI i) = some 1) : fL_law_b812 xs L a M (nI i) = some 1 := by
  have hx1 : ∀ {β : Type} (k : Int32 → Option β), ldX xs L (nI i + 1) k = k (xs (i + 1)) := fun k => by
    rw [show (1 : Int32) = nI 1 from rfl, nI_add]
    unfold ldX
    rw [nI_clamp (by omega), if_neg (by rintro (y | y); exact nI_pos (by omega) y; omega)]
  unfold fL_law_b812
  simp only [hx1]
  exact brA (loan_a h (xs (i + 1))) hC
theorem lb_gift {xs : Nat → Int32} {L i : Nat} (hi : i + 6 ≤ L) (hL : L ≤ 100000) {a : Mem → Int32 → Option Int32} {A : LA} {M : Mem} (h : Rel A M) (hC : ∀ N A', Rel A' N → fL_law_b2164 xs L a N (nI i) = some 1) : fL_law_b837 xs L a M (nI i) = some 1 := by
  have hx1 : ∀ {β : Type} (k : Int32 → Option β), ldX xs L (nI i + 1) k = k (xs (i + 1)) := fun k => by
    rw [show (1 : Int32) = nI 1 from rfl, nI_add]
    unfold ldX
    rw [nI_clamp (by omega), if_neg (by rintro (y | y); exact nI_pos (by omega) y; omega)]
  have hx2 : ∀ {β : Type} (k : Int32 → Option β), ldX xs L (nI i + 2) k = k (xs (i + 2)) := fun k => by
    rw [show (2 : Int32) = nI 2 from rfl, nI_add]
    unfold ldX
    rw [nI_clamp (by omega), if_neg (by rintro (y | y); exact nI_pos (by omega) y; omega)]
  unfold fL_law_b837
  simp only [hx1, hx2]
  exact brX h (gift_a h (xs (i + 1)) (xs (i + 2))) (er_fX12_gift (S := S1) (s1 := rfl)) (fun N g kg => pl_fX13_gift kg) hC
theorem lb_undo {xs : Nat → Int32} {L i : Nat} (hi : i + 6 ≤ L) (hL : L ≤ 100000) {a : Mem → Int32 → Option Int32} {A : LA} {M : Mem} (h : Rel A M) (hC : ∀ N A', Rel A' N → fL_law_b2164 xs L a N (nI i) = some 1) : fL_law_b905 xs L a M (nI i) = some 1 := by
  unfold fL_law_b905
  exact brA (undo_a h) hC
theorem lb_then {xs : Nat → Int32} {L i : Nat} (hi : i + 6 ≤ L) (hL : L ≤ 100000) {a : Mem → Int32 → Option Int32} {A : LA} {M : Mem} (h : Rel A M) (hC : ∀ N A', Rel A' N → fL_law_b2164 xs L a N (nI i) = some 1) : fL_law_b918 xs L a M (nI i) = some 1 := by
  have hx1 : ∀ {β : Type} (k : Int32 → Option β), ldX xs L (nI i + 1) k = k (xs (i + 1)) := fun k => by
    rw [show (1 : Int32) = nI 1 from rfl, nI_add]
    unfold ldX
    rw [nI_clamp (by omega), if_neg (by rintro (y | y); exact nI_pos (by omega) y; omega)]
  have hx2 : ∀ {β : Type} (k : Int32 → Option β), ldX xs L (nI i + 2) k = k (xs (i + 2)) := fun k => by
    rw [show (2 : Int32) = nI 2 from rfl, nI_add]
    unfold ldX
    rw [nI_clamp (by omega), if_neg (by rintro (y | y); exact nI_pos (by omega) y; omega)]
  unfold fL_law_b918
  simp only [hx1, hx2]
  exact brC2 h (then_q h (xs (i + 1)) (xs (i + 2))) (er_fX12_then (S := S12) (s1 := Or.inl rfl) (s2 := Or.inr rfl)) (fun N g kg => pl_fX13_then kg) hC
theorem lb_stays {xs : Nat → Int32} {L i : Nat} (hi : i + 6 ≤ L) (hL : L ≤ 100000) {a : Mem → Int32 → Option Int32} {A : LA} {M : Mem} (h : Rel A M) (hC : ∀ N A', Rel A' N → fL_law_b2164 xs L a N (nI i) = some 1) : fL_law_b986 xs L a M (nI i) = some 1 := by
  have hx1 : ∀ {β : Type} (k : Int32 → Option β), ldX xs L (nI i + 1) k = k (xs (i + 1)) := fun k => by
    rw [show (1 : Int32) = nI 1 from rfl, nI_add]
    unfold ldX
    rw [nI_clamp (by omega), if_neg (by rintro (y | y); exact nI_pos (by omega) y; omega)]
  unfold fL_law_b986
  simp only [hx1]
  exact brC h (stays_q h (xs (i + 1))) (er_fX12_stays (S := S1) (s1 := rfl)) (fun N g kg => pl_fX13_stays kg) hC
theorem lb_fair {xs : Nat → Int32} {L i : Nat} (hi : i + 6 ≤ L) (hL : L ≤ 100000) {a : Mem → Int32 → Option Int32} {A : LA} {M : Mem} (h : Rel A M) (hC : ∀ N A', Rel A' N → fL_law_b2164 xs L a N (nI i) = some 1) : fL_law_b1042 xs L a M (nI i) = some 1 := by
  unfold fL_law_b1042
  exact brN h (fair_q h) hC
theorem lb_least {xs : Nat → Int32} {L i : Nat} (hi : i + 6 ≤ L) (hL : L ≤ 100000) {a : Mem → Int32 → Option Int32} {A : LA} {M : Mem} (h : Rel A M) (hC : ∀ N A', Rel A' N → fL_law_b2164 xs L a N (nI i) = some 1) : fL_law_b1055 xs L a M (nI i) = some 1 := by
  unfold fL_law_b1055
  exact brN h (least_q h) hC
theorem lb_cost {xs : Nat → Int32} {L i : Nat} (hi : i + 6 ≤ L) (hL : L ≤ 100000) {a : Mem → Int32 → Option Int32} {A : LA} {M : Mem} (h : Rel A M) (hC : ∀ N A', Rel A' N → fL_law_b2164 xs L a N (nI i) = some 1) : fL_law_b1068 xs L a M (nI i) = some 1 := by
  have hx1 : ∀ {β : Type} (k : Int32 → Option β), ldX xs L (nI i + 1) k = k (xs (i + 1)) := fun k => by
    rw [show (1 : Int32) = nI 1 from rfl, nI_add]
    unfold ldX
    rw [nI_clamp (by omega), if_neg (by rintro (y | y); exact nI_pos (by omega) y; omega)]
  unfold fL_law_b1068
  simp only [hx1]
  exact brC1 h (cost_q h (xs (i + 1))) (fun N g kg => pl_fX13_cost kg) hC
theorem lb_plan {xs : Nat → Int32} {L i : Nat} (hi : i + 6 ≤ L) (hL : L ≤ 100000) {a : Mem → Int32 → Option Int32} {A : LA} {M : Mem} (h : Rel A M) (hC : ∀ N A', Rel A' N → fL_law_b2164 xs L a N (nI i) = some 1) : fL_law_b1124 xs L a M (nI i) = some 1 := by
  have hx1 : ∀ {β : Type} (k : Int32 → Option β), ldX xs L (nI i + 1) k = k (xs (i + 1)) := fun k => by
    rw [show (1 : Int32) = nI 1 from rfl, nI_add]
    unfold ldX
    rw [nI_clamp (by omega), if_neg (by rintro (y | y); exact nI_pos (by omega) y; omega)]
  have hx2 : ∀ {β : Type} (k : Int32 → Option β), ldX xs L (nI i + 2) k = k (xs (i + 2)) := fun k => by
    rw [show (2 : Int32) = nI 2 from rfl, nI_add]
    unfold ldX
    rw [nI_clamp (by omega), if_neg (by rintro (y | y); exact nI_pos (by omega) y; omega)]
  unfold fL_law_b1124
  simp only [hx1, hx2]
  exact brC2 h (plan_q h (xs (i + 1)) (xs (i + 2))) (er_fX12_plan (S := S12) (s1 := Or.inl rfl) (s2 := Or.inr rfl)) (fun N g kg => pl_fX13_plan kg) hC
theorem lb_wins {xs : Nat → Int32} {L i : Nat} (hi : i + 6 ≤ L) (hL : L ≤ 100000) {a : Mem → Int32 → Option Int32} {A : LA} {M : Mem} (h : Rel A M) (hC : ∀ N A', Rel A' N → fL_law_b2164 xs L a N (nI i) = some 1) : fL_law_b1192 xs L a M (nI i) = some 1 := by
  have hx1 : ∀ {β : Type} (k : Int32 → Option β), ldX xs L (nI i + 1) k = k (xs (i + 1)) := fun k => by
    rw [show (1 : Int32) = nI 1 from rfl, nI_add]
    unfold ldX
    rw [nI_clamp (by omega), if_neg (by rintro (y | y); exact nI_pos (by omega) y; omega)]
  have hx2 : ∀ {β : Type} (k : Int32 → Option β), ldX xs L (nI i + 2) k = k (xs (i + 2)) := fun k => by
    rw [show (2 : Int32) = nI 2 from rfl, nI_add]
    unfold ldX
    rw [nI_clamp (by omega), if_neg (by rintro (y | y); exact nI_pos (by omega) y; omega)]
  unfold fL_law_b1192 fL_law_b1258
  simp only [hx1, hx2]
  exact brW h (wins_q h (xs (i + 1)) (xs (i + 2))) (er_fX12_wins (S := S1) (s1 := rfl)) (fun N g kg => pl_fX13_wins kg) hC
theorem lb_assault {xs : Nat → Int32} {L i : Nat} (hi : i + 6 ≤ L) (hL : L ≤ 100000) {a : Mem → Int32 → Option Int32} {A : LA} {M : Mem} (h : Rel A M) (hC : ∀ N A', Rel A' N → fL_law_b2164 xs L a N (nI i) = some 1) : fL_law_b1267 xs L a M (nI i) = some 1 := by
  have hx1 : ∀ {β : Type} (k : Int32 → Option β), ldX xs L (nI i + 1) k = k (xs (i + 1)) := fun k => by
    rw [show (1 : Int32) = nI 1 from rfl, nI_add]
    unfold ldX
    rw [nI_clamp (by omega), if_neg (by rintro (y | y); exact nI_pos (by omega) y; omega)]
  unfold fL_law_b1267
  simp only [hx1]
  exact brC h (assault_q h (xs (i + 1))) (er_fX12_assault (S := S1) (s1 := rfl)) (fun N g kg => pl_fX13_assault kg) hC
theorem lb_bought {xs : Nat → Int32} {L i : Nat} (hi : i + 6 ≤ L) (hL : L ≤ 100000) {a : Mem → Int32 → Option Int32} {A : LA} {M : Mem} (h : Rel A M) (hC : ∀ N A', Rel A' N → fL_law_b2164 xs L a N (nI i) = some 1) : fL_law_b1323 xs L a M (nI i) = some 1 := by
  have hx1 : ∀ {β : Type} (k : Int32 → Option β), ldX xs L (nI i + 1) k = k (xs (i + 1)) := fun k => by
    rw [show (1 : Int32) = nI 1 from rfl, nI_add]
    unfold ldX
    rw [nI_clamp (by omega), if_neg (by rintro (y | y); exact nI_pos (by omega) y; omega)]
  unfold fL_law_b1323
  simp only [hx1]
  exact brR h (bought_q h (xs (i + 1))) (er_fX12_bought (S := S1) (s1 := rfl)) (fun N g kg => pl_fX13_bought kg) hC
theorem lb_odds {xs : Nat → Int32} {L i : Nat} (hi : i + 6 ≤ L) (hL : L ≤ 100000) {a : Mem → Int32 → Option Int32} {A : LA} {M : Mem} (h : Rel A M) (hC : ∀ N A', Rel A' N → fL_law_b2164 xs L a N (nI i) = some 1) : fL_law_b1379 xs L a M (nI i) = some 1 := by
  have hx1 : ∀ {β : Type} (k : Int32 → Option β), ldX xs L (nI i + 1) k = k (xs (i + 1)) := fun k => by
    rw [show (1 : Int32) = nI 1 from rfl, nI_add]
    unfold ldX
    rw [nI_clamp (by omega), if_neg (by rintro (y | y); exact nI_pos (by omega) y; omega)]
  have hx2 : ∀ {β : Type} (k : Int32 → Option β), ldX xs L (nI i + 2) k = k (xs (i + 2)) := fun k => by
    rw [show (2 : Int32) = nI 2 from rfl, nI_add]
    unfold ldX
    rw [nI_clamp (by omega), if_neg (by rintro (y | y); exact nI_pos (by omega) y; omega)]
  have hx3 : ∀ {β : Type} (k : Int32 → Option β), ldX xs L (nI i + 3) k = k (xs (i + 3)) := fun k => by
    rw [show (3 : Int32) = nI 3 from rfl, nI_add]
    unfold ldX
    rw [nI_clamp (by omega), if_neg (by rintro (y | y); exact nI_pos (by omega) y; omega)]
  unfold fL_law_b1379
  simp only [hx1, hx2, hx3]
  exact brC2 h (odds_q h (xs (i + 1)) (xs (i + 2)) (xs (i + 3))) (er_fX12_odds (S := S12) (s1 := Or.inl rfl) (s2 := Or.inr rfl)) (fun N g kg => pl_fX13_odds kg) hC
theorem lb_moved {xs : Nat → Int32} {L i : Nat} (hi : i + 6 ≤ L) (hL : L ≤ 100000) {a : Mem → Int32 → Option Int32} {A : LA} {M : Mem} (h : Rel A M) (hC : ∀ N A', Rel A' N → fL_law_b2164 xs L a N (nI i) = some 1) : fL_law_b1459 xs L a M (nI i) = some 1 := by
  have hx1 : ∀ {β : Type} (k : Int32 → Option β), ldX xs L (nI i + 1) k = k (xs (i + 1)) := fun k => by
    rw [show (1 : Int32) = nI 1 from rfl, nI_add]
    unfold ldX
    rw [nI_clamp (by omega), if_neg (by rintro (y | y); exact nI_pos (by omega) y; omega)]
  have hx2 : ∀ {β : Type} (k : Int32 → Option β), ldX xs L (nI i + 2) k = k (xs (i + 2)) := fun k => by
    rw [show (2 : Int32) = nI 2 from rfl, nI_add]
    unfold ldX
    rw [nI_clamp (by omega), if_neg (by rintro (y | y); exact nI_pos (by omega) y; omega)]
  unfold fL_law_b1459
  simp only [hx1, hx2]
  exact brC2 h (moved_q h (xs (i + 1)) (xs (i + 2))) (er_fX12_moved (S := S12) (s1 := Or.inl rfl) (s2 := Or.inr rfl)) (fun N g kg => pl_fX13_moved kg) hC
theorem lb_parties {xs : Nat → Int32} {L i : Nat} (hi : i + 6 ≤ L) (hL : L ≤ 100000) {a : Mem → Int32 → Option Int32} {A : LA} {M : Mem} (h : Rel A M) (hC : ∀ N A', Rel A' N → fL_law_b2164 xs L a N (nI i) = some 1) : fL_law_b1527 xs L a M (nI i) = some 1 := by
  have hx1 : ∀ {β : Type} (k : Int32 → Option β), ldX xs L (nI i + 1) k = k (xs (i + 1)) := fun k => by
    rw [show (1 : Int32) = nI 1 from rfl, nI_add]
    unfold ldX
    rw [nI_clamp (by omega), if_neg (by rintro (y | y); exact nI_pos (by omega) y; omega)]
  unfold fL_law_b1527
  simp only [hx1]
  exact brR h (parties_q h (xs (i + 1))) (er_fX12_parties (S := S1) (s1 := rfl)) (fun N g kg => pl_fX13_parties kg) hC
theorem lb_see {xs : Nat → Int32} {L i : Nat} (hi : i + 6 ≤ L) (hL : L ≤ 100000) {a : Mem → Int32 → Option Int32} {A : LA} {M : Mem} (h : Rel A M) (hC : ∀ N A', Rel A' N → fL_law_b2164 xs L a N (nI i) = some 1) : fL_law_b1583 xs L a M (nI i) = some 1 := by
  have hx1 : ∀ {β : Type} (k : Int32 → Option β), ldX xs L (nI i + 1) k = k (xs (i + 1)) := fun k => by
    rw [show (1 : Int32) = nI 1 from rfl, nI_add]
    unfold ldX
    rw [nI_clamp (by omega), if_neg (by rintro (y | y); exact nI_pos (by omega) y; omega)]
  have hx2 : ∀ {β : Type} (k : Int32 → Option β), ldX xs L (nI i + 2) k = k (xs (i + 2)) := fun k => by
    rw [show (2 : Int32) = nI 2 from rfl, nI_add]
    unfold ldX
    rw [nI_clamp (by omega), if_neg (by rintro (y | y); exact nI_pos (by omega) y; omega)]
  unfold fL_law_b1583
  simp only [hx1, hx2]
  exact brA (see_a h (xs (i + 1)) (xs (i + 2))) hC
theorem lb_forget {xs : Nat → Int32} {L i : Nat} (hi : i + 6 ≤ L) (hL : L ≤ 100000) {a : Mem → Int32 → Option Int32} {A : LA} {M : Mem} (h : Rel A M) (hC : ∀ N A', Rel A' N → fL_law_b2164 xs L a N (nI i) = some 1) : fL_law_b1620 xs L a M (nI i) = some 1 := by
  unfold fL_law_b1620
  obtain ⟨M1, M2, f1, f2, f3⟩ := forget_a h
  rw [f1, b1_s, f2, b1_s]
  exact hC M2 A f3
theorem lb_another {xs : Nat → Int32} {L i : Nat} (hi : i + 6 ≤ L) (hL : L ≤ 100000) {a : Mem → Int32 → Option Int32} {A : LA} {M : Mem} (h : Rel A M) (hC : ∀ N A', Rel A' N → fL_law_b2164 xs L a N (nI i) = some 1) : fL_law_b1631 xs L a M (nI i) = some 1 := by
  have hx1 : ∀ {β : Type} (k : Int32 → Option β), ldX xs L (nI i + 1) k = k (xs (i + 1)) := fun k => by
    rw [show (1 : Int32) = nI 1 from rfl, nI_add]
    unfold ldX
    rw [nI_clamp (by omega), if_neg (by rintro (y | y); exact nI_pos (by omega) y; omega)]
  unfold fL_law_b1631
  simp only [hx1]
  exact brC h (another_q h (xs (i + 1))) (er_fX12_another (S := S1) (s1 := rfl)) (fun N g kg => pl_fX13_another kg) hC
theorem lb_next {xs : Nat → Int32} {L i : Nat} (hi : i + 6 ≤ L) (hL : L ≤ 100000) {a : Mem → Int32 → Option Int32} {A : LA} {M : Mem} (h : Rel A M) (hC : ∀ N A', Rel A' N → fL_law_b2164 xs L a N (nI i) = some 1) : fL_law_b1687 xs L a M (nI i) = some 1 := by
  have hx1 : ∀ {β : Type} (k : Int32 → Option β), ldX xs L (nI i + 1) k = k (xs (i + 1)) := fun k => by
    rw [show (1 : Int32) = nI 1 from rfl, nI_add]
    unfold ldX
    rw [nI_clamp (by omega), if_neg (by rintro (y | y); exact nI_pos (by omega) y; omega)]
  unfold fL_law_b1687
  simp only [hx1]
  exact brC h (next_q h (xs (i + 1))) (er_fX12_next (S := S1) (s1 := rfl)) (fun N g kg => pl_fX13_next kg) hC
theorem lb_game {xs : Nat → Int32} {L i : Nat} (hi : i + 6 ≤ L) (hL : L ≤ 100000) {a : Mem → Int32 → Option Int32} {A : LA} {M : Mem} (h : Rel A M) (hC : ∀ N A', Rel A' N → fL_law_b2164 xs L a N (nI i) = some 1) : fL_law_b1743 xs L a M (nI i) = some 1 := by
  have hx1 : ∀ {β : Type} (k : Int32 → Option β), ldX xs L (nI i + 1) k = k (xs (i + 1)) := fun k => by
    rw [show (1 : Int32) = nI 1 from rfl, nI_add]
    unfold ldX
    rw [nI_clamp (by omega), if_neg (by rintro (y | y); exact nI_pos (by omega) y; omega)]
  have hx2 : ∀ {β : Type} (k : Int32 → Option β), ldX xs L (nI i + 2) k = k (xs (i + 2)) := fun k => by
    rw [show (2 : Int32) = nI 2 from rfl, nI_add]
    unfold ldX
    rw [nI_clamp (by omega), if_neg (by rintro (y | y); exact nI_pos (by omega) y; omega)]
  have hx3 : ∀ {β : Type} (k : Int32 → Option β), ldX xs L (nI i + 3) k = k (xs (i + 3)) := fun k => by
    rw [show (3 : Int32) = nI 3 from rfl, nI_add]
    unfold ldX
    rw [nI_clamp (by omega), if_neg (by rintro (y | y); exact nI_pos (by omega) y; omega)]
  unfold fL_law_b1743
  simp only [hx1, hx2, hx3]
  exact brC2 h (game_q h (xs (i + 1)) (xs (i + 2)) (xs (i + 3))) (er_fX12_game (S := S12) (s1 := Or.inl rfl) (s2 := Or.inr rfl)) (fun N g kg => pl_fX13_game kg) hC
theorem lb_cities {xs : Nat → Int32} {L i : Nat} (hi : i + 6 ≤ L) (hL : L ≤ 100000) {a : Mem → Int32 → Option Int32} {A : LA} {M : Mem} (h : Rel A M) (hC : ∀ N A', Rel A' N → fL_law_b2164 xs L a N (nI i) = some 1) : fL_law_b1823 xs L a M (nI i) = some 1 := by
  have hx1 : ∀ {β : Type} (k : Int32 → Option β), ldX xs L (nI i + 1) k = k (xs (i + 1)) := fun k => by
    rw [show (1 : Int32) = nI 1 from rfl, nI_add]
    unfold ldX
    rw [nI_clamp (by omega), if_neg (by rintro (y | y); exact nI_pos (by omega) y; omega)]
  have hx2 : ∀ {β : Type} (k : Int32 → Option β), ldX xs L (nI i + 2) k = k (xs (i + 2)) := fun k => by
    rw [show (2 : Int32) = nI 2 from rfl, nI_add]
    unfold ldX
    rw [nI_clamp (by omega), if_neg (by rintro (y | y); exact nI_pos (by omega) y; omega)]
  have hx3 : ∀ {β : Type} (k : Int32 → Option β), ldX xs L (nI i + 3) k = k (xs (i + 3)) := fun k => by
    rw [show (3 : Int32) = nI 3 from rfl, nI_add]
    unfold ldX
    rw [nI_clamp (by omega), if_neg (by rintro (y | y); exact nI_pos (by omega) y; omega)]
  unfold fL_law_b1823
  simp only [hx1, hx2, hx3]
  exact brC2 h (cities_q h (xs (i + 1)) (xs (i + 2)) (xs (i + 3))) (er_fX12_cities (S := S12) (s1 := Or.inl rfl) (s2 := Or.inr rfl)) (fun N g kg => pl_fX13_cities kg) hC
theorem lb_ruin {xs : Nat → Int32} {L i : Nat} (hi : i + 6 ≤ L) (hL : L ≤ 100000) {a : Mem → Int32 → Option Int32} {A : LA} {M : Mem} (h : Rel A M) (hC : ∀ N A', Rel A' N → fL_law_b2164 xs L a N (nI i) = some 1) : fL_law_b1903 xs L a M (nI i) = some 1 := by
  unfold fL_law_b1903
  exact brN h (ruin_q h) hC
theorem lb_highest {xs : Nat → Int32} {L i : Nat} (hi : i + 6 ≤ L) (hL : L ≤ 100000) {a : Mem → Int32 → Option Int32} {A : LA} {M : Mem} (h : Rel A M) (hC : ∀ N A', Rel A' N → fL_law_b2164 xs L a N (nI i) = some 1) : fL_law_b1916 xs L a M (nI i) = some 1 := by
  have hx1 : ∀ {β : Type} (k : Int32 → Option β), ldX xs L (nI i + 1) k = k (xs (i + 1)) := fun k => by
    rw [show (1 : Int32) = nI 1 from rfl, nI_add]
    unfold ldX
    rw [nI_clamp (by omega), if_neg (by rintro (y | y); exact nI_pos (by omega) y; omega)]
  unfold fL_law_b1916
  simp only [hx1]
  exact brC h (highest_q h (xs (i + 1))) (er_fX12_highest (S := S1) (s1 := rfl)) (fun N g kg => pl_fX13_highest kg) hC
theorem lb_better {xs : Nat → Int32} {L i : Nat} (hi : i + 6 ≤ L) (hL : L ≤ 100000) {a : Mem → Int32 → Option Int32} {A : LA} {M : Mem} (h : Rel A M) (hC : ∀ N A', Rel A' N → fL_law_b2164 xs L a N (nI i) = some 1) : fL_law_b1972 xs L a M (nI i) = some 1 := by
  have hx1 : ∀ {β : Type} (k : Int32 → Option β), ldX xs L (nI i + 1) k = k (xs (i + 1)) := fun k => by
    rw [show (1 : Int32) = nI 1 from rfl, nI_add]
    unfold ldX
    rw [nI_clamp (by omega), if_neg (by rintro (y | y); exact nI_pos (by omega) y; omega)]
  unfold fL_law_b1972
  simp only [hx1]
  exact brC h (better_q h (xs (i + 1))) (er_fX12_better (S := S1) (s1 := rfl)) (fun N g kg => pl_fX13_better kg) hC
theorem lb_guarded {xs : Nat → Int32} {L i : Nat} (hi : i + 6 ≤ L) (hL : L ≤ 100000) {a : Mem → Int32 → Option Int32} {A : LA} {M : Mem} (h : Rel A M) (hC : ∀ N A', Rel A' N → fL_law_b2164 xs L a N (nI i) = some 1) : fL_law_b2028 xs L a M (nI i) = some 1 := by
  have hx1 : ∀ {β : Type} (k : Int32 → Option β), ldX xs L (nI i + 1) k = k (xs (i + 1)) := fun k => by
    rw [show (1 : Int32) = nI 1 from rfl, nI_add]
    unfold ldX
    rw [nI_clamp (by omega), if_neg (by rintro (y | y); exact nI_pos (by omega) y; omega)]
  unfold fL_law_b2028
  simp only [hx1]
  exact brR h (guarded_q h (xs (i + 1))) (er_fX12_guarded (S := S1) (s1 := rfl)) (fun N g kg => pl_fX13_guarded kg) hC
theorem lb_swap {xs : Nat → Int32} {L i : Nat} (hi : i + 6 ≤ L) (hL : L ≤ 100000) {a : Mem → Int32 → Option Int32} {A : LA} {M : Mem} (h : Rel A M) (hC : ∀ N A', Rel A' N → fL_law_b2164 xs L a N (nI i) = some 1) : fL_law_b2084 xs L a M (nI i) = some 1 := by
  have hx1 : ∀ {β : Type} (k : Int32 → Option β), ldX xs L (nI i + 1) k = k (xs (i + 1)) := fun k => by
    rw [show (1 : Int32) = nI 1 from rfl, nI_add]
    unfold ldX
    rw [nI_clamp (by omega), if_neg (by rintro (y | y); exact nI_pos (by omega) y; omega)]
  unfold fL_law_b2084
  simp only [hx1]
  exact brC h (swap_q h (xs (i + 1))) (er_fX12_swap (S := S1) (s1 := rfl)) (fun N g kg => pl_fX13_swap kg) hC
theorem lb_image {xs : Nat → Int32} {L i : Nat} (hi : i + 6 ≤ L) (hL : L ≤ 100000) {a : Mem → Int32 → Option Int32} {A : LA} {M : Mem} (h : Rel A M) (hC : ∀ N A', Rel A' N → fL_law_b2164 xs L a N (nI i) = some 1) : fL_law_b2140 xs L a M (nI i) = some 1 := by
  unfold fL_law_b2140
  obtain ⟨M1, M2, f1, f2, f3⟩ := image_a h
  rw [f1, b1_s, f2, b1_s]
  exact hC M2 A f3
theorem lb_restore {xs : Nat → Int32} {L i : Nat} (hi : i + 6 ≤ L) (hL : L ≤ 100000) {a : Mem → Int32 → Option Int32} {A : LA} {M : Mem} (h : Rel A M) (hC : ∀ N A', Rel A' N → fL_law_b2164 xs L a N (nI i) = some 1) : fL_law_b2151 xs L a M (nI i) = some 1 := by
  unfold fL_law_b2151
  exact brA (restore_a h) hC
theorem law_ok {xs : Nat → Int32} {L : Nat} (hL : L ≤ 100000) : ∀ n i A M, i ≤ L → L < i + 6 * n → Rel A M → fL_law_l23 xs L n M (nI i) = some 1 := by
  intro n
  induction n with
  | zero => intro i A M h1 h2; omega
  | succ n ih =>
    intro i A M h1 h2 h
    by_cases hi : i + 6 ≤ L
    · have hC : ∀ N A', Rel A' N → fL_law_b2164 xs L (fL_law_l23 xs L n) N (nI i) = some 1 := fun N A' hr => by
        unfold fL_law_b2164
        rw [pu_s, show (6 : Int32) = nI 6 from rfl, nI_add]
        exact ih (i + 6) A' N hi (by omega) hr
      rw [fL_law_l23, if_neg (by rw [show Int32.ofNat L = nI L from rfl, show (6 : Int32) = nI 6 from rfl, pk_sub (by omega), lt_nI (by omega) (by omega)]; omega)]
      rw [show ∀ (k : Int32 → Option Int32), ldX xs L (nI i) k = k (xs i) from fun k => by
        unfold ldX
        rw [nI_clamp (by omega), if_neg (by rintro (y | y); exact nI_pos (by omega) y; omega)]]
      rw [pu_s]
      by_cases z0 : (xs i &&& 63) = 0
      · rw [if_pos z0]
        exact lb_feed hi hL h hC
      rw [if_neg z0]
      by_cases z1 : (xs i &&& 63) = 1
      · rw [if_pos z1]
        exact lb_land hi hL h hC
      rw [if_neg z1]
      by_cases z2 : (xs i &&& 63) = 2
      · rw [if_pos z2]
        exact lb_fault hi hL h hC
      rw [if_neg z2]
      by_cases z3 : (xs i &&& 63) = 3
      · rw [if_pos z3]
        exact lb_count hi hL h hC
      rw [if_neg z3]
      by_cases z4 : (xs i &&& 63) = 4
      · rw [if_pos z4]
        exact lb_deed hi hL h hC
      rw [if_neg z4]
      by_cases z5 : (xs i &&& 63) = 5
      · rw [if_pos z5]
        exact lb_brother hi hL h hC
      rw [if_neg z5]
      by_cases z6 : (xs i &&& 63) = 6
      · rw [if_pos z6]
        exact lb_way hi hL h hC
      rw [if_neg z6]
      by_cases z7 : (xs i &&& 63) = 7
      · rw [if_pos z7]
        exact lb_friend hi hL h hC
      rw [if_neg z7]
      by_cases z8 : (xs i &&& 63) = 8
      · rw [if_pos z8]
        exact lb_years hi hL h hC
      rw [if_neg z8]
      by_cases z9 : (xs i &&& 63) = 9
      · rw [if_pos z9]
        exact lb_change hi hL h hC
      rw [if_neg z9]
      by_cases z10 : (xs i &&& 63) = 10
      · rw [if_pos z10]
        exact lb_term hi hL h hC
      rw [if_neg z10]
      by_cases z11 : (xs i &&& 63) = 11
      · rw [if_pos z11]
        exact lb_loan hi hL h hC
      rw [if_neg z11]
      by_cases z12 : (xs i &&& 63) = 12
      · rw [if_pos z12]
        exact lb_gift hi hL h hC
      rw [if_neg z12]
      by_cases z13 : (xs i &&& 63) = 13
      · rw [if_pos z13]
        exact lb_undo hi hL h hC
      rw [if_neg z13]
      by_cases z14 : (xs i &&& 63) = 14
      · rw [if_pos z14]
        exact lb_then hi hL h hC
      rw [if_neg z14]
      by_cases z15 : (xs i &&& 63) = 15
      · rw [if_pos z15]
        exact lb_stays hi hL h hC
      rw [if_neg z15]
      by_cases z16 : (xs i &&& 63) = 16
      · rw [if_pos z16]
        exact lb_fair hi hL h hC
      rw [if_neg z16]
      by_cases z17 : (xs i &&& 63) = 17
      · rw [if_pos z17]
        exact lb_least hi hL h hC
      rw [if_neg z17]
      by_cases z18 : (xs i &&& 63) = 18
      · rw [if_pos z18]
        exact lb_cost hi hL h hC
      rw [if_neg z18]
      by_cases z19 : (xs i &&& 63) = 19
      · rw [if_pos z19]
        exact lb_plan hi hL h hC
      rw [if_neg z19]
      by_cases z20 : (xs i &&& 63) = 20
      · rw [if_pos z20]
        exact lb_wins hi hL h hC
      rw [if_neg z20]
      by_cases z21 : (xs i &&& 63) = 21
      · rw [if_pos z21]
        exact lb_assault hi hL h hC
      rw [if_neg z21]
      by_cases z22 : (xs i &&& 63) = 22
      · rw [if_pos z22]
        exact lb_bought hi hL h hC
      rw [if_neg z22]
      by_cases z23 : (xs i &&& 63) = 23
      · rw [if_pos z23]
        exact lb_odds hi hL h hC
      rw [if_neg z23]
      by_cases z24 : (xs i &&& 63) = 24
      · rw [if_pos z24]
        exact lb_moved hi hL h hC
      rw [if_neg z24]
      by_cases z25 : (xs i &&& 63) = 25
      · rw [if_pos z25]
        exact lb_parties hi hL h hC
      rw [if_neg z25]
      by_cases z26 : (xs i &&& 63) = 26
      · rw [if_pos z26]
        exact lb_see hi hL h hC
      rw [if_neg z26]
      by_cases z27 : (xs i &&& 63) = 27
      · rw [if_pos z27]
        exact lb_forget hi hL h hC
      rw [if_neg z27]
      by_cases z28 : (xs i &&& 63) = 28
      · rw [if_pos z28]
        exact lb_another hi hL h hC
      rw [if_neg z28]
      by_cases z29 : (xs i &&& 63) = 29
      · rw [if_pos z29]
        exact lb_next hi hL h hC
      rw [if_neg z29]
      by_cases z30 : (xs i &&& 63) = 30
      · rw [if_pos z30]
        exact lb_game hi hL h hC
      rw [if_neg z30]
      by_cases z31 : (xs i &&& 63) = 31
      · rw [if_pos z31]
        exact lb_cities hi hL h hC
      rw [if_neg z31]
      by_cases z32 : (xs i &&& 63) = 32
      · rw [if_pos z32]
        exact lb_ruin hi hL h hC
      rw [if_neg z32]
      by_cases z33 : (xs i &&& 63) = 33
      · rw [if_pos z33]
        exact lb_highest hi hL h hC
      rw [if_neg z33]
      by_cases z34 : (xs i &&& 63) = 34
      · rw [if_pos z34]
        exact lb_better hi hL h hC
      rw [if_neg z34]
      by_cases z35 : (xs i &&& 63) = 35
      · rw [if_pos z35]
        exact lb_guarded hi hL h hC
      rw [if_neg z35]
      by_cases z36 : (xs i &&& 63) = 36
      · rw [if_pos z36]
        exact lb_swap hi hL h hC
      rw [if_neg z36]
      by_cases z37 : (xs i &&& 63) = 37
      · rw [if_pos z37]
        exact lb_image hi hL h hC
      rw [if_neg z37]
      by_cases z38 : (xs i &&& 63) = 38
      · rw [if_pos z38]
        exact lb_restore hi hL h hC
      rw [if_neg z38]
      exact hC M A h
    · rw [fL_law_l23, if_pos]
      rw [show Int32.ofNat L = nI L from rfl, show (6 : Int32) = nI 6 from rfl, Int32.lt_iff_toInt_lt, pk_sub_toInt (by omega) (by omega), nI_toInt (by omega)]
      omega
