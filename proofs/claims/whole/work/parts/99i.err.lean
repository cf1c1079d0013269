/-! ERRORS of the class -/
def Er {α : Type} (S : Nat → Prop) (o : Option (Except Nat α)) : Prop := ∀ e, o = some (.error e) → S e
theorem Er_none {α : Type} {S : Nat → Prop} : Er S (none : Option (Except Nat α)) := fun _ h => by cases h
theorem Er_ok {α : Type} {S : Nat → Prop} {a : α} : Er S (some (.ok a)) := fun _ h => by injection h with h; cases h
theorem Er_er {α : Type} {S : Nat → Prop} {k : Nat} (h : S k) : Er S (some (.error k) : Option (Except Nat α)) := fun _ e => by injection e with e; injection e with e; rw [← e]; exact h
theorem Er_ite {α : Type} {S : Nat → Prop} {c : Prop} [Decidable c] {a b : Option (Except Nat α)} (h1 : Er S a) (h2 : Er S b) : Er S (if c then a else b) := by
  by_cases h : c
  · rw [if_pos h]; exact h1
  · rw [if_neg h]; exact h2
theorem Er_pu {α β : Type} {S : Nat → Prop} {e : β} {k : β → Option (Except Nat α)} (h : Er S (k e)) : Er S (pu e k) := h
theorem Er_ck {α : Type} {S : Nat → Prop} {c : Prop} [Decidable c] {k : Option (Except Nat α)} (h : Er S k) : Er S (ck c k) := Er_ite h Er_none
theorem Er_zz {α : Type} {S : Nat → Prop} {x : Int32} {k : Option (Except Nat α)} (h : Er S k) : Er S (zz x k) := Er_ite h Er_none
theorem Er_nz {α : Type} {S : Nat → Prop} {x : Int32} {k : Option (Except Nat α)} (h : Er S k) : Er S (nz x k) := Er_ite Er_none h
theorem Er_ld {α : Type} {S : Nat → Prop} {M : Mem} {a n : Nat} {i : Int32} {k : Int32 → Option (Except Nat α)} (h : ∀ v, Er S (k v)) : Er S (ldI M a n i k) := Er_ite Er_none (h _)
theorem Er_st {α : Type} {S : Nat → Prop} {M : Mem} {a n : Nat} {i v : Int32} {k : Mem → Option (Except Nat α)} (h : ∀ N, Er S (k N)) : Er S (stI M a n i v k) := Er_ite Er_none (h _)
theorem Er_ldL {α : Type} {S : Nat → Prop} {M : Mem} {a n : Nat} {i : Int32} {k : Int64 → Option (Except Nat α)} (h : ∀ v, Er S (k v)) : Er S (ldL M a n i k) := Er_ite Er_none (h _)
theorem Er_stL {α : Type} {S : Nat → Prop} {M : Mem} {a n : Nat} {i : Int32} {v : Int64} {k : Mem → Option (Except Nat α)} (h : ∀ N, Er S (k N)) : Er S (stL M a n i v k) := Er_ite Er_none (h _)
theorem Er_b1 {α β : Type} {S : Nat → Prop} {o : Option β} {k : β → Option (Except Nat α)} (h : ∀ a, Er S (k a)) : Er S (b1 o k) := by
  cases o with
  | none => exact Er_none
  | some N => exact h N
theorem Er_b2 {α β : Type} {S : Nat → Prop} {o : Option (β × Mem)} {k : β → Mem → Option (Except Nat α)} (h : ∀ a N, Er S (k a N)) : Er S (b2 o k) := by
  cases o with
  | none => exact Er_none
  | some r => exact h r.1 r.2
theorem Er_bE {α β : Type} {S : Nat → Prop} {o : Option (Except Nat β)} {k : β → Option (Except Nat α)} (ho : Er S o) (h : ∀ a, Er S (k a)) : Er S (bE o k) := by
  cases o with
  | none => exact Er_none
  | some r =>
    cases r with
    | error e => exact Er_er (ho e rfl)
    | ok a => exact h a
theorem er_fX12_needWhat_b9 {S : Nat → Prop}  (s1 : S 1) {M : Mem} : Er S (fX12_needWhat_b9 M) := by
  unfold fX12_needWhat_b9
  repeat' first | with_reducible assumption | with_reducible exact Er_none | with_reducible exact Er_ok | with_reducible apply Er_er | with_reducible apply Er_ite | with_reducible apply Er_pu | with_reducible apply Er_ck | with_reducible apply Er_zz | with_reducible apply Er_nz | with_reducible apply Er_ld | with_reducible apply Er_st | with_reducible apply Er_ldL | with_reducible apply Er_stL | with_reducible apply Er_bE | with_reducible apply Er_b1 | with_reducible apply Er_b2 | intro _
theorem er_fX12_needWhat {S : Nat → Prop}  (s1 : S 1) {M : Mem} {x1 : Int32} {x2 : Int32} : Er S (fX12_needWhat M x1 x2) := by
  unfold fX12_needWhat
  repeat' first | with_reducible assumption | with_reducible exact Er_none | with_reducible exact Er_ok | with_reducible apply Er_er | with_reducible apply Er_ite | with_reducible apply Er_pu | with_reducible apply Er_ck | with_reducible apply Er_zz | with_reducible apply Er_nz | with_reducible apply Er_ld | with_reducible apply Er_st | with_reducible apply Er_ldL | with_reducible apply Er_stL | with_reducible apply Er_bE | with_reducible apply Er_b1 | with_reducible apply Er_b2 | with_reducible apply er_fX12_needWhat_b9 | intro _
theorem er_fX12_another_b116 {S : Nat → Prop} {a51 : Mem → Int32 → Int32 → Int32 → Int32 → Option (Except Nat (Int32 × Mem))} {a61 : Mem → Int32 → Int32 → Int32 → Int32 → Int32 → Option (Except Nat (Int32 × Mem))} (ha51 : ∀ (y0 : Mem) (y1 : Int32) (y2 : Int32) (y3 : Int32) (y4 : Int32), Er S (a51 y0 y1 y2 y3 y4)) (ha61 : ∀ (y0 : Mem) (y1 : Int32) (y2 : Int32) (y3 : Int32) (y4 : Int32) (y5 : Int32), Er S (a61 y0 y1 y2 y3 y4 y5)) {M : Mem} {x1 : Int32} {x2 : Int32} {x3 : Int32} {x4 : Int32} {x5 : Int32} : Er S (fX12_another_b116 a51 a61 M x1 x2 x3 x4 x5) := by
  unfold fX12_another_b116
  repeat' first | with_reducible assumption | with_reducible exact Er_none | with_reducible exact Er_ok | with_reducible apply Er_er | with_reducible apply Er_ite | with_reducible apply Er_pu | with_reducible apply Er_ck | with_reducible apply Er_zz | with_reducible apply Er_nz | with_reducible apply Er_ld | with_reducible apply Er_st | with_reducible apply Er_ldL | with_reducible apply Er_stL | with_reducible apply Er_bE | with_reducible apply Er_b1 | with_reducible apply Er_b2 | with_reducible apply ha51 | with_reducible apply ha61 | intro _
theorem er_fX12_another_l61 {S : Nat → Prop} {a51 : Mem → Int32 → Int32 → Int32 → Int32 → Option (Except Nat (Int32 × Mem))} (ha51 : ∀ (y0 : Mem) (y1 : Int32) (y2 : Int32) (y3 : Int32) (y4 : Int32), Er S (a51 y0 y1 y2 y3 y4)) : ∀ (n : Nat) (x0 : Mem) (x1 : Int32) (x2 : Int32) (x3 : Int32) (x4 : Int32) (x5 : Int32), Er S (fX12_another_l61 a51 n x0 x1 x2 x3 x4 x5) := by
  intro n
  induction n with
  | zero => intro x0 x1 x2 x3 x4 x5; rw [fX12_another_l61]; exact Er_none
  | succ n ih =>
    intro x0 x1 x2 x3 x4 x5
    rw [fX12_another_l61]
    repeat' first | with_reducible assumption | with_reducible exact Er_none | with_reducible exact Er_ok | with_reducible apply Er_er | with_reducible apply Er_ite | with_reducible apply Er_pu | with_reducible apply Er_ck | with_reducible apply Er_zz | with_reducible apply Er_nz | with_reducible apply Er_ld | with_reducible apply Er_st | with_reducible apply Er_ldL | with_reducible apply Er_stL | with_reducible apply Er_bE | with_reducible apply Er_b1 | with_reducible apply Er_b2 | with_reducible apply ha51 | with_reducible apply ih | with_reducible apply er_fX12_another_b116 | intro _
theorem er_fX12_another_l51 {S : Nat → Prop}  : ∀ (n : Nat) (x0 : Mem) (x1 : Int32) (x2 : Int32) (x3 : Int32) (x4 : Int32), Er S (fX12_another_l51 n x0 x1 x2 x3 x4) := by
  intro n
  induction n with
  | zero => intro x0 x1 x2 x3 x4; rw [fX12_another_l51]; exact Er_none
  | succ n ih =>
    intro x0 x1 x2 x3 x4
    rw [fX12_another_l51]
    repeat' first | with_reducible assumption | with_reducible exact Er_none | with_reducible exact Er_ok | with_reducible apply Er_er | with_reducible apply Er_ite | with_reducible apply Er_pu | with_reducible apply Er_ck | with_reducible apply Er_zz | with_reducible apply Er_nz | with_reducible apply Er_ld | with_reducible apply Er_st | with_reducible apply Er_ldL | with_reducible apply Er_stL | with_reducible apply Er_bE | with_reducible apply Er_b1 | with_reducible apply Er_b2 | with_reducible apply ih | with_reducible apply er_fX12_another_l61 | intro _
theorem er_fX12_another {S : Nat → Prop}  (s1 : S 1) {M : Mem} {x1 : Int32} : Er S (fX12_another M x1) := by
  unfold fX12_another
  repeat' first | with_reducible assumption | with_reducible exact Er_none | with_reducible exact Er_ok | with_reducible apply Er_er | with_reducible apply Er_ite | with_reducible apply Er_pu | with_reducible apply Er_ck | with_reducible apply Er_zz | with_reducible apply Er_nz | with_reducible apply Er_ld | with_reducible apply Er_st | with_reducible apply Er_ldL | with_reducible apply Er_stL | with_reducible apply Er_bE | with_reducible apply Er_b1 | with_reducible apply Er_b2 | with_reducible apply er_fX12_needWhat | with_reducible apply er_fX12_another_l51 | intro _
theorem er_fX12_needChampion_b21 {S : Nat → Prop}  (s1 : S 1) {M : Mem} : Er S (fX12_needChampion_b21 M) := by
  unfold fX12_needChampion_b21
  repeat' first | with_reducible assumption | with_reducible exact Er_none | with_reducible exact Er_ok | with_reducible apply Er_er | with_reducible apply Er_ite | with_reducible apply Er_pu | with_reducible apply Er_ck | with_reducible apply Er_zz | with_reducible apply Er_nz | with_reducible apply Er_ld | with_reducible apply Er_st | with_reducible apply Er_ldL | with_reducible apply Er_stL | with_reducible apply Er_bE | with_reducible apply Er_b1 | with_reducible apply Er_b2 | intro _
theorem er_fX12_needChampion {S : Nat → Prop}  (s1 : S 1) {M : Mem} {x1 : Int32} : Er S (fX12_needChampion M x1) := by
  unfold fX12_needChampion
  repeat' first | with_reducible assumption | with_reducible exact Er_none | with_reducible exact Er_ok | with_reducible apply Er_er | with_reducible apply Er_ite | with_reducible apply Er_pu | with_reducible apply Er_ck | with_reducible apply Er_zz | with_reducible apply Er_nz | with_reducible apply Er_ld | with_reducible apply Er_st | with_reducible apply Er_ldL | with_reducible apply Er_stL | with_reducible apply Er_bE | with_reducible apply Er_b1 | with_reducible apply Er_b2 | with_reducible apply er_fX12_needChampion_b21 | intro _
theorem er_fX12_assault_b80 {S : Nat → Prop} {a45 : Mem → Int32 → Int32 → Int32 → Int32 → Option (Except Nat (Int32 × Mem))} (ha45 : ∀ (y0 : Mem) (y1 : Int32) (y2 : Int32) (y3 : Int32) (y4 : Int32), Er S (a45 y0 y1 y2 y3 y4)) {M : Mem} {x1 : Int32} {x2 : Int32} {x3 : Int32} {x4 : Int32} : Er S (fX12_assault_b80 a45 M x1 x2 x3 x4) := by
  unfold fX12_assault_b80
  repeat' first | with_reducible assumption | with_reducible exact Er_none | with_reducible exact Er_ok | with_reducible apply Er_er | with_reducible apply Er_ite | with_reducible apply Er_pu | with_reducible apply Er_ck | with_reducible apply Er_zz | with_reducible apply Er_nz | with_reducible apply Er_ld | with_reducible apply Er_st | with_reducible apply Er_ldL | with_reducible apply Er_stL | with_reducible apply Er_bE | with_reducible apply Er_b1 | with_reducible apply Er_b2 | with_reducible apply ha45 | intro _
theorem er_fX12_assault_l45 {S : Nat → Prop}  : ∀ (n : Nat) (x0 : Mem) (x1 : Int32) (x2 : Int32) (x3 : Int32) (x4 : Int32), Er S (fX12_assault_l45 n x0 x1 x2 x3 x4) := by
  intro n
  induction n with
  | zero => intro x0 x1 x2 x3 x4; rw [fX12_assault_l45]; exact Er_none
  | succ n ih =>
    intro x0 x1 x2 x3 x4
    rw [fX12_assault_l45]
    repeat' first | with_reducible assumption | with_reducible exact Er_none | with_reducible exact Er_ok | with_reducible apply Er_er | with_reducible apply Er_ite | with_reducible apply Er_pu | with_reducible apply Er_ck | with_reducible apply Er_zz | with_reducible apply Er_nz | with_reducible apply Er_ld | with_reducible apply Er_st | with_reducible apply Er_ldL | with_reducible apply Er_stL | with_reducible apply Er_bE | with_reducible apply Er_b1 | with_reducible apply Er_b2 | with_reducible apply ih | with_reducible apply er_fX12_assault_b80 | intro _
theorem er_fX12_assault {S : Nat → Prop}  (s1 : S 1) {M : Mem} {x1 : Int32} : Er S (fX12_assault M x1) := by
  unfold fX12_assault
  repeat' first | with_reducible assumption | with_reducible exact Er_none | with_reducible exact Er_ok | with_reducible apply Er_er | with_reducible apply Er_ite | with_reducible apply Er_pu | with_reducible apply Er_ck | with_reducible apply Er_zz | with_reducible apply Er_nz | with_reducible apply Er_ld | with_reducible apply Er_st | with_reducible apply Er_ldL | with_reducible apply Er_stL | with_reducible apply Er_bE | with_reducible apply Er_b1 | with_reducible apply Er_b2 | with_reducible apply er_fX12_needChampion | with_reducible apply er_fX12_assault_l45 | intro _
theorem er_fX12_better_b83 {S : Nat → Prop} {a21 : Mem → Int32 → Int32 → Int32 → Option (Except Nat (Int32 × Mem))} (ha21 : ∀ (y0 : Mem) (y1 : Int32) (y2 : Int32) (y3 : Int32), Er S (a21 y0 y1 y2 y3)) {M : Mem} {x1 : Int32} {x3 : Int32} {s0 : Int32} {s1 : Int32} : Er S (fX12_better_b83 a21 M x1 x3 s0 s1) := by
  unfold fX12_better_b83
  repeat' first | with_reducible assumption | with_reducible exact Er_none | with_reducible exact Er_ok | with_reducible apply Er_er | with_reducible apply Er_ite | with_reducible apply Er_pu | with_reducible apply Er_ck | with_reducible apply Er_zz | with_reducible apply Er_nz | with_reducible apply Er_ld | with_reducible apply Er_st | with_reducible apply Er_ldL | with_reducible apply Er_stL | with_reducible apply Er_bE | with_reducible apply Er_b1 | with_reducible apply Er_b2 | with_reducible apply ha21 | intro _
theorem er_fX12_better_l21 {S : Nat → Prop}  : ∀ (n : Nat) (x0 : Mem) (x1 : Int32) (x2 : Int32) (x3 : Int32), Er S (fX12_better_l21 n x0 x1 x2 x3) := by
  intro n
  induction n with
  | zero => intro x0 x1 x2 x3; rw [fX12_better_l21]; exact Er_none
  | succ n ih =>
    intro x0 x1 x2 x3
    rw [fX12_better_l21]
    repeat' first | with_reducible assumption | with_reducible exact Er_none | with_reducible exact Er_ok | with_reducible apply Er_er | with_reducible apply Er_ite | with_reducible apply Er_pu | with_reducible apply Er_ck | with_reducible apply Er_zz | with_reducible apply Er_nz | with_reducible apply Er_ld | with_reducible apply Er_st | with_reducible apply Er_ldL | with_reducible apply Er_stL | with_reducible apply Er_bE | with_reducible apply Er_b1 | with_reducible apply Er_b2 | with_reducible apply ih | with_reducible apply er_fX12_better_b83 | intro _
theorem er_fX12_better {S : Nat → Prop}  (s1 : S 1) {M : Mem} {x1 : Int32} : Er S (fX12_better M x1) := by
  unfold fX12_better
  repeat' first | with_reducible assumption | with_reducible exact Er_none | with_reducible exact Er_ok | with_reducible apply Er_er | with_reducible apply Er_ite | with_reducible apply Er_pu | with_reducible apply Er_ck | with_reducible apply Er_zz | with_reducible apply Er_nz | with_reducible apply Er_ld | with_reducible apply Er_st | with_reducible apply Er_ldL | with_reducible apply Er_stL | with_reducible apply Er_bE | with_reducible apply Er_b1 | with_reducible apply Er_b2 | with_reducible apply er_fX12_needWhat | with_reducible apply er_fX12_better_l21 | intro _
theorem er_fX12_bought_b122 {S : Nat → Prop} {a13 : Mem → Int32 → Int32 → Int32 → Int32 → Option (Except Nat Int32)} (ha13 : ∀ (y0 : Mem) (y1 : Int32) (y2 : Int32) (y3 : Int32) (y4 : Int32), Er S (a13 y0 y1 y2 y3 y4)) {M : Mem} {x1 : Int32} {x2 : Int32} {x3 : Int32} {x4 : Int32} : Er S (fX12_bought_b122 a13 M x1 x2 x3 x4) := by
  unfold fX12_bought_b122
  repeat' first | with_reducible assumption | with_reducible exact Er_none | with_reducible exact Er_ok | with_reducible apply Er_er | with_reducible apply Er_ite | with_reducible apply Er_pu | with_reducible apply Er_ck | with_reducible apply Er_zz | with_reducible apply Er_nz | with_reducible apply Er_ld | with_reducible apply Er_st | with_reducible apply Er_ldL | with_reducible apply Er_stL | with_reducible apply Er_bE | with_reducible apply Er_b1 | with_reducible apply Er_b2 | with_reducible apply ha13 | intro _
theorem er_fX12_bought_b110 {S : Nat → Prop} {a13 : Mem → Int32 → Int32 → Int32 → Int32 → Option (Except Nat Int32)} (ha13 : ∀ (y0 : Mem) (y1 : Int32) (y2 : Int32) (y3 : Int32) (y4 : Int32), Er S (a13 y0 y1 y2 y3 y4)) {M : Mem} {x1 : Int32} {x4 : Int32} {x5 : Int32} {x6 : Int32} : Er S (fX12_bought_b110 a13 M x1 x4 x5 x6) := by
  unfold fX12_bought_b110
  repeat' first | with_reducible assumption | with_reducible exact Er_none | with_reducible exact Er_ok | with_reducible apply Er_er | with_reducible apply Er_ite | with_reducible apply Er_pu | with_reducible apply Er_ck | with_reducible apply Er_zz | with_reducible apply Er_nz | with_reducible apply Er_ld | with_reducible apply Er_st | with_reducible apply Er_ldL | with_reducible apply Er_stL | with_reducible apply Er_bE | with_reducible apply Er_b1 | with_reducible apply Er_b2 | with_reducible apply ha13 | with_reducible apply er_fX12_bought_b122 | intro _
theorem er_fX12_bought_b80 {S : Nat → Prop} {a13 : Mem → Int32 → Int32 → Int32 → Int32 → Option (Except Nat Int32)} {a39 : Mem → Int32 → Int32 → Int32 → Int32 → Int32 → Int32 → Option (Except Nat Int32)} (ha13 : ∀ (y0 : Mem) (y1 : Int32) (y2 : Int32) (y3 : Int32) (y4 : Int32), Er S (a13 y0 y1 y2 y3 y4)) (ha39 : ∀ (y0 : Mem) (y1 : Int32) (y2 : Int32) (y3 : Int32) (y4 : Int32) (y5 : Int32) (y6 : Int32), Er S (a39 y0 y1 y2 y3 y4 y5 y6)) {M : Mem} {x1 : Int32} {x2 : Int32} {x3 : Int32} {x4 : Int32} {x5 : Int32} {x6 : Int32} : Er S (fX12_bought_b80 a13 a39 M x1 x2 x3 x4 x5 x6) := by
  unfold fX12_bought_b80
  repeat' first | with_reducible assumption | with_reducible exact Er_none | with_reducible exact Er_ok | with_reducible apply Er_er | with_reducible apply Er_ite | with_reducible apply Er_pu | with_reducible apply Er_ck | with_reducible apply Er_zz | with_reducible apply Er_nz | with_reducible apply Er_ld | with_reducible apply Er_st | with_reducible apply Er_ldL | with_reducible apply Er_stL | with_reducible apply Er_bE | with_reducible apply Er_b1 | with_reducible apply Er_b2 | with_reducible apply ha13 | with_reducible apply ha39 | intro _
theorem er_fX12_bought_l39 {S : Nat → Prop} {a13 : Mem → Int32 → Int32 → Int32 → Int32 → Option (Except Nat Int32)} (ha13 : ∀ (y0 : Mem) (y1 : Int32) (y2 : Int32) (y3 : Int32) (y4 : Int32), Er S (a13 y0 y1 y2 y3 y4)) : ∀ (n : Nat) (x0 : Mem) (x1 : Int32) (x2 : Int32) (x3 : Int32) (x4 : Int32) (x5 : Int32) (x6 : Int32), Er S (fX12_bought_l39 a13 n x0 x1 x2 x3 x4 x5 x6) := by
  intro n
  induction n with
  | zero => intro x0 x1 x2 x3 x4 x5 x6; rw [fX12_bought_l39]; exact Er_none
  | succ n ih =>
    intro x0 x1 x2 x3 x4 x5 x6
    rw [fX12_bought_l39]
    repeat' first | with_reducible assumption | with_reducible exact Er_none | with_reducible exact Er_ok | with_reducible apply Er_er | with_reducible apply Er_ite | with_reducible apply Er_pu | with_reducible apply Er_ck | with_reducible apply Er_zz | with_reducible apply Er_nz | with_reducible apply Er_ld | with_reducible apply Er_st | with_reducible apply Er_ldL | with_reducible apply Er_stL | with_reducible apply Er_bE | with_reducible apply Er_b1 | with_reducible apply Er_b2 | with_reducible apply ha13 | with_reducible apply ih | with_reducible apply er_fX12_bought_b80 | with_reducible apply er_fX12_bought_b110 | with_reducible apply er_fX12_bought_b122 | intro _
theorem er_fX12_bought_l13 {S : Nat → Prop}  : ∀ (n : Nat) (x0 : Mem) (x1 : Int32) (x2 : Int32) (x3 : Int32) (x4 : Int32), Er S (fX12_bought_l13 n x0 x1 x2 x3 x4) := by
  intro n
  induction n with
  | zero => intro x0 x1 x2 x3 x4; rw [fX12_bought_l13]; exact Er_none
  | succ n ih =>
    intro x0 x1 x2 x3 x4
    rw [fX12_bought_l13]
    repeat' first | with_reducible assumption | with_reducible exact Er_none | with_reducible exact Er_ok | with_reducible apply Er_er | with_reducible apply Er_ite | with_reducible apply Er_pu | with_reducible apply Er_ck | with_reducible apply Er_zz | with_reducible apply Er_nz | with_reducible apply Er_ld | with_reducible apply Er_st | with_reducible apply Er_ldL | with_reducible apply Er_stL | with_reducible apply Er_bE | with_reducible apply Er_b1 | with_reducible apply Er_b2 | with_reducible apply ih | with_reducible apply er_fX12_bought_l39 | intro _
theorem er_fX12_bought {S : Nat → Prop}  (s1 : S 1) {M : Mem} {x1 : Int32} : Er S (fX12_bought M x1) := by
  unfold fX12_bought
  repeat' first | with_reducible assumption | with_reducible exact Er_none | with_reducible exact Er_ok | with_reducible apply Er_er | with_reducible apply Er_ite | with_reducible apply Er_pu | with_reducible apply Er_ck | with_reducible apply Er_zz | with_reducible apply Er_nz | with_reducible apply Er_ld | with_reducible apply Er_st | with_reducible apply Er_ldL | with_reducible apply Er_stL | with_reducible apply Er_bE | with_reducible apply Er_b1 | with_reducible apply Er_b2 | with_reducible apply er_fX12_needWhat | with_reducible apply er_fX12_bought_l13 | intro _
theorem er_fX12_needBrother {S : Nat → Prop}  (s1 : S 1) {M : Mem} {x1 : Int32} : Er S (fX12_needBrother M x1) := by
  unfold fX12_needBrother
  repeat' first | with_reducible assumption | with_reducible exact Er_none | with_reducible exact Er_ok | with_reducible apply Er_er | with_reducible apply Er_ite | with_reducible apply Er_pu | with_reducible apply Er_ck | with_reducible apply Er_zz | with_reducible apply Er_nz | with_reducible apply Er_ld | with_reducible apply Er_st | with_reducible apply Er_ldL | with_reducible apply Er_stL | with_reducible apply Er_bE | with_reducible apply Er_b1 | with_reducible apply Er_b2 | intro _
theorem er_fX12_brother {S : Nat → Prop}  (s1 : S 1) {M : Mem} {x1 : Int32} {x2 : Int32} : Er S (fX12_brother M x1 x2) := by
  unfold fX12_brother
  repeat' first | with_reducible assumption | with_reducible exact Er_none | with_reducible exact Er_ok | with_reducible apply Er_er | with_reducible apply Er_ite | with_reducible apply Er_pu | with_reducible apply Er_ck | with_reducible apply Er_zz | with_reducible apply Er_nz | with_reducible apply Er_ld | with_reducible apply Er_st | with_reducible apply Er_ldL | with_reducible apply Er_stL | with_reducible apply Er_bE | with_reducible apply Er_b1 | with_reducible apply Er_b2 | with_reducible apply er_fX12_needBrother | intro _
theorem er_fX12_needDeed_b18 {S : Nat → Prop}  (s1 : S 1) {M : Mem} : Er S (fX12_needDeed_b18 M) := by
  unfold fX12_needDeed_b18
  repeat' first | with_reducible assumption | with_reducible exact Er_none | with_reducible exact Er_ok | with_reducible apply Er_er | with_reducible apply Er_ite | with_reducible apply Er_pu | with_reducible apply Er_ck | with_reducible apply Er_zz | with_reducible apply Er_nz | with_reducible apply Er_ld | with_reducible apply Er_st | with_reducible apply Er_ldL | with_reducible apply Er_stL | with_reducible apply Er_bE | with_reducible apply Er_b1 | with_reducible apply Er_b2 | intro _
theorem er_fX12_needDeed {S : Nat → Prop}  (s1 : S 1) {M : Mem} {x1 : Int32} : Er S (fX12_needDeed M x1) := by
  unfold fX12_needDeed
  repeat' first | with_reducible assumption | with_reducible exact Er_none | with_reducible exact Er_ok | with_reducible apply Er_er | with_reducible apply Er_ite | with_reducible apply Er_pu | with_reducible apply Er_ck | with_reducible apply Er_zz | with_reducible apply Er_nz | with_reducible apply Er_ld | with_reducible apply Er_st | with_reducible apply Er_ldL | with_reducible apply Er_stL | with_reducible apply Er_bE | with_reducible apply Er_b1 | with_reducible apply Er_b2 | with_reducible apply er_fX12_needDeed_b18 | intro _
theorem er_fX12_change {S : Nat → Prop}  (s1 : S 1) {M : Mem} {x1 : Int32} {x2 : Int32} {x3 : Int32} : Er S (fX12_change M x1 x2 x3) := by
  unfold fX12_change
  repeat' first | with_reducible assumption | with_reducible exact Er_none | with_reducible exact Er_ok | with_reducible apply Er_er | with_reducible apply Er_ite | with_reducible apply Er_pu | with_reducible apply Er_ck | with_reducible apply Er_zz | with_reducible apply Er_nz | with_reducible apply Er_ld | with_reducible apply Er_st | with_reducible apply Er_ldL | with_reducible apply Er_stL | with_reducible apply Er_bE | with_reducible apply Er_b1 | with_reducible apply Er_b2 | with_reducible apply er_fX12_needBrother | with_reducible apply er_fX12_needDeed | intro _
theorem er_fX12_needWithin_b10 {S : Nat → Prop}  (s2 : S 2) {M : Mem} : Er S (fX12_needWithin_b10 M) := by
  unfold fX12_needWithin_b10
  repeat' first | with_reducible assumption | with_reducible exact Er_none | with_reducible exact Er_ok | with_reducible apply Er_er | with_reducible apply Er_ite | with_reducible apply Er_pu | with_reducible apply Er_ck | with_reducible apply Er_zz | with_reducible apply Er_nz | with_reducible apply Er_ld | with_reducible apply Er_st | with_reducible apply Er_ldL | with_reducible apply Er_stL | with_reducible apply Er_bE | with_reducible apply Er_b1 | with_reducible apply Er_b2 | intro _
theorem er_fX12_needWithin {S : Nat → Prop}  (s2 : S 2) {M : Mem} {x1 : Int32} {x2 : Int32} {x3 : Int32} : Er S (fX12_needWithin M x1 x2 x3) := by
  unfold fX12_needWithin
  repeat' first | with_reducible assumption | with_reducible exact Er_none | with_reducible exact Er_ok | with_reducible apply Er_er | with_reducible apply Er_ite | with_reducible apply Er_pu | with_reducible apply Er_ck | with_reducible apply Er_zz | with_reducible apply Er_nz | with_reducible apply Er_ld | with_reducible apply Er_st | with_reducible apply Er_ldL | with_reducible apply Er_stL | with_reducible apply Er_bE | with_reducible apply Er_b1 | with_reducible apply Er_b2 | with_reducible apply er_fX12_needWithin_b10 | intro _
theorem er_fX12_cities_b87 {S : Nat → Prop} {a31 : Mem → Int32 → Int32 → Int32 → Int32 → Option (Except Nat (Int32 × Mem))} (ha31 : ∀ (y0 : Mem) (y1 : Int32) (y2 : Int32) (y3 : Int32) (y4 : Int32), Er S (a31 y0 y1 y2 y3 y4)) {M : Mem} {x2 : Int32} {x3 : Int32} {x4 : Int32} {x5 : Int32} {x6 : Int32} : Er S (fX12_cities_b87 a31 M x2 x3 x4 x5 x6) := by
  unfold fX12_cities_b87
  repeat' first | with_reducible assumption | with_reducible exact Er_none | with_reducible exact Er_ok | with_reducible apply Er_er | with_reducible apply Er_ite | with_reducible apply Er_pu | with_reducible apply Er_ck | with_reducible apply Er_zz | with_reducible apply Er_nz | with_reducible apply Er_ld | with_reducible apply Er_st | with_reducible apply Er_ldL | with_reducible apply Er_stL | with_reducible apply Er_bE | with_reducible apply Er_b1 | with_reducible apply Er_b2 | with_reducible apply ha31 | intro _
theorem er_fX12_cities_l31 {S : Nat → Prop}  : ∀ (n : Nat) (x0 : Mem) (x1 : Int32) (x2 : Int32) (x3 : Int32) (x4 : Int32), Er S (fX12_cities_l31 n x0 x1 x2 x3 x4) := by
  intro n
  induction n with
  | zero => intro x0 x1 x2 x3 x4; rw [fX12_cities_l31]; exact Er_none
  | succ n ih =>
    intro x0 x1 x2 x3 x4
    rw [fX12_cities_l31]
    repeat' first | with_reducible assumption | with_reducible exact Er_none | with_reducible exact Er_ok | with_reducible apply Er_er | with_reducible apply Er_ite | with_reducible apply Er_pu | with_reducible apply Er_ck | with_reducible apply Er_zz | with_reducible apply Er_nz | with_reducible apply Er_ld | with_reducible apply Er_st | with_reducible apply Er_ldL | with_reducible apply Er_stL | with_reducible apply Er_bE | with_reducible apply Er_b1 | with_reducible apply Er_b2 | with_reducible apply ih | with_reducible apply er_fX12_cities_b87 | intro _
theorem er_fX12_cities {S : Nat → Prop}  (s1 : S 1) (s2 : S 2) {M : Mem} {x1 : Int32} {x2 : Int32} {x3 : Int32} : Er S (fX12_cities M x1 x2 x3) := by
  unfold fX12_cities
  repeat' first | with_reducible assumption | with_reducible exact Er_none | with_reducible exact Er_ok | with_reducible apply Er_er | with_reducible apply Er_ite | with_reducible apply Er_pu | with_reducible apply Er_ck | with_reducible apply Er_zz | with_reducible apply Er_nz | with_reducible apply Er_ld | with_reducible apply Er_st | with_reducible apply Er_ldL | with_reducible apply Er_stL | with_reducible apply Er_bE | with_reducible apply Er_b1 | with_reducible apply Er_b2 | with_reducible apply er_fX12_needWhat | with_reducible apply er_fX12_needWithin | with_reducible apply er_fX12_cities_l31 | intro _
theorem er_fX12_cost_l52 {S : Nat → Prop}  : ∀ (n : Nat) (x0 : Mem) (x1 : Int32) (x2 : Int32) (x3 : Int32), Er S (fX12_cost_l52 n x0 x1 x2 x3) := by
  intro n
  induction n with
  | zero => intro x0 x1 x2 x3; rw [fX12_cost_l52]; exact Er_none
  | succ n ih =>
    intro x0 x1 x2 x3
    rw [fX12_cost_l52]
    repeat' first | with_reducible assumption | with_reducible exact Er_none | with_reducible exact Er_ok | with_reducible apply Er_er | with_reducible apply Er_ite | with_reducible apply Er_pu | with_reducible apply Er_ck | with_reducible apply Er_zz | with_reducible apply Er_nz | with_reducible apply Er_ld | with_reducible apply Er_st | with_reducible apply Er_ldL | with_reducible apply Er_stL | with_reducible apply Er_bE | with_reducible apply Er_b1 | with_reducible apply Er_b2 | with_reducible apply ih | intro _
theorem er_fX12_cost {S : Nat → Prop}  (s2 : S 2) {M : Mem} {x1 : Int32} : Er S (fX12_cost M x1) := by
  unfold fX12_cost
  repeat' first | with_reducible assumption | with_reducible exact Er_none | with_reducible exact Er_ok | with_reducible apply Er_er | with_reducible apply Er_ite | with_reducible apply Er_pu | with_reducible apply Er_ck | with_reducible apply Er_zz | with_reducible apply Er_nz | with_reducible apply Er_ld | with_reducible apply Er_st | with_reducible apply Er_ldL | with_reducible apply Er_stL | with_reducible apply Er_bE | with_reducible apply Er_b1 | with_reducible apply Er_b2 | with_reducible apply er_fX12_needWithin | with_reducible apply er_fX12_cost_l52 | intro _
theorem er_fX12_count {S : Nat → Prop}  (s1 : S 1) {M : Mem} {x1 : Int32} : Er S (fX12_count M x1) := by
  unfold fX12_count
  repeat' first | with_reducible assumption | with_reducible exact Er_none | with_reducible exact Er_ok | with_reducible apply Er_er | with_reducible apply Er_ite | with_reducible apply Er_pu | with_reducible apply Er_ck | with_reducible apply Er_zz | with_reducible apply Er_nz | with_reducible apply Er_ld | with_reducible apply Er_st | with_reducible apply Er_ldL | with_reducible apply Er_stL | with_reducible apply Er_bE | with_reducible apply Er_b1 | with_reducible apply Er_b2 | intro _
theorem er_fX12_deed {S : Nat → Prop}  (s1 : S 1) {M : Mem} {x1 : Int32} {x2 : Int32} : Er S (fX12_deed M x1 x2) := by
  unfold fX12_deed
  repeat' first | with_reducible assumption | with_reducible exact Er_none | with_reducible exact Er_ok | with_reducible apply Er_er | with_reducible apply Er_ite | with_reducible apply Er_pu | with_reducible apply Er_ck | with_reducible apply Er_zz | with_reducible apply Er_nz | with_reducible apply Er_ld | with_reducible apply Er_st | with_reducible apply Er_ldL | with_reducible apply Er_stL | with_reducible apply Er_bE | with_reducible apply Er_b1 | with_reducible apply Er_b2 | with_reducible apply er_fX12_needDeed | intro _
theorem er_fX12_needFriend_b18 {S : Nat → Prop}  (s1 : S 1) {M : Mem} : Er S (fX12_needFriend_b18 M) := by
  unfold fX12_needFriend_b18
  repeat' first | with_reducible assumption | with_reducible exact Er_none | with_reducible exact Er_ok | with_reducible apply Er_er | with_reducible apply Er_ite | with_reducible apply Er_pu | with_reducible apply Er_ck | with_reducible apply Er_zz | with_reducible apply Er_nz | with_reducible apply Er_ld | with_reducible apply Er_st | with_reducible apply Er_ldL | with_reducible apply Er_stL | with_reducible apply Er_bE | with_reducible apply Er_b1 | with_reducible apply Er_b2 | intro _
theorem er_fX12_needFriend {S : Nat → Prop}  (s1 : S 1) {M : Mem} {x1 : Int32} : Er S (fX12_needFriend M x1) := by
  unfold fX12_needFriend
  repeat' first | with_reducible assumption | with_reducible exact Er_none | with_reducible exact Er_ok | with_reducible apply Er_er | with_reducible apply Er_ite | with_reducible apply Er_pu | with_reducible apply Er_ck | with_reducible apply Er_zz | with_reducible apply Er_nz | with_reducible apply Er_ld | with_reducible apply Er_st | with_reducible apply Er_ldL | with_reducible apply Er_stL | with_reducible apply Er_bE | with_reducible apply Er_b1 | with_reducible apply Er_b2 | with_reducible apply er_fX12_needFriend_b18 | intro _
theorem er_fX12_friend {S : Nat → Prop}  (s1 : S 1) {M : Mem} {x1 : Int32} {x2 : Int32} : Er S (fX12_friend M x1 x2) := by
  unfold fX12_friend
  repeat' first | with_reducible assumption | with_reducible exact Er_none | with_reducible exact Er_ok | with_reducible apply Er_er | with_reducible apply Er_ite | with_reducible apply Er_pu | with_reducible apply Er_ck | with_reducible apply Er_zz | with_reducible apply Er_nz | with_reducible apply Er_ld | with_reducible apply Er_st | with_reducible apply Er_ldL | with_reducible apply Er_stL | with_reducible apply Er_bE | with_reducible apply Er_b1 | with_reducible apply Er_b2 | with_reducible apply er_fX12_needFriend | intro _
theorem er_fX12_game_b95 {S : Nat → Prop} {a54 : Mem → Int32 → Int32 → Int32 → Int32 → Option (Except Nat (Int32 × Mem))} (ha54 : ∀ (y0 : Mem) (y1 : Int32) (y2 : Int32) (y3 : Int32) (y4 : Int32), Er S (a54 y0 y1 y2 y3 y4)) {M : Mem} {x3 : Int32} {x4 : Int32} {x5 : Int32} {x6 : Int32} : Er S (fX12_game_b95 a54 M x3 x4 x5 x6) := by
  unfold fX12_game_b95
  repeat' first | with_reducible assumption | with_reducible exact Er_none | with_reducible exact Er_ok | with_reducible apply Er_er | with_reducible apply Er_ite | with_reducible apply Er_pu | with_reducible apply Er_ck | with_reducible apply Er_zz | with_reducible apply Er_nz | with_reducible apply Er_ld | with_reducible apply Er_st | with_reducible apply Er_ldL | with_reducible apply Er_stL | with_reducible apply Er_bE | with_reducible apply Er_b1 | with_reducible apply Er_b2 | with_reducible apply ha54 | intro _
theorem er_fX12_game_l54 {S : Nat → Prop}  : ∀ (n : Nat) (x0 : Mem) (x1 : Int32) (x2 : Int32) (x3 : Int32) (x4 : Int32), Er S (fX12_game_l54 n x0 x1 x2 x3 x4) := by
  intro n
  induction n with
  | zero => intro x0 x1 x2 x3 x4; rw [fX12_game_l54]; exact Er_none
  | succ n ih =>
    intro x0 x1 x2 x3 x4
    rw [fX12_game_l54]
    repeat' first | with_reducible assumption | with_reducible exact Er_none | with_reducible exact Er_ok | with_reducible apply Er_er | with_reducible apply Er_ite | with_reducible apply Er_pu | with_reducible apply Er_ck | with_reducible apply Er_zz | with_reducible apply Er_nz | with_reducible apply Er_ld | with_reducible apply Er_st | with_reducible apply Er_ldL | with_reducible apply Er_stL | with_reducible apply Er_bE | with_reducible apply Er_b1 | with_reducible apply Er_b2 | with_reducible apply ih | with_reducible apply er_fX12_game_b95 | intro _
theorem er_fX12_game {S : Nat → Prop}  (s1 : S 1) (s2 : S 2) {M : Mem} {x1 : Int32} {x2 : Int32} {x3 : Int32} : Er S (fX12_game M x1 x2 x3) := by
  unfold fX12_game
  repeat' first | with_reducible assumption | with_reducible exact Er_none | with_reducible exact Er_ok | with_reducible apply Er_er | with_reducible apply Er_ite | with_reducible apply Er_pu | with_reducible apply Er_ck | with_reducible apply Er_zz | with_reducible apply Er_nz | with_reducible apply Er_ld | with_reducible apply Er_st | with_reducible apply Er_ldL | with_reducible apply Er_stL | with_reducible apply Er_bE | with_reducible apply Er_b1 | with_reducible apply Er_b2 | with_reducible apply er_fX12_needDeed | with_reducible apply er_fX12_needWhat | with_reducible apply er_fX12_game_l54 | intro _
theorem er_fX12_gift_b27 {S : Nat → Prop}  {M : Mem} : Er S (fX12_gift_b27 M) := by
  unfold fX12_gift_b27
  repeat' first | with_reducible assumption | with_reducible exact Er_none | with_reducible exact Er_ok | with_reducible apply Er_er | with_reducible apply Er_ite | with_reducible apply Er_pu | with_reducible apply Er_ck | with_reducible apply Er_zz | with_reducible apply Er_nz | with_reducible apply Er_ld | with_reducible apply Er_st | with_reducible apply Er_ldL | with_reducible apply Er_stL | with_reducible apply Er_bE | with_reducible apply Er_b1 | with_reducible apply Er_b2 | intro _
theorem er_fX12_gift_b83 {S : Nat → Prop}  {M : Mem} {x1 : Int32} {s0 : Int32} {s1 : Int32} : Er S (fX12_gift_b83 M x1 s0 s1) := by
  unfold fX12_gift_b83
  repeat' first | with_reducible assumption | with_reducible exact Er_none | with_reducible exact Er_ok | with_reducible apply Er_er | with_reducible apply Er_ite | with_reducible apply Er_pu | with_reducible apply Er_ck | with_reducible apply Er_zz | with_reducible apply Er_nz | with_reducible apply Er_ld | with_reducible apply Er_st | with_reducible apply Er_ldL | with_reducible apply Er_stL | with_reducible apply Er_bE | with_reducible apply Er_b1 | with_reducible apply Er_b2 | intro _
theorem er_fX12_gift {S : Nat → Prop}  (s1 : S 1) {M : Mem} {x1 : Int32} {x2 : Int32} : Er S (fX12_gift M x1 x2) := by
  unfold fX12_gift
  repeat' first | with_reducible assumption | with_reducible exact Er_none | with_reducible exact Er_ok | with_reducible apply Er_er | with_reducible apply Er_ite | with_reducible apply Er_pu | with_reducible apply Er_ck | with_reducible apply Er_zz | with_reducible apply Er_nz | with_reducible apply Er_ld | with_reducible apply Er_st | with_reducible apply Er_ldL | with_reducible apply Er_stL | with_reducible apply Er_bE | with_reducible apply Er_b1 | with_reducible apply Er_b2 | with_reducible apply er_fX12_needFriend | with_reducible apply er_fX12_gift_b27 | with_reducible apply er_fX12_gift_b83 | intro _
theorem er_fX12_needGate_b21 {S : Nat → Prop}  (s1 : S 1) {M : Mem} : Er S (fX12_needGate_b21 M) := by
  unfold fX12_needGate_b21
  repeat' first | with_reducible assumption | with_reducible exact Er_none | with_reducible exact Er_ok | with_reducible apply Er_er | with_reducible apply Er_ite | with_reducible apply Er_pu | with_reducible apply Er_ck | with_reducible apply Er_zz | with_reducible apply Er_nz | with_reducible apply Er_ld | with_reducible apply Er_st | with_reducible apply Er_ldL | with_reducible apply Er_stL | with_reducible apply Er_bE | with_reducible apply Er_b1 | with_reducible apply Er_b2 | intro _
theorem er_fX12_needGate {S : Nat → Prop}  (s1 : S 1) {M : Mem} {x1 : Int32} : Er S (fX12_needGate M x1) := by
  unfold fX12_needGate
  repeat' first | with_reducible assumption | with_reducible exact Er_none | with_reducible exact Er_ok | with_reducible apply Er_er | with_reducible apply Er_ite | with_reducible apply Er_pu | with_reducible apply Er_ck | with_reducible apply Er_zz | with_reducible apply Er_nz | with_reducible apply Er_ld | with_reducible apply Er_st | with_reducible apply Er_ldL | with_reducible apply Er_stL | with_reducible apply Er_bE | with_reducible apply Er_b1 | with_reducible apply Er_b2 | with_reducible apply er_fX12_needGate_b21 | intro _
theorem er_fX12_guarded_l9 {S : Nat → Prop}  : ∀ (n : Nat) (x0 : Mem) (x1 : Int32) (x2 : Int32) (x3 : Int32), Er S (fX12_guarded_l9 n x0 x1 x2 x3) := by
  intro n
  induction n with
  | zero => intro x0 x1 x2 x3; rw [fX12_guarded_l9]; exact Er_none
  | succ n ih =>
    intro x0 x1 x2 x3
    rw [fX12_guarded_l9]
    repeat' first | with_reducible assumption | with_reducible exact Er_none | with_reducible exact Er_ok | with_reducible apply Er_er | with_reducible apply Er_ite | with_reducible apply Er_pu | with_reducible apply Er_ck | with_reducible apply Er_zz | with_reducible apply Er_nz | with_reducible apply Er_ld | with_reducible apply Er_st | with_reducible apply Er_ldL | with_reducible apply Er_stL | with_reducible apply Er_bE | with_reducible apply Er_b1 | with_reducible apply Er_b2 | with_reducible apply ih | intro _
theorem er_fX12_guarded {S : Nat → Prop}  (s1 : S 1) {M : Mem} {x1 : Int32} : Er S (fX12_guarded M x1) := by
  unfold fX12_guarded
  repeat' first | with_reducible assumption | with_reducible exact Er_none | with_reducible exact Er_ok | with_reducible apply Er_er | with_reducible apply Er_ite | with_reducible apply Er_pu | with_reducible apply Er_ck | with_reducible apply Er_zz | with_reducible apply Er_nz | with_reducible apply Er_ld | with_reducible apply Er_st | with_reducible apply Er_ldL | with_reducible apply Er_stL | with_reducible apply Er_bE | with_reducible apply Er_b1 | with_reducible apply Er_b2 | with_reducible apply er_fX12_needGate | with_reducible apply er_fX12_guarded_l9 | intro _
theorem er_fX12_highest_b71 {S : Nat → Prop} {a30 : Mem → Int32 → Int32 → Int32 → Int32 → Option (Except Nat (Int32 × Mem))} (ha30 : ∀ (y0 : Mem) (y1 : Int32) (y2 : Int32) (y3 : Int32) (y4 : Int32), Er S (a30 y0 y1 y2 y3 y4)) {M : Mem} {x1 : Int32} {x2 : Int32} {x3 : Int32} {x4 : Int32} : Er S (fX12_highest_b71 a30 M x1 x2 x3 x4) := by
  unfold fX12_highest_b71
  repeat' first | with_reducible assumption | with_reducible exact Er_none | with_reducible exact Er_ok | with_reducible apply Er_er | with_reducible apply Er_ite | with_reducible apply Er_pu | with_reducible apply Er_ck | with_reducible apply Er_zz | with_reducible apply Er_nz | with_reducible apply Er_ld | with_reducible apply Er_st | with_reducible apply Er_ldL | with_reducible apply Er_stL | with_reducible apply Er_bE | with_reducible apply Er_b1 | with_reducible apply Er_b2 | with_reducible apply ha30 | intro _
theorem er_fX12_highest_l30 {S : Nat → Prop}  : ∀ (n : Nat) (x0 : Mem) (x1 : Int32) (x2 : Int32) (x3 : Int32) (x4 : Int32), Er S (fX12_highest_l30 n x0 x1 x2 x3 x4) := by
  intro n
  induction n with
  | zero => intro x0 x1 x2 x3 x4; rw [fX12_highest_l30]; exact Er_none
  | succ n ih =>
    intro x0 x1 x2 x3 x4
    rw [fX12_highest_l30]
    repeat' first | with_reducible assumption | with_reducible exact Er_none | with_reducible exact Er_ok | with_reducible apply Er_er | with_reducible apply Er_ite | with_reducible apply Er_pu | with_reducible apply Er_ck | with_reducible apply Er_zz | with_reducible apply Er_nz | with_reducible apply Er_ld | with_reducible apply Er_st | with_reducible apply Er_ldL | with_reducible apply Er_stL | with_reducible apply Er_bE | with_reducible apply Er_b1 | with_reducible apply Er_b2 | with_reducible apply ih | with_reducible apply er_fX12_highest_b71 | intro _
theorem er_fX12_highest {S : Nat → Prop}  (s1 : S 1) {M : Mem} {x1 : Int32} : Er S (fX12_highest M x1) := by
  unfold fX12_highest
  repeat' first | with_reducible assumption | with_reducible exact Er_none | with_reducible exact Er_ok | with_reducible apply Er_er | with_reducible apply Er_ite | with_reducible apply Er_pu | with_reducible apply Er_ck | with_reducible apply Er_zz | with_reducible apply Er_nz | with_reducible apply Er_ld | with_reducible apply Er_st | with_reducible apply Er_ldL | with_reducible apply Er_stL | with_reducible apply Er_bE | with_reducible apply Er_b1 | with_reducible apply Er_b2 | with_reducible apply er_fX12_needWhat | with_reducible apply er_fX12_highest_l30 | intro _
theorem er_fX12_land_b12 {S : Nat → Prop}  (s2 : S 2) {M : Mem} : Er S (fX12_land_b12 M) := by
  unfold fX12_land_b12
  repeat' first | with_reducible assumption | with_reducible exact Er_none | with_reducible exact Er_ok | with_reducible apply Er_er | with_reducible apply Er_ite | with_reducible apply Er_pu | with_reducible apply Er_ck | with_reducible apply Er_zz | with_reducible apply Er_nz | with_reducible apply Er_ld | with_reducible apply Er_st | with_reducible apply Er_ldL | with_reducible apply Er_stL | with_reducible apply Er_bE | with_reducible apply Er_b1 | with_reducible apply Er_b2 | intro _
theorem er_fX12_land {S : Nat → Prop}  (s2 : S 2) {M : Mem} {x1 : Int32} : Er S (fX12_land M x1) := by
  unfold fX12_land
  repeat' first | with_reducible assumption | with_reducible exact Er_none | with_reducible exact Er_ok | with_reducible apply Er_er | with_reducible apply Er_ite | with_reducible apply Er_pu | with_reducible apply Er_ck | with_reducible apply Er_zz | with_reducible apply Er_nz | with_reducible apply Er_ld | with_reducible apply Er_st | with_reducible apply Er_ldL | with_reducible apply Er_stL | with_reducible apply Er_bE | with_reducible apply Er_b1 | with_reducible apply Er_b2 | with_reducible apply er_fX12_land_b12 | intro _
theorem er_fX12_moved {S : Nat → Prop}  (s1 : S 1) (s2 : S 2) {M : Mem} {x1 : Int32} {x2 : Int32} : Er S (fX12_moved M x1 x2) := by
  unfold fX12_moved
  repeat' first | with_reducible assumption | with_reducible exact Er_none | with_reducible exact Er_ok | with_reducible apply Er_er | with_reducible apply Er_ite | with_reducible apply Er_pu | with_reducible apply Er_ck | with_reducible apply Er_zz | with_reducible apply Er_nz | with_reducible apply Er_ld | with_reducible apply Er_st | with_reducible apply Er_ldL | with_reducible apply Er_stL | with_reducible apply Er_bE | with_reducible apply Er_b1 | with_reducible apply Er_b2 | with_reducible apply er_fX12_needBrother | with_reducible apply er_fX12_needWithin | intro _
theorem er_fX12_next_b67 {S : Nat → Prop} {a28 : Mem → Int32 → Int32 → Int32 → Int32 → Option (Except Nat (Int32 × Mem))} (ha28 : ∀ (y0 : Mem) (y1 : Int32) (y2 : Int32) (y3 : Int32) (y4 : Int32), Er S (a28 y0 y1 y2 y3 y4)) {M : Mem} {x1 : Int32} {x2 : Int32} {x3 : Int32} {x4 : Int32} : Er S (fX12_next_b67 a28 M x1 x2 x3 x4) := by
  unfold fX12_next_b67
  repeat' first | with_reducible assumption | with_reducible exact Er_none | with_reducible exact Er_ok | with_reducible apply Er_er | with_reducible apply Er_ite | with_reducible apply Er_pu | with_reducible apply Er_ck | with_reducible apply Er_zz | with_reducible apply Er_nz | with_reducible apply Er_ld | with_reducible apply Er_st | with_reducible apply Er_ldL | with_reducible apply Er_stL | with_reducible apply Er_bE | with_reducible apply Er_b1 | with_reducible apply Er_b2 | with_reducible apply ha28 | intro _
theorem er_fX12_next_l28 {S : Nat → Prop}  : ∀ (n : Nat) (x0 : Mem) (x1 : Int32) (x2 : Int32) (x3 : Int32) (x4 : Int32), Er S (fX12_next_l28 n x0 x1 x2 x3 x4) := by
  intro n
  induction n with
  | zero => intro x0 x1 x2 x3 x4; rw [fX12_next_l28]; exact Er_none
  | succ n ih =>
    intro x0 x1 x2 x3 x4
    rw [fX12_next_l28]
    repeat' first | with_reducible assumption | with_reducible exact Er_none | with_reducible exact Er_ok | with_reducible apply Er_er | with_reducible apply Er_ite | with_reducible apply Er_pu | with_reducible apply Er_ck | with_reducible apply Er_zz | with_reducible apply Er_nz | with_reducible apply Er_ld | with_reducible apply Er_st | with_reducible apply Er_ldL | with_reducible apply Er_stL | with_reducible apply Er_bE | with_reducible apply Er_b1 | with_reducible apply Er_b2 | with_reducible apply ih | with_reducible apply er_fX12_next_b67 | intro _
theorem er_fX12_next {S : Nat → Prop}  (s1 : S 1) {M : Mem} {x1 : Int32} : Er S (fX12_next M x1) := by
  unfold fX12_next
  repeat' first | with_reducible assumption | with_reducible exact Er_none | with_reducible exact Er_ok | with_reducible apply Er_er | with_reducible apply Er_ite | with_reducible apply Er_pu | with_reducible apply Er_ck | with_reducible apply Er_zz | with_reducible apply Er_nz | with_reducible apply Er_ld | with_reducible apply Er_st | with_reducible apply Er_ldL | with_reducible apply Er_stL | with_reducible apply Er_bE | with_reducible apply Er_b1 | with_reducible apply Er_b2 | with_reducible apply er_fX12_needWhat | with_reducible apply er_fX12_next_l28 | intro _
theorem er_fX12_odds_b85 {S : Nat → Prop} {a41 : Mem → Int32 → Int32 → Int32 → Int32 → Int32 → Option (Except Nat (Int32 × Mem))} (ha41 : ∀ (y0 : Mem) (y1 : Int32) (y2 : Int32) (y3 : Int32) (y4 : Int32) (y5 : Int32), Er S (a41 y0 y1 y2 y3 y4 y5)) {M : Mem} {x2 : Int32} {x3 : Int32} {x4 : Int32} {x5 : Int32} {x6 : Int32} : Er S (fX12_odds_b85 a41 M x2 x3 x4 x5 x6) := by
  unfold fX12_odds_b85
  repeat' first | with_reducible assumption | with_reducible exact Er_none | with_reducible exact Er_ok | with_reducible apply Er_er | with_reducible apply Er_ite | with_reducible apply Er_pu | with_reducible apply Er_ck | with_reducible apply Er_zz | with_reducible apply Er_nz | with_reducible apply Er_ld | with_reducible apply Er_st | with_reducible apply Er_ldL | with_reducible apply Er_stL | with_reducible apply Er_bE | with_reducible apply Er_b1 | with_reducible apply Er_b2 | with_reducible apply ha41 | intro _
theorem er_fX12_odds_l41 {S : Nat → Prop}  : ∀ (n : Nat) (x0 : Mem) (x1 : Int32) (x2 : Int32) (x3 : Int32) (x4 : Int32) (x5 : Int32), Er S (fX12_odds_l41 n x0 x1 x2 x3 x4 x5) := by
  intro n
  induction n with
  | zero => intro x0 x1 x2 x3 x4 x5; rw [fX12_odds_l41]; exact Er_none
  | succ n ih =>
    intro x0 x1 x2 x3 x4 x5
    rw [fX12_odds_l41]
    repeat' first | with_reducible assumption | with_reducible exact Er_none | with_reducible exact Er_ok | with_reducible apply Er_er | with_reducible apply Er_ite | with_reducible apply Er_pu | with_reducible apply Er_ck | with_reducible apply Er_zz | with_reducible apply Er_nz | with_reducible apply Er_ld | with_reducible apply Er_st | with_reducible apply Er_ldL | with_reducible apply Er_stL | with_reducible apply Er_bE | with_reducible apply Er_b1 | with_reducible apply Er_b2 | with_reducible apply ih | with_reducible apply er_fX12_odds_b85 | intro _
theorem er_fX12_odds {S : Nat → Prop}  (s1 : S 1) (s2 : S 2) {M : Mem} {x1 : Int32} {x2 : Int32} {x3 : Int32} : Er S (fX12_odds M x1 x2 x3) := by
  unfold fX12_odds
  repeat' first | with_reducible assumption | with_reducible exact Er_none | with_reducible exact Er_ok | with_reducible apply Er_er | with_reducible apply Er_ite | with_reducible apply Er_pu | with_reducible apply Er_ck | with_reducible apply Er_zz | with_reducible apply Er_nz | with_reducible apply Er_ld | with_reducible apply Er_st | with_reducible apply Er_ldL | with_reducible apply Er_stL | with_reducible apply Er_bE | with_reducible apply Er_b1 | with_reducible apply Er_b2 | with_reducible apply er_fX12_needBrother | with_reducible apply er_fX12_needWithin | with_reducible apply er_fX12_odds_l41 | intro _
theorem er_fX12_parties_b50 {S : Nat → Prop} {a13 : Mem → Int32 → Int32 → Int32 → Int32 → Option (Except Nat Int32)} (ha13 : ∀ (y0 : Mem) (y1 : Int32) (y2 : Int32) (y3 : Int32) (y4 : Int32), Er S (a13 y0 y1 y2 y3 y4)) {M : Mem} {x1 : Int32} {x2 : Int32} {x3 : Int32} {x4 : Int32} : Er S (fX12_parties_b50 a13 M x1 x2 x3 x4) := by
  unfold fX12_parties_b50
  repeat' first | with_reducible assumption | with_reducible exact Er_none | with_reducible exact Er_ok | with_reducible apply Er_er | with_reducible apply Er_ite | with_reducible apply Er_pu | with_reducible apply Er_ck | with_reducible apply Er_zz | with_reducible apply Er_nz | with_reducible apply Er_ld | with_reducible apply Er_st | with_reducible apply Er_ldL | with_reducible apply Er_stL | with_reducible apply Er_bE | with_reducible apply Er_b1 | with_reducible apply Er_b2 | with_reducible apply ha13 | intro _
theorem er_fX12_parties_l13 {S : Nat → Prop}  : ∀ (n : Nat) (x0 : Mem) (x1 : Int32) (x2 : Int32) (x3 : Int32) (x4 : Int32), Er S (fX12_parties_l13 n x0 x1 x2 x3 x4) := by
  intro n
  induction n with
  | zero => intro x0 x1 x2 x3 x4; rw [fX12_parties_l13]; exact Er_none
  | succ n ih =>
    intro x0 x1 x2 x3 x4
    rw [fX12_parties_l13]
    repeat' first | with_reducible assumption | with_reducible exact Er_none | with_reducible exact Er_ok | with_reducible apply Er_er | with_reducible apply Er_ite | with_reducible apply Er_pu | with_reducible apply Er_ck | with_reducible apply Er_zz | with_reducible apply Er_nz | with_reducible apply Er_ld | with_reducible apply Er_st | with_reducible apply Er_ldL | with_reducible apply Er_stL | with_reducible apply Er_bE | with_reducible apply Er_b1 | with_reducible apply Er_b2 | with_reducible apply ih | with_reducible apply er_fX12_parties_b50 | intro _
theorem er_fX12_parties {S : Nat → Prop}  (s1 : S 1) {M : Mem} {x1 : Int32} : Er S (fX12_parties M x1) := by
  unfold fX12_parties
  repeat' first | with_reducible assumption | with_reducible exact Er_none | with_reducible exact Er_ok | with_reducible apply Er_er | with_reducible apply Er_ite | with_reducible apply Er_pu | with_reducible apply Er_ck | with_reducible apply Er_zz | with_reducible apply Er_nz | with_reducible apply Er_ld | with_reducible apply Er_st | with_reducible apply Er_ldL | with_reducible apply Er_stL | with_reducible apply Er_bE | with_reducible apply Er_b1 | with_reducible apply Er_b2 | with_reducible apply er_fX12_needWhat | with_reducible apply er_fX12_parties_l13 | intro _
theorem er_fX12_plan {S : Nat → Prop}  (s1 : S 1) (s2 : S 2) {M : Mem} {x1 : Int32} {x2 : Int32} : Er S (fX12_plan M x1 x2) := by
  unfold fX12_plan
  repeat' first | with_reducible assumption | with_reducible exact Er_none | with_reducible exact Er_ok | with_reducible apply Er_er | with_reducible apply Er_ite | with_reducible apply Er_pu | with_reducible apply Er_ck | with_reducible apply Er_zz | with_reducible apply Er_nz | with_reducible apply Er_ld | with_reducible apply Er_st | with_reducible apply Er_ldL | with_reducible apply Er_stL | with_reducible apply Er_bE | with_reducible apply Er_b1 | with_reducible apply Er_b2 | with_reducible apply er_fX12_needWhat | with_reducible apply er_fX12_needWithin | intro _
theorem er_fX12_stays_l19 {S : Nat → Prop}  : ∀ (n : Nat) (x0 : Mem) (x1 : Int32) (x2 : Int32), Er S (fX12_stays_l19 n x0 x1 x2) := by
  intro n
  induction n with
  | zero => intro x0 x1 x2; rw [fX12_stays_l19]; exact Er_none
  | succ n ih =>
    intro x0 x1 x2
    rw [fX12_stays_l19]
    repeat' first | with_reducible assumption | with_reducible exact Er_none | with_reducible exact Er_ok | with_reducible apply Er_er | with_reducible apply Er_ite | with_reducible apply Er_pu | with_reducible apply Er_ck | with_reducible apply Er_zz | with_reducible apply Er_nz | with_reducible apply Er_ld | with_reducible apply Er_st | with_reducible apply Er_ldL | with_reducible apply Er_stL | with_reducible apply Er_bE | with_reducible apply Er_b1 | with_reducible apply Er_b2 | with_reducible apply ih | intro _
theorem er_fX12_stays {S : Nat → Prop}  (s1 : S 1) {M : Mem} {x1 : Int32} : Er S (fX12_stays M x1) := by
  unfold fX12_stays
  repeat' first | with_reducible assumption | with_reducible exact Er_none | with_reducible exact Er_ok | with_reducible apply Er_er | with_reducible apply Er_ite | with_reducible apply Er_pu | with_reducible apply Er_ck | with_reducible apply Er_zz | with_reducible apply Er_nz | with_reducible apply Er_ld | with_reducible apply Er_st | with_reducible apply Er_ldL | with_reducible apply Er_stL | with_reducible apply Er_bE | with_reducible apply Er_b1 | with_reducible apply Er_b2 | with_reducible apply er_fX12_needWhat | with_reducible apply er_fX12_stays_l19 | intro _
theorem er_fX12_swap_b80 {S : Nat → Prop} {a32 : Mem → Int32 → Int32 → Int32 → Int32 → Int32 → Option (Except Nat (Int32 × Mem))} {a44 : Mem → Int32 → Int32 → Int32 → Int32 → Int32 → Int32 → Option (Except Nat (Int32 × Mem))} (ha32 : ∀ (y0 : Mem) (y1 : Int32) (y2 : Int32) (y3 : Int32) (y4 : Int32) (y5 : Int32), Er S (a32 y0 y1 y2 y3 y4 y5)) (ha44 : ∀ (y0 : Mem) (y1 : Int32) (y2 : Int32) (y3 : Int32) (y4 : Int32) (y5 : Int32) (y6 : Int32), Er S (a44 y0 y1 y2 y3 y4 y5 y6)) {M : Mem} {x1 : Int32} {x2 : Int32} {x3 : Int32} {x4 : Int32} {x5 : Int32} {x6 : Int32} : Er S (fX12_swap_b80 a32 a44 M x1 x2 x3 x4 x5 x6) := by
  unfold fX12_swap_b80
  repeat' first | with_reducible assumption | with_reducible exact Er_none | with_reducible exact Er_ok | with_reducible apply Er_er | with_reducible apply Er_ite | with_reducible apply Er_pu | with_reducible apply Er_ck | with_reducible apply Er_zz | with_reducible apply Er_nz | with_reducible apply Er_ld | with_reducible apply Er_st | with_reducible apply Er_ldL | with_reducible apply Er_stL | with_reducible apply Er_bE | with_reducible apply Er_b1 | with_reducible apply Er_b2 | with_reducible apply ha32 | with_reducible apply ha44 | intro _
theorem er_fX12_swap_l44 {S : Nat → Prop} {a32 : Mem → Int32 → Int32 → Int32 → Int32 → Int32 → Option (Except Nat (Int32 × Mem))} (ha32 : ∀ (y0 : Mem) (y1 : Int32) (y2 : Int32) (y3 : Int32) (y4 : Int32) (y5 : Int32), Er S (a32 y0 y1 y2 y3 y4 y5)) : ∀ (n : Nat) (x0 : Mem) (x1 : Int32) (x2 : Int32) (x3 : Int32) (x4 : Int32) (x5 : Int32) (x6 : Int32), Er S (fX12_swap_l44 a32 n x0 x1 x2 x3 x4 x5 x6) := by
  intro n
  induction n with
  | zero => intro x0 x1 x2 x3 x4 x5 x6; rw [fX12_swap_l44]; exact Er_none
  | succ n ih =>
    intro x0 x1 x2 x3 x4 x5 x6
    rw [fX12_swap_l44]
    repeat' first | with_reducible assumption | with_reducible exact Er_none | with_reducible exact Er_ok | with_reducible apply Er_er | with_reducible apply Er_ite | with_reducible apply Er_pu | with_reducible apply Er_ck | with_reducible apply Er_zz | with_reducible apply Er_nz | with_reducible apply Er_ld | with_reducible apply Er_st | with_reducible apply Er_ldL | with_reducible apply Er_stL | with_reducible apply Er_bE | with_reducible apply Er_b1 | with_reducible apply Er_b2 | with_reducible apply ha32 | with_reducible apply ih | with_reducible apply er_fX12_swap_b80 | intro _
theorem er_fX12_swap_l32 {S : Nat → Prop}  : ∀ (n : Nat) (x0 : Mem) (x1 : Int32) (x2 : Int32) (x3 : Int32) (x4 : Int32) (x5 : Int32), Er S (fX12_swap_l32 n x0 x1 x2 x3 x4 x5) := by
  intro n
  induction n with
  | zero => intro x0 x1 x2 x3 x4 x5; rw [fX12_swap_l32]; exact Er_none
  | succ n ih =>
    intro x0 x1 x2 x3 x4 x5
    rw [fX12_swap_l32]
    repeat' first | with_reducible assumption | with_reducible exact Er_none | with_reducible exact Er_ok | with_reducible apply Er_er | with_reducible apply Er_ite | with_reducible apply Er_pu | with_reducible apply Er_ck | with_reducible apply Er_zz | with_reducible apply Er_nz | with_reducible apply Er_ld | with_reducible apply Er_st | with_reducible apply Er_ldL | with_reducible apply Er_stL | with_reducible apply Er_bE | with_reducible apply Er_b1 | with_reducible apply Er_b2 | with_reducible apply ih | with_reducible apply er_fX12_swap_l44 | intro _
theorem er_fX12_swap {S : Nat → Prop}  (s1 : S 1) {M : Mem} {x1 : Int32} : Er S (fX12_swap M x1) := by
  unfold fX12_swap
  repeat' first | with_reducible assumption | with_reducible exact Er_none | with_reducible exact Er_ok | with_reducible apply Er_er | with_reducible apply Er_ite | with_reducible apply Er_pu | with_reducible apply Er_ck | with_reducible apply Er_zz | with_reducible apply Er_nz | with_reducible apply Er_ld | with_reducible apply Er_st | with_reducible apply Er_ldL | with_reducible apply Er_stL | with_reducible apply Er_bE | with_reducible apply Er_b1 | with_reducible apply Er_b2 | with_reducible apply er_fX12_needBrother | with_reducible apply er_fX12_swap_l32 | intro _
theorem er_fX12_then {S : Nat → Prop}  (s1 : S 1) (s2 : S 2) {M : Mem} {x1 : Int32} {x2 : Int32} : Er S (fX12_then M x1 x2) := by
  unfold fX12_then
  repeat' first | with_reducible assumption | with_reducible exact Er_none | with_reducible exact Er_ok | with_reducible apply Er_er | with_reducible apply Er_ite | with_reducible apply Er_pu | with_reducible apply Er_ck | with_reducible apply Er_zz | with_reducible apply Er_nz | with_reducible apply Er_ld | with_reducible apply Er_st | with_reducible apply Er_ldL | with_reducible apply Er_stL | with_reducible apply Er_bE | with_reducible apply Er_b1 | with_reducible apply Er_b2 | with_reducible apply er_fX12_needWhat | with_reducible apply er_fX12_needWithin | intro _
theorem er_fX12_way {S : Nat → Prop}  (s1 : S 1) {M : Mem} {x1 : Int32} {x2 : Int32} : Er S (fX12_way M x1 x2) := by
  unfold fX12_way
  repeat' first | with_reducible assumption | with_reducible exact Er_none | with_reducible exact Er_ok | with_reducible apply Er_er | with_reducible apply Er_ite | with_reducible apply Er_pu | with_reducible apply Er_ck | with_reducible apply Er_zz | with_reducible apply Er_nz | with_reducible apply Er_ld | with_reducible apply Er_st | with_reducible apply Er_ldL | with_reducible apply Er_stL | with_reducible apply Er_bE | with_reducible apply Er_b1 | with_reducible apply Er_b2 | with_reducible apply er_fX12_needBrother | intro _
theorem er_fX12_wins {S : Nat → Prop}  (s1 : S 1) {M : Mem} {x1 : Int32} {x2 : Int32} : Er S (fX12_wins M x1 x2) := by
  unfold fX12_wins
  repeat' first | with_reducible assumption | with_reducible exact Er_none | with_reducible exact Er_ok | with_reducible apply Er_er | with_reducible apply Er_ite | with_reducible apply Er_pu | with_reducible apply Er_ck | with_reducible apply Er_zz | with_reducible apply Er_nz | with_reducible apply Er_ld | with_reducible apply Er_st | with_reducible apply Er_ldL | with_reducible apply Er_stL | with_reducible apply Er_bE | with_reducible apply Er_b1 | with_reducible apply Er_b2 | with_reducible apply er_fX12_needChampion | with_reducible apply er_fX12_needGate | intro _
