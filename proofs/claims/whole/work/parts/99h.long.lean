/-! LONGS: the reference leaves what is told -/
def KL (g : Int64) (M : Mem) : Prop := gL M 144 0 = g
def pm1 (g : Int64) (o : Option Mem) : Prop := ∀ N, o = some N → KL g N
def pm2 (g : Int64) (o : Option (Int32 × Mem)) : Prop := ∀ r, o = some r → KL g r.2
theorem KL_sI {g : Int64} {M : Mem} {a i : Nat} {v : Int32} (h : KL g M) : KL g (sI M a i v) := h
theorem KL_aI {g : Int64} {M : Mem} {a : Nat} {v : Nat → Int32} (h : KL g M) : KL g (aI M a v) := h
theorem KL_sL {g : Int64} {M : Mem} {i : Nat} {v : Int64} (h : KL g M) : KL g (sL M 103 i v) := by
  unfold KL
  rw [gL_sL, if_neg (fun y => absurd y.1 (by decide))]
  exact h
theorem p1_none {g : Int64} : pm1 g none := fun _ h => by cases h
theorem p1_ite {g : Int64} {c : Prop} [Decidable c] {a b : Option Mem} (h1 : pm1 g a) (h2 : pm1 g b) : pm1 g (if c then a else b) := by
  by_cases h : c
  · rw [if_pos h]; exact h1
  · rw [if_neg h]; exact h2
theorem p1_pu {g : Int64} {α : Type} {e : α} {k : α → Option Mem} (h : pm1 g (k e)) : pm1 g (pu e k) := h
theorem p1_ck {g : Int64} {c : Prop} [Decidable c] {k : Option Mem} (h : pm1 g k) : pm1 g (ck c k) := p1_ite h p1_none
theorem p1_zz {g : Int64} {x : Int32} {k : Option Mem} (h : pm1 g k) : pm1 g (zz x k) := p1_ite h p1_none
theorem p1_nz {g : Int64} {x : Int32} {k : Option Mem} (h : pm1 g k) : pm1 g (nz x k) := by unfold nz; first | exact p1_ite h p1_none | exact p1_ite p1_none h
theorem p1_ld {g : Int64} {M : Mem} {a n : Nat} {i : Int32} {k : Int32 → Option Mem} (h : ∀ v, pm1 g (k v)) : pm1 g (ldI M a n i k) := p1_ite p1_none (h _)
theorem p1_st {g : Int64} {M : Mem} {a n : Nat} {i v : Int32} {k : Mem → Option Mem} (hM : KL g M) (h : ∀ N, KL g N → pm1 g (k N)) : pm1 g (stI M a n i v k) := p1_ite p1_none (h _ (KL_sI hM))
theorem p1_b1m {g : Int64} {o : Option Mem} {k : Mem → Option Mem} (ho : pm1 g o) (h : ∀ N, KL g N → pm1 g (k N)) : pm1 g (b1 o k) := by
  cases o with
  | none => exact p1_none
  | some N => exact h N (ho N rfl)
theorem p1_b1p {g : Int64} {α : Type} {o : Option α} {k : α → Option Mem} (h : ∀ a, pm1 g (k a)) : pm1 g (b1 o k) := by
  cases o with
  | none => exact p1_none
  | some N => exact h N
theorem p1_b2 {g : Int64} {o : Option (Int32 × Mem)} {k : Int32 → Mem → Option Mem} (ho : pm2 g o) (h : ∀ a N, KL g N → pm1 g (k a N)) : pm1 g (b2 o k) := by
  cases o with
  | none => exact p1_none
  | some r => exact h r.1 r.2 (ho r rfl)
theorem p2_none {g : Int64} : pm2 g none := fun _ h => by cases h
theorem p2_ite {g : Int64} {c : Prop} [Decidable c] {a b : Option (Int32 × Mem)} (h1 : pm2 g a) (h2 : pm2 g b) : pm2 g (if c then a else b) := by
  by_cases h : c
  · rw [if_pos h]; exact h1
  · rw [if_neg h]; exact h2
theorem p2_pu {g : Int64} {α : Type} {e : α} {k : α → Option (Int32 × Mem)} (h : pm2 g (k e)) : pm2 g (pu e k) := h
theorem p2_ck {g : Int64} {c : Prop} [Decidable c] {k : Option (Int32 × Mem)} (h : pm2 g k) : pm2 g (ck c k) := p2_ite h p2_none
theorem p2_zz {g : Int64} {x : Int32} {k : Option (Int32 × Mem)} (h : pm2 g k) : pm2 g (zz x k) := p2_ite h p2_none
theorem p2_nz {g : Int64} {x : Int32} {k : Option (Int32 × Mem)} (h : pm2 g k) : pm2 g (nz x k) := by unfold nz; first | exact p2_ite h p2_none | exact p2_ite p2_none h
theorem p2_ld {g : Int64} {M : Mem} {a n : Nat} {i : Int32} {k : Int32 → Option (Int32 × Mem)} (h : ∀ v, pm2 g (k v)) : pm2 g (ldI M a n i k) := p2_ite p2_none (h _)
theorem p2_st {g : Int64} {M : Mem} {a n : Nat} {i v : Int32} {k : Mem → Option (Int32 × Mem)} (hM : KL g M) (h : ∀ N, KL g N → pm2 g (k N)) : pm2 g (stI M a n i v k) := p2_ite p2_none (h _ (KL_sI hM))
theorem p2_b1m {g : Int64} {o : Option Mem} {k : Mem → Option (Int32 × Mem)} (ho : pm1 g o) (h : ∀ N, KL g N → pm2 g (k N)) : pm2 g (b1 o k) := by
  cases o with
  | none => exact p2_none
  | some N => exact h N (ho N rfl)
theorem p2_b1p {g : Int64} {α : Type} {o : Option α} {k : α → Option (Int32 × Mem)} (h : ∀ a, pm2 g (k a)) : pm2 g (b1 o k) := by
  cases o with
  | none => exact p2_none
  | some N => exact h N
theorem p2_b2 {g : Int64} {o : Option (Int32 × Mem)} {k : Int32 → Mem → Option (Int32 × Mem)} (ho : pm2 g o) (h : ∀ a N, KL g N → pm2 g (k a N)) : pm2 g (b2 o k) := by
  cases o with
  | none => exact p2_none
  | some r => exact h r.1 r.2 (ho r rfl)
theorem p1_some {g : Int64} {N : Mem} (h : KL g N) : pm1 g (some N) := fun r e => by injection e with e; rw [← e]; exact h
theorem p2_some {g : Int64} {v : Int32} {N : Mem} (h : KL g N) : pm2 g (some (v, N)) := fun r e => by injection e with e; rw [← e]; exact h
theorem pl_fX13_wrong {g : Int64}  {M : Mem} {x1 : Int32} (h : KL g M) : pm1 g (fX13_wrong M x1) := by
  unfold fX13_wrong
  repeat' first | assumption | with_reducible apply KL_sI | with_reducible apply KL_sL | with_reducible apply KL_aI | with_reducible exact p1_none | with_reducible apply p1_some | with_reducible apply p1_ite | with_reducible apply p1_pu | with_reducible apply p1_ck | with_reducible apply p1_zz | with_reducible apply p1_nz | with_reducible apply p1_ld | with_reducible apply p1_st | with_reducible apply p1_b1m | with_reducible apply p1_b1p | with_reducible apply p1_b2 | intro _
theorem pl_fX13_goes_b331 {g : Int64}  {M : Mem} (h : KL g M) : pm1 g (fX13_goes_b331 M) := by
  unfold fX13_goes_b331
  repeat' first | assumption | with_reducible apply KL_sI | with_reducible apply KL_sL | with_reducible apply KL_aI | with_reducible exact p1_none | with_reducible apply p1_some | with_reducible apply p1_ite | with_reducible apply p1_pu | with_reducible apply p1_ck | with_reducible apply p1_zz | with_reducible apply p1_nz | with_reducible apply p1_ld | with_reducible apply p1_st | with_reducible apply p1_b1m | with_reducible apply p1_b1p | with_reducible apply p1_b2 | intro _
theorem pl_fX13_goes_b328 {g : Int64}  {M : Mem} {s0 : Int32} (h : KL g M) : pm1 g (fX13_goes_b328 M s0) := by
  unfold fX13_goes_b328
  repeat' first | assumption | with_reducible apply KL_sI | with_reducible apply KL_sL | with_reducible apply KL_aI | with_reducible exact p1_none | with_reducible apply p1_some | with_reducible apply p1_ite | with_reducible apply p1_pu | with_reducible apply p1_ck | with_reducible apply p1_zz | with_reducible apply p1_nz | with_reducible apply p1_ld | with_reducible apply p1_st | with_reducible apply p1_b1m | with_reducible apply p1_b1p | with_reducible apply p1_b2 | with_reducible apply pl_fX13_goes_b331 | intro _
theorem pl_fX13_goes_b323 {g : Int64}  {M : Mem} (h : KL g M) : pm1 g (fX13_goes_b323 M) := by
  unfold fX13_goes_b323
  repeat' first | assumption | with_reducible apply KL_sI | with_reducible apply KL_sL | with_reducible apply KL_aI | with_reducible exact p1_none | with_reducible apply p1_some | with_reducible apply p1_ite | with_reducible apply p1_pu | with_reducible apply p1_ck | with_reducible apply p1_zz | with_reducible apply p1_nz | with_reducible apply p1_ld | with_reducible apply p1_st | with_reducible apply p1_b1m | with_reducible apply p1_b1p | with_reducible apply p1_b2 | with_reducible apply pl_fX13_goes_b328 | intro _
theorem pl_fX13_goes_b237 {g : Int64} {a187 : Mem → Option Mem} (ha187 : ∀ (y0 : Mem), KL g y0 → pm1 g (a187 y0)) {M : Mem} (h : KL g M) : pm1 g (fX13_goes_b237 a187 M) := by
  unfold fX13_goes_b237
  repeat' first | assumption | with_reducible apply KL_sI | with_reducible apply KL_sL | with_reducible apply KL_aI | with_reducible exact p1_none | with_reducible apply p1_some | with_reducible apply p1_ite | with_reducible apply p1_pu | with_reducible apply p1_ck | with_reducible apply p1_zz | with_reducible apply p1_nz | with_reducible apply p1_ld | with_reducible apply p1_st | with_reducible apply p1_b1m | with_reducible apply p1_b1p | with_reducible apply p1_b2 | with_reducible apply ha187 | intro _
theorem pl_fX13_goes_l187 {g : Int64}  : ∀ (n : Nat) (x0 : Mem), KL g x0 → pm1 g (fX13_goes_l187 n x0) := by
  intro n
  induction n with
  | zero => intro x0 h; rw [fX13_goes_l187]; exact p1_none
  | succ n ih =>
    intro x0 h
    rw [fX13_goes_l187]
    repeat' first | assumption | with_reducible apply KL_sI | with_reducible apply KL_sL | with_reducible apply KL_aI | with_reducible exact p1_none | with_reducible apply p1_some | with_reducible apply p1_ite | with_reducible apply p1_pu | with_reducible apply p1_ck | with_reducible apply p1_zz | with_reducible apply p1_nz | with_reducible apply p1_ld | with_reducible apply p1_st | with_reducible apply p1_b1m | with_reducible apply p1_b1p | with_reducible apply p1_b2 | with_reducible apply ih | with_reducible apply pl_fX13_goes_b331 | with_reducible apply pl_fX13_goes_b237 | intro _
theorem pl_fX13_goes_b159 {g : Int64} {a108 : Mem → Option Mem} (ha108 : ∀ (y0 : Mem), KL g y0 → pm1 g (a108 y0)) {M : Mem} (h : KL g M) : pm1 g (fX13_goes_b159 a108 M) := by
  unfold fX13_goes_b159
  repeat' first | assumption | with_reducible apply KL_sI | with_reducible apply KL_sL | with_reducible apply KL_aI | with_reducible exact p1_none | with_reducible apply p1_some | with_reducible apply p1_ite | with_reducible apply p1_pu | with_reducible apply p1_ck | with_reducible apply p1_zz | with_reducible apply p1_nz | with_reducible apply p1_ld | with_reducible apply p1_st | with_reducible apply p1_b1m | with_reducible apply p1_b1p | with_reducible apply p1_b2 | with_reducible apply ha108 | intro _
theorem pl_fX13_goes_l108 {g : Int64}  : ∀ (n : Nat) (x0 : Mem), KL g x0 → pm1 g (fX13_goes_l108 n x0) := by
  intro n
  induction n with
  | zero => intro x0 h; rw [fX13_goes_l108]; exact p1_none
  | succ n ih =>
    intro x0 h
    rw [fX13_goes_l108]
    repeat' first | assumption | with_reducible apply KL_sI | with_reducible apply KL_sL | with_reducible apply KL_aI | with_reducible exact p1_none | with_reducible apply p1_some | with_reducible apply p1_ite | with_reducible apply p1_pu | with_reducible apply p1_ck | with_reducible apply p1_zz | with_reducible apply p1_nz | with_reducible apply p1_ld | with_reducible apply p1_st | with_reducible apply p1_b1m | with_reducible apply p1_b1p | with_reducible apply p1_b2 | with_reducible apply ih | with_reducible apply pl_fX13_goes_b331 | with_reducible apply pl_fX13_goes_b159 | intro _
theorem pl_fX13_goes_b50 {g : Int64}  {M : Mem} (h : KL g M) : pm1 g (fX13_goes_b50 M) := by
  unfold fX13_goes_b50
  repeat' first | assumption | with_reducible apply KL_sI | with_reducible apply KL_sL | with_reducible apply KL_aI | with_reducible exact p1_none | with_reducible apply p1_some | with_reducible apply p1_ite | with_reducible apply p1_pu | with_reducible apply p1_ck | with_reducible apply p1_zz | with_reducible apply p1_nz | with_reducible apply p1_ld | with_reducible apply p1_st | with_reducible apply p1_b1m | with_reducible apply p1_b1p | with_reducible apply p1_b2 | with_reducible apply pl_fX13_goes_b323 | with_reducible apply pl_fX13_goes_b328 | with_reducible apply pl_fX13_goes_l187 | with_reducible apply pl_fX13_goes_l108 | with_reducible apply pl_fX13_goes_b331 | intro _
theorem pl_fX13_goes_b37 {g : Int64} {a0 : Mem → Option Mem} (ha0 : ∀ (y0 : Mem), KL g y0 → pm1 g (a0 y0)) {M : Mem} (h : KL g M) : pm1 g (fX13_goes_b37 a0 M) := by
  unfold fX13_goes_b37
  repeat' first | assumption | with_reducible apply KL_sI | with_reducible apply KL_sL | with_reducible apply KL_aI | with_reducible exact p1_none | with_reducible apply p1_some | with_reducible apply p1_ite | with_reducible apply p1_pu | with_reducible apply p1_ck | with_reducible apply p1_zz | with_reducible apply p1_nz | with_reducible apply p1_ld | with_reducible apply p1_st | with_reducible apply p1_b1m | with_reducible apply p1_b1p | with_reducible apply p1_b2 | with_reducible apply ha0 | intro _
theorem pl_fX13_goes_l0 {g : Int64}  : ∀ (n : Nat) (x0 : Mem), KL g x0 → pm1 g (fX13_goes_l0 n x0) := by
  intro n
  induction n with
  | zero => intro x0 h; rw [fX13_goes_l0]; exact p1_none
  | succ n ih =>
    intro x0 h
    rw [fX13_goes_l0]
    repeat' first | assumption | with_reducible apply KL_sI | with_reducible apply KL_sL | with_reducible apply KL_aI | with_reducible exact p1_none | with_reducible apply p1_some | with_reducible apply p1_ite | with_reducible apply p1_pu | with_reducible apply p1_ck | with_reducible apply p1_zz | with_reducible apply p1_nz | with_reducible apply p1_ld | with_reducible apply p1_st | with_reducible apply p1_b1m | with_reducible apply p1_b1p | with_reducible apply p1_b2 | with_reducible apply ih | with_reducible apply pl_fX13_goes_b37 | with_reducible apply pl_fX13_goes_b50 | intro _
theorem pl_fX13_goes {g : Int64}  {M : Mem} (h : KL g M) : pm1 g (fX13_goes M) := by
  unfold fX13_goes
  repeat' first | assumption | with_reducible apply KL_sI | with_reducible apply KL_sL | with_reducible apply KL_aI | with_reducible exact p1_none | with_reducible apply p1_some | with_reducible apply p1_ite | with_reducible apply p1_pu | with_reducible apply p1_ck | with_reducible apply p1_zz | with_reducible apply p1_nz | with_reducible apply p1_ld | with_reducible apply p1_st | with_reducible apply p1_b1m | with_reducible apply p1_b1p | with_reducible apply p1_b2 | with_reducible apply pl_fX13_goes_l0 | intro _
theorem pl_fX13_among_b54 {g : Int64}  {M : Mem} (h : KL g M) : pm2 g (fX13_among_b54 M) := by
  unfold fX13_among_b54
  repeat' first | assumption | with_reducible apply KL_sI | with_reducible apply KL_sL | with_reducible apply KL_aI | with_reducible exact p2_none | with_reducible apply p2_some | with_reducible apply p2_ite | with_reducible apply p2_pu | with_reducible apply p2_ck | with_reducible apply p2_zz | with_reducible apply p2_nz | with_reducible apply p2_ld | with_reducible apply p2_st | with_reducible apply p2_b1m | with_reducible apply p2_b1p | with_reducible apply p2_b2 | with_reducible apply pl_fX13_goes | intro _
theorem pl_fX13_among {g : Int64}  {M : Mem} {x1 : Int32} (h : KL g M) : pm2 g (fX13_among M x1) := by
  unfold fX13_among
  repeat' first | assumption | with_reducible apply KL_sI | with_reducible apply KL_sL | with_reducible apply KL_aI | with_reducible exact p2_none | with_reducible apply p2_some | with_reducible apply p2_ite | with_reducible apply p2_pu | with_reducible apply p2_ck | with_reducible apply p2_zz | with_reducible apply p2_nz | with_reducible apply p2_ld | with_reducible apply p2_st | with_reducible apply p2_b1m | with_reducible apply p2_b1p | with_reducible apply p2_b2 | with_reducible apply pl_fX13_wrong | with_reducible apply pl_fX13_among_b54 | intro _
theorem pl_fX13_right_b16 {g : Int64}  {M : Mem} (h : KL g M) : pm2 g (fX13_right_b16 M) := by
  unfold fX13_right_b16
  repeat' first | assumption | with_reducible apply KL_sI | with_reducible apply KL_sL | with_reducible apply KL_aI | with_reducible exact p2_none | with_reducible apply p2_some | with_reducible apply p2_ite | with_reducible apply p2_pu | with_reducible apply p2_ck | with_reducible apply p2_zz | with_reducible apply p2_nz | with_reducible apply p2_ld | with_reducible apply p2_st | with_reducible apply p2_b1m | with_reducible apply p2_b1p | with_reducible apply p2_b2 | intro _
theorem pl_fX13_right {g : Int64}  {M : Mem} {x1 : Int32} {x2 : Int32} (h : KL g M) : pm2 g (fX13_right M x1 x2) := by
  unfold fX13_right
  repeat' first | assumption | with_reducible apply KL_sI | with_reducible apply KL_sL | with_reducible apply KL_aI | with_reducible exact p2_none | with_reducible apply p2_some | with_reducible apply p2_ite | with_reducible apply p2_pu | with_reducible apply p2_ck | with_reducible apply p2_zz | with_reducible apply p2_nz | with_reducible apply p2_ld | with_reducible apply p2_st | with_reducible apply p2_b1m | with_reducible apply p2_b1p | with_reducible apply p2_b2 | with_reducible apply pl_fX13_right_b16 | intro _
theorem pl_fX13_isWhat {g : Int64}  {M : Mem} {x1 : Int32} {x2 : Int32} (h : KL g M) : pm2 g (fX13_isWhat M x1 x2) := by
  unfold fX13_isWhat
  repeat' first | assumption | with_reducible apply KL_sI | with_reducible apply KL_sL | with_reducible apply KL_aI | with_reducible exact p2_none | with_reducible apply p2_some | with_reducible apply p2_ite | with_reducible apply p2_pu | with_reducible apply p2_ck | with_reducible apply p2_zz | with_reducible apply p2_nz | with_reducible apply p2_ld | with_reducible apply p2_st | with_reducible apply p2_b1m | with_reducible apply p2_b1p | with_reducible apply p2_b2 | with_reducible apply pl_fX13_right | intro _
theorem pl_fX13_lays0_l2 {g : Int64}  : ∀ (n : Nat) (x0 : Mem) (x1 : Int32) (x2 : Int32) (x3 : Int32), KL g x0 → pm1 g (fX13_lays0_l2 n x0 x1 x2 x3) := by
  intro n
  induction n with
  | zero => intro x0 x1 x2 x3 h; rw [fX13_lays0_l2]; exact p1_none
  | succ n ih =>
    intro x0 x1 x2 x3 h
    rw [fX13_lays0_l2]
    repeat' first | assumption | with_reducible apply KL_sI | with_reducible apply KL_sL | with_reducible apply KL_aI | with_reducible exact p1_none | with_reducible apply p1_some | with_reducible apply p1_ite | with_reducible apply p1_pu | with_reducible apply p1_ck | with_reducible apply p1_zz | with_reducible apply p1_nz | with_reducible apply p1_ld | with_reducible apply p1_st | with_reducible apply p1_b1m | with_reducible apply p1_b1p | with_reducible apply p1_b2 | with_reducible apply ih | intro _
theorem pl_fX13_lays0 {g : Int64}  {M : Mem} {x1 : Int32} {x2 : Int32} (h : KL g M) : pm1 g (fX13_lays0 M x1 x2) := by
  unfold fX13_lays0
  repeat' first | assumption | with_reducible apply KL_sI | with_reducible apply KL_sL | with_reducible apply KL_aI | with_reducible exact p1_none | with_reducible apply p1_some | with_reducible apply p1_ite | with_reducible apply p1_pu | with_reducible apply p1_ck | with_reducible apply p1_zz | with_reducible apply p1_nz | with_reducible apply p1_ld | with_reducible apply p1_st | with_reducible apply p1_b1m | with_reducible apply p1_b1p | with_reducible apply p1_b2 | with_reducible apply pl_fX13_lays0_l2 | intro _
theorem pl_fX13_gathers {g : Int64}  {M : Mem} {x1 : Int32} {x2 : Int32} (h : KL g M) : pm1 g (fX13_gathers M x1 x2) := by
  unfold fX13_gathers
  repeat' first | assumption | with_reducible apply KL_sI | with_reducible apply KL_sL | with_reducible apply KL_aI | with_reducible exact p1_none | with_reducible apply p1_some | with_reducible apply p1_ite | with_reducible apply p1_pu | with_reducible apply p1_ck | with_reducible apply p1_zz | with_reducible apply p1_nz | with_reducible apply p1_ld | with_reducible apply p1_st | with_reducible apply p1_b1m | with_reducible apply p1_b1p | with_reducible apply p1_b2 | intro _
theorem pl_fX13_does {g : Int64}  {M : Mem} {x1 : Int32} {x2 : Int32} (h : KL g M) : pm2 g (fX13_does M x1 x2) := by
  unfold fX13_does
  repeat' first | assumption | with_reducible apply KL_sI | with_reducible apply KL_sL | with_reducible apply KL_aI | with_reducible exact p2_none | with_reducible apply p2_some | with_reducible apply p2_ite | with_reducible apply p2_pu | with_reducible apply p2_ck | with_reducible apply p2_zz | with_reducible apply p2_nz | with_reducible apply p2_ld | with_reducible apply p2_st | with_reducible apply p2_b1m | with_reducible apply p2_b1p | with_reducible apply p2_b2 | intro _
theorem pl_fX13_reckons_b140 {g : Int64} {a4 : Mem → Int32 → Int32 → Option (Int32 × Mem)} (ha4 : ∀ (y0 : Mem) (y1 : Int32) (y2 : Int32), KL g y0 → pm2 g (a4 y0 y1 y2)) {M : Mem} {x2 : Int32} {x3 : Int32} (h : KL g M) : pm2 g (fX13_reckons_b140 a4 M x2 x3) := by
  unfold fX13_reckons_b140
  repeat' first | assumption | with_reducible apply KL_sI | with_reducible apply KL_sL | with_reducible apply KL_aI | with_reducible exact p2_none | with_reducible apply p2_some | with_reducible apply p2_ite | with_reducible apply p2_pu | with_reducible apply p2_ck | with_reducible apply p2_zz | with_reducible apply p2_nz | with_reducible apply p2_ld | with_reducible apply p2_st | with_reducible apply p2_b1m | with_reducible apply p2_b1p | with_reducible apply p2_b2 | with_reducible apply ha4 | intro _
theorem pl_fX13_reckons_b67 {g : Int64} {a4 : Mem → Int32 → Int32 → Option (Int32 × Mem)} (ha4 : ∀ (y0 : Mem) (y1 : Int32) (y2 : Int32), KL g y0 → pm2 g (a4 y0 y1 y2)) {M : Mem} {x2 : Int32} {x3 : Int32} {s0 : Int32} {s1 : Int32} (h : KL g M) : pm2 g (fX13_reckons_b67 a4 M x2 x3 s0 s1) := by
  unfold fX13_reckons_b67
  repeat' first | assumption | with_reducible apply KL_sI | with_reducible apply KL_sL | with_reducible apply KL_aI | with_reducible exact p2_none | with_reducible apply p2_some | with_reducible apply p2_ite | with_reducible apply p2_pu | with_reducible apply p2_ck | with_reducible apply p2_zz | with_reducible apply p2_nz | with_reducible apply p2_ld | with_reducible apply p2_st | with_reducible apply p2_b1m | with_reducible apply p2_b1p | with_reducible apply p2_b2 | with_reducible apply ha4 | with_reducible apply pl_fX13_reckons_b140 | intro _
theorem pl_fX13_reckons_b36 {g : Int64} {a4 : Mem → Int32 → Int32 → Option (Int32 × Mem)} (ha4 : ∀ (y0 : Mem) (y1 : Int32) (y2 : Int32), KL g y0 → pm2 g (a4 y0 y1 y2)) {M : Mem} {x2 : Int32} {x3 : Int32} {x4 : Int32} (h : KL g M) : pm2 g (fX13_reckons_b36 a4 M x2 x3 x4) := by
  unfold fX13_reckons_b36
  repeat' first | assumption | with_reducible apply KL_sI | with_reducible apply KL_sL | with_reducible apply KL_aI | with_reducible exact p2_none | with_reducible apply p2_some | with_reducible apply p2_ite | with_reducible apply p2_pu | with_reducible apply p2_ck | with_reducible apply p2_zz | with_reducible apply p2_nz | with_reducible apply p2_ld | with_reducible apply p2_st | with_reducible apply p2_b1m | with_reducible apply p2_b1p | with_reducible apply p2_b2 | with_reducible apply ha4 | with_reducible apply pl_fX13_reckons_b67 | intro _
theorem pl_fX13_reckons_b106 {g : Int64} {a4 : Mem → Int32 → Int32 → Option (Int32 × Mem)} (ha4 : ∀ (y0 : Mem) (y1 : Int32) (y2 : Int32), KL g y0 → pm2 g (a4 y0 y1 y2)) {M : Mem} {x2 : Int32} {x3 : Int32} {s0 : Int32} {s1 : Int32} (h : KL g M) : pm2 g (fX13_reckons_b106 a4 M x2 x3 s0 s1) := by
  unfold fX13_reckons_b106
  repeat' first | assumption | with_reducible apply KL_sI | with_reducible apply KL_sL | with_reducible apply KL_aI | with_reducible exact p2_none | with_reducible apply p2_some | with_reducible apply p2_ite | with_reducible apply p2_pu | with_reducible apply p2_ck | with_reducible apply p2_zz | with_reducible apply p2_nz | with_reducible apply p2_ld | with_reducible apply p2_st | with_reducible apply p2_b1m | with_reducible apply p2_b1p | with_reducible apply p2_b2 | with_reducible apply ha4 | with_reducible apply pl_fX13_reckons_b140 | intro _
theorem pl_fX13_reckons_l4 {g : Int64}  : ∀ (n : Nat) (x0 : Mem) (x1 : Int32) (x2 : Int32), KL g x0 → pm2 g (fX13_reckons_l4 n x0 x1 x2) := by
  intro n
  induction n with
  | zero => intro x0 x1 x2 h; rw [fX13_reckons_l4]; exact p2_none
  | succ n ih =>
    intro x0 x1 x2 h
    rw [fX13_reckons_l4]
    repeat' first | assumption | with_reducible apply KL_sI | with_reducible apply KL_sL | with_reducible apply KL_aI | with_reducible exact p2_none | with_reducible apply p2_some | with_reducible apply p2_ite | with_reducible apply p2_pu | with_reducible apply p2_ck | with_reducible apply p2_zz | with_reducible apply p2_nz | with_reducible apply p2_ld | with_reducible apply p2_st | with_reducible apply p2_b1m | with_reducible apply p2_b1p | with_reducible apply p2_b2 | with_reducible apply ih | with_reducible apply pl_fX13_reckons_b36 | with_reducible apply pl_fX13_reckons_b106 | with_reducible apply pl_fX13_reckons_b140 | intro _
theorem pl_fX13_reckons {g : Int64}  {M : Mem} {x1 : Int32} (h : KL g M) : pm2 g (fX13_reckons M x1) := by
  unfold fX13_reckons
  repeat' first | assumption | with_reducible apply KL_sI | with_reducible apply KL_sL | with_reducible apply KL_aI | with_reducible exact p2_none | with_reducible apply p2_some | with_reducible apply p2_ite | with_reducible apply p2_pu | with_reducible apply p2_ck | with_reducible apply p2_zz | with_reducible apply p2_nz | with_reducible apply p2_ld | with_reducible apply p2_st | with_reducible apply p2_b1m | with_reducible apply p2_b1p | with_reducible apply p2_b2 | with_reducible apply pl_fX13_reckons_l4 | intro _
theorem pl_fX13_likeOf_b104 {g : Int64}  {M : Mem} {s0 : Int32} {s1 : Int32} (h : KL g M) : pm2 g (fX13_likeOf_b104 M s0 s1) := by
  unfold fX13_likeOf_b104
  repeat' first | assumption | with_reducible apply KL_sI | with_reducible apply KL_sL | with_reducible apply KL_aI | with_reducible exact p2_none | with_reducible apply p2_some | with_reducible apply p2_ite | with_reducible apply p2_pu | with_reducible apply p2_ck | with_reducible apply p2_zz | with_reducible apply p2_nz | with_reducible apply p2_ld | with_reducible apply p2_st | with_reducible apply p2_b1m | with_reducible apply p2_b1p | with_reducible apply p2_b2 | with_reducible apply pl_fX13_reckons | intro _
theorem pl_fX13_likeOf_b84 {g : Int64}  {M : Mem} {x3 : Int32} {x5 : Int32} {s0 : Int32} {s1 : Int32} (h : KL g M) : pm2 g (fX13_likeOf_b84 M x3 x5 s0 s1) := by
  unfold fX13_likeOf_b84
  repeat' first | assumption | with_reducible apply KL_sI | with_reducible apply KL_sL | with_reducible apply KL_aI | with_reducible exact p2_none | with_reducible apply p2_some | with_reducible apply p2_ite | with_reducible apply p2_pu | with_reducible apply p2_ck | with_reducible apply p2_zz | with_reducible apply p2_nz | with_reducible apply p2_ld | with_reducible apply p2_st | with_reducible apply p2_b1m | with_reducible apply p2_b1p | with_reducible apply p2_b2 | with_reducible apply pl_fX13_likeOf_b104 | intro _
theorem pl_fX13_likeOf {g : Int64}  {M : Mem} {x1 : Int32} {x2 : Int32} {x3 : Int32} {x4 : Int32} (h : KL g M) : pm2 g (fX13_likeOf M x1 x2 x3 x4) := by
  unfold fX13_likeOf
  repeat' first | assumption | with_reducible apply KL_sI | with_reducible apply KL_sL | with_reducible apply KL_aI | with_reducible exact p2_none | with_reducible apply p2_some | with_reducible apply p2_ite | with_reducible apply p2_pu | with_reducible apply p2_ck | with_reducible apply p2_zz | with_reducible apply p2_nz | with_reducible apply p2_ld | with_reducible apply p2_st | with_reducible apply p2_b1m | with_reducible apply p2_b1p | with_reducible apply p2_b2 | with_reducible apply pl_fX13_likeOf_b84 | intro _
theorem pl_fX13_follows_b62 {g : Int64}  {M : Mem} {x5 : Int32} {s0 : Int32} {s1 : Int32} {s2 : Int32} {s3 : Int32} (h : KL g M) : pm2 g (fX13_follows_b62 M x5 s0 s1 s2 s3) := by
  unfold fX13_follows_b62
  repeat' first | assumption | with_reducible apply KL_sI | with_reducible apply KL_sL | with_reducible apply KL_aI | with_reducible exact p2_none | with_reducible apply p2_some | with_reducible apply p2_ite | with_reducible apply p2_pu | with_reducible apply p2_ck | with_reducible apply p2_zz | with_reducible apply p2_nz | with_reducible apply p2_ld | with_reducible apply p2_st | with_reducible apply p2_b1m | with_reducible apply p2_b1p | with_reducible apply p2_b2 | with_reducible apply pl_fX13_likeOf | intro _
theorem pl_fX13_follows_b42 {g : Int64}  {M : Mem} {x1 : Int32} {x2 : Int32} {x3 : Int32} {x4 : Int32} {s0 : Int32} {s1 : Int32} {s2 : Int32} {s3 : Int32} (h : KL g M) : pm2 g (fX13_follows_b42 M x1 x2 x3 x4 s0 s1 s2 s3) := by
  unfold fX13_follows_b42
  repeat' first | assumption | with_reducible apply KL_sI | with_reducible apply KL_sL | with_reducible apply KL_aI | with_reducible exact p2_none | with_reducible apply p2_some | with_reducible apply p2_ite | with_reducible apply p2_pu | with_reducible apply p2_ck | with_reducible apply p2_zz | with_reducible apply p2_nz | with_reducible apply p2_ld | with_reducible apply p2_st | with_reducible apply p2_b1m | with_reducible apply p2_b1p | with_reducible apply p2_b2 | with_reducible apply pl_fX13_likeOf | with_reducible apply pl_fX13_follows_b62 | intro _
theorem pl_fX13_follows {g : Int64}  {M : Mem} {x1 : Int32} {x2 : Int32} {x3 : Int32} {x4 : Int32} (h : KL g M) : pm2 g (fX13_follows M x1 x2 x3 x4) := by
  unfold fX13_follows
  repeat' first | assumption | with_reducible apply KL_sI | with_reducible apply KL_sL | with_reducible apply KL_aI | with_reducible exact p2_none | with_reducible apply p2_some | with_reducible apply p2_ite | with_reducible apply p2_pu | with_reducible apply p2_ck | with_reducible apply p2_zz | with_reducible apply p2_nz | with_reducible apply p2_ld | with_reducible apply p2_st | with_reducible apply p2_b1m | with_reducible apply p2_b1p | with_reducible apply p2_b2 | with_reducible apply pl_fX13_follows_b42 | intro _
theorem pl_fX13_followers_b36 {g : Int64} {a5 : Mem → Int32 → Int32 → Int32 → Int32 → Option (Int32 × Mem)} (ha5 : ∀ (y0 : Mem) (y1 : Int32) (y2 : Int32) (y3 : Int32) (y4 : Int32), KL g y0 → pm2 g (a5 y0 y1 y2 y3 y4)) {M : Mem} {x1 : Int32} {x2 : Int32} {x4 : Int32} {s0 : Int32} {s1 : Int32} (h : KL g M) : pm2 g (fX13_followers_b36 a5 M x1 x2 x4 s0 s1) := by
  unfold fX13_followers_b36
  repeat' first | assumption | with_reducible apply KL_sI | with_reducible apply KL_sL | with_reducible apply KL_aI | with_reducible exact p2_none | with_reducible apply p2_some | with_reducible apply p2_ite | with_reducible apply p2_pu | with_reducible apply p2_ck | with_reducible apply p2_zz | with_reducible apply p2_nz | with_reducible apply p2_ld | with_reducible apply p2_st | with_reducible apply p2_b1m | with_reducible apply p2_b1p | with_reducible apply p2_b2 | with_reducible apply ha5 | intro _
theorem pl_fX13_followers_l5 {g : Int64}  : ∀ (n : Nat) (x0 : Mem) (x1 : Int32) (x2 : Int32) (x3 : Int32) (x4 : Int32), KL g x0 → pm2 g (fX13_followers_l5 n x0 x1 x2 x3 x4) := by
  intro n
  induction n with
  | zero => intro x0 x1 x2 x3 x4 h; rw [fX13_followers_l5]; exact p2_none
  | succ n ih =>
    intro x0 x1 x2 x3 x4 h
    rw [fX13_followers_l5]
    repeat' first | assumption | with_reducible apply KL_sI | with_reducible apply KL_sL | with_reducible apply KL_aI | with_reducible exact p2_none | with_reducible apply p2_some | with_reducible apply p2_ite | with_reducible apply p2_pu | with_reducible apply p2_ck | with_reducible apply p2_zz | with_reducible apply p2_nz | with_reducible apply p2_ld | with_reducible apply p2_st | with_reducible apply p2_b1m | with_reducible apply p2_b1p | with_reducible apply p2_b2 | with_reducible apply ih | with_reducible apply pl_fX13_follows | with_reducible apply pl_fX13_followers_b36 | intro _
theorem pl_fX13_followers {g : Int64}  {M : Mem} {x1 : Int32} {x2 : Int32} (h : KL g M) : pm2 g (fX13_followers M x1 x2) := by
  unfold fX13_followers
  repeat' first | assumption | with_reducible apply KL_sI | with_reducible apply KL_sL | with_reducible apply KL_aI | with_reducible exact p2_none | with_reducible apply p2_some | with_reducible apply p2_ite | with_reducible apply p2_pu | with_reducible apply p2_ck | with_reducible apply p2_zz | with_reducible apply p2_nz | with_reducible apply p2_ld | with_reducible apply p2_st | with_reducible apply p2_b1m | with_reducible apply p2_b1p | with_reducible apply p2_b2 | with_reducible apply pl_fX13_followers_l5 | intro _
theorem pl_fX13_isStaying {g : Int64}  {M : Mem} {x1 : Int32} (h : KL g M) : pm2 g (fX13_isStaying M x1) := by
  unfold fX13_isStaying
  repeat' first | assumption | with_reducible apply KL_sI | with_reducible apply KL_sL | with_reducible apply KL_aI | with_reducible exact p2_none | with_reducible apply p2_some | with_reducible apply p2_ite | with_reducible apply p2_pu | with_reducible apply p2_ck | with_reducible apply p2_zz | with_reducible apply p2_nz | with_reducible apply p2_ld | with_reducible apply p2_st | with_reducible apply p2_b1m | with_reducible apply p2_b1p | with_reducible apply p2_b2 | with_reducible apply pl_fX13_followers | with_reducible apply pl_fX13_reckons | intro _
theorem pl_fX13_ends {g : Int64}  {M : Mem} {x1 : Int32} {x2 : Int32} (h : KL g M) : pm1 g (fX13_ends M x1 x2) := by
  unfold fX13_ends
  repeat' first | assumption | with_reducible apply KL_sI | with_reducible apply KL_sL | with_reducible apply KL_aI | with_reducible exact p1_none | with_reducible apply p1_some | with_reducible apply p1_ite | with_reducible apply p1_pu | with_reducible apply p1_ck | with_reducible apply p1_zz | with_reducible apply p1_nz | with_reducible apply p1_ld | with_reducible apply p1_st | with_reducible apply p1_b1m | with_reducible apply p1_b1p | with_reducible apply p1_b2 | with_reducible apply pl_fX13_isStaying | intro _
theorem pl_fX13_goesBy_b42 {g : Int64}  {M : Mem} {x1 : Int32} {s0 : Int32} {s1 : Int32} (h : KL g M) : pm1 g (fX13_goesBy_b42 M x1 s0 s1) := by
  unfold fX13_goesBy_b42
  repeat' first | assumption | with_reducible apply KL_sI | with_reducible apply KL_sL | with_reducible apply KL_aI | with_reducible exact p1_none | with_reducible apply p1_some | with_reducible apply p1_ite | with_reducible apply p1_pu | with_reducible apply p1_ck | with_reducible apply p1_zz | with_reducible apply p1_nz | with_reducible apply p1_ld | with_reducible apply p1_st | with_reducible apply p1_b1m | with_reducible apply p1_b1p | with_reducible apply p1_b2 | with_reducible apply pl_fX13_does | with_reducible apply pl_fX13_ends | intro _
theorem pl_fX13_goesBy {g : Int64}  {M : Mem} {x1 : Int32} {x2 : Int32} (h : KL g M) : pm1 g (fX13_goesBy M x1 x2) := by
  unfold fX13_goesBy
  repeat' first | assumption | with_reducible apply KL_sI | with_reducible apply KL_sL | with_reducible apply KL_aI | with_reducible exact p1_none | with_reducible apply p1_some | with_reducible apply p1_ite | with_reducible apply p1_pu | with_reducible apply p1_ck | with_reducible apply p1_zz | with_reducible apply p1_nz | with_reducible apply p1_ld | with_reducible apply p1_st | with_reducible apply p1_b1m | with_reducible apply p1_b1p | with_reducible apply p1_b2 | with_reducible apply pl_fX13_gathers | with_reducible apply pl_fX13_goesBy_b42 | intro _
theorem pl_fX13_isSeen_l55 {g : Int64}  : ∀ (n : Nat) (x0 : Mem) (x1 : Int32), KL g x0 → pm2 g (fX13_isSeen_l55 n x0 x1) := by
  intro n
  induction n with
  | zero => intro x0 x1 h; rw [fX13_isSeen_l55]; exact p2_none
  | succ n ih =>
    intro x0 x1 h
    rw [fX13_isSeen_l55]
    repeat' first | assumption | with_reducible apply KL_sI | with_reducible apply KL_sL | with_reducible apply KL_aI | with_reducible exact p2_none | with_reducible apply p2_some | with_reducible apply p2_ite | with_reducible apply p2_pu | with_reducible apply p2_ck | with_reducible apply p2_zz | with_reducible apply p2_nz | with_reducible apply p2_ld | with_reducible apply p2_st | with_reducible apply p2_b1m | with_reducible apply p2_b1p | with_reducible apply p2_b2 | with_reducible apply ih | intro _
theorem pl_fX13_isSeen_b29 {g : Int64} {a9 : Mem → Int32 → Int32 → Int32 → Option (Int32 × Mem)} (ha9 : ∀ (y0 : Mem) (y1 : Int32) (y2 : Int32) (y3 : Int32), KL g y0 → pm2 g (a9 y0 y1 y2 y3)) {M : Mem} {x1 : Int32} {x2 : Int32} {x3 : Int32} {s0 : Int32} {s1 : Int32} (h : KL g M) : pm2 g (fX13_isSeen_b29 a9 M x1 x2 x3 s0 s1) := by
  unfold fX13_isSeen_b29
  repeat' first | assumption | with_reducible apply KL_sI | with_reducible apply KL_sL | with_reducible apply KL_aI | with_reducible exact p2_none | with_reducible apply p2_some | with_reducible apply p2_ite | with_reducible apply p2_pu | with_reducible apply p2_ck | with_reducible apply p2_zz | with_reducible apply p2_nz | with_reducible apply p2_ld | with_reducible apply p2_st | with_reducible apply p2_b1m | with_reducible apply p2_b1p | with_reducible apply p2_b2 | with_reducible apply ha9 | with_reducible apply pl_fX13_goesBy | intro _
theorem pl_fX13_isSeen_l9 {g : Int64}  : ∀ (n : Nat) (x0 : Mem) (x1 : Int32) (x2 : Int32) (x3 : Int32), KL g x0 → pm2 g (fX13_isSeen_l9 n x0 x1 x2 x3) := by
  intro n
  induction n with
  | zero => intro x0 x1 x2 x3 h; rw [fX13_isSeen_l9]; exact p2_none
  | succ n ih =>
    intro x0 x1 x2 x3 h
    rw [fX13_isSeen_l9]
    repeat' first | assumption | with_reducible apply KL_sI | with_reducible apply KL_sL | with_reducible apply KL_aI | with_reducible exact p2_none | with_reducible apply p2_some | with_reducible apply p2_ite | with_reducible apply p2_pu | with_reducible apply p2_ck | with_reducible apply p2_zz | with_reducible apply p2_nz | with_reducible apply p2_ld | with_reducible apply p2_st | with_reducible apply p2_b1m | with_reducible apply p2_b1p | with_reducible apply p2_b2 | with_reducible apply ih | with_reducible apply pl_fX13_isSeen_l55 | with_reducible apply pl_fX13_isSeen_b29 | intro _
theorem pl_fX13_isSeen {g : Int64}  {M : Mem} {x1 : Int32} {x2 : Int32} (h : KL g M) : pm2 g (fX13_isSeen M x1 x2) := by
  unfold fX13_isSeen
  repeat' first | assumption | with_reducible apply KL_sI | with_reducible apply KL_sL | with_reducible apply KL_aI | with_reducible exact p2_none | with_reducible apply p2_some | with_reducible apply p2_ite | with_reducible apply p2_pu | with_reducible apply p2_ck | with_reducible apply p2_zz | with_reducible apply p2_nz | with_reducible apply p2_ld | with_reducible apply p2_st | with_reducible apply p2_b1m | with_reducible apply p2_b1p | with_reducible apply p2_b2 | with_reducible apply pl_fX13_lays0 | with_reducible apply pl_fX13_isSeen_l9 | intro _
theorem pl_fX13_another_b93 {g : Int64} {a43 : Mem → Int32 → Int32 → Int32 → Int32 → Option (Int32 × Mem)} {a53 : Mem → Int32 → Int32 → Int32 → Int32 → Int32 → Option (Int32 × Mem)} (ha43 : ∀ (y0 : Mem) (y1 : Int32) (y2 : Int32) (y3 : Int32) (y4 : Int32), KL g y0 → pm2 g (a43 y0 y1 y2 y3 y4)) (ha53 : ∀ (y0 : Mem) (y1 : Int32) (y2 : Int32) (y3 : Int32) (y4 : Int32) (y5 : Int32), KL g y0 → pm2 g (a53 y0 y1 y2 y3 y4 y5)) {M : Mem} {x1 : Int32} {x2 : Int32} {x3 : Int32} {x4 : Int32} {x5 : Int32} (h : KL g M) : pm2 g (fX13_another_b93 a43 a53 M x1 x2 x3 x4 x5) := by
  unfold fX13_another_b93
  repeat' first | assumption | with_reducible apply KL_sI | with_reducible apply KL_sL | with_reducible apply KL_aI | with_reducible exact p2_none | with_reducible apply p2_some | with_reducible apply p2_ite | with_reducible apply p2_pu | with_reducible apply p2_ck | with_reducible apply p2_zz | with_reducible apply p2_nz | with_reducible apply p2_ld | with_reducible apply p2_st | with_reducible apply p2_b1m | with_reducible apply p2_b1p | with_reducible apply p2_b2 | with_reducible apply ha43 | with_reducible apply ha53 | intro _
theorem pl_fX13_another_l53 {g : Int64} {a43 : Mem → Int32 → Int32 → Int32 → Int32 → Option (Int32 × Mem)} (ha43 : ∀ (y0 : Mem) (y1 : Int32) (y2 : Int32) (y3 : Int32) (y4 : Int32), KL g y0 → pm2 g (a43 y0 y1 y2 y3 y4)) : ∀ (n : Nat) (x0 : Mem) (x1 : Int32) (x2 : Int32) (x3 : Int32) (x4 : Int32) (x5 : Int32), KL g x0 → pm2 g (fX13_another_l53 a43 n x0 x1 x2 x3 x4 x5) := by
  intro n
  induction n with
  | zero => intro x0 x1 x2 x3 x4 x5 h; rw [fX13_another_l53]; exact p2_none
  | succ n ih =>
    intro x0 x1 x2 x3 x4 x5 h
    rw [fX13_another_l53]
    repeat' first | assumption | with_reducible apply KL_sI | with_reducible apply KL_sL | with_reducible apply KL_aI | with_reducible exact p2_none | with_reducible apply p2_some | with_reducible apply p2_ite | with_reducible apply p2_pu | with_reducible apply p2_ck | with_reducible apply p2_zz | with_reducible apply p2_nz | with_reducible apply p2_ld | with_reducible apply p2_st | with_reducible apply p2_b1m | with_reducible apply p2_b1p | with_reducible apply p2_b2 | with_reducible apply ha43 | with_reducible apply ih | with_reducible apply pl_fX13_isSeen | with_reducible apply pl_fX13_another_b93 | intro _
theorem pl_fX13_another_l43 {g : Int64}  : ∀ (n : Nat) (x0 : Mem) (x1 : Int32) (x2 : Int32) (x3 : Int32) (x4 : Int32), KL g x0 → pm2 g (fX13_another_l43 n x0 x1 x2 x3 x4) := by
  intro n
  induction n with
  | zero => intro x0 x1 x2 x3 x4 h; rw [fX13_another_l43]; exact p2_none
  | succ n ih =>
    intro x0 x1 x2 x3 x4 h
    rw [fX13_another_l43]
    repeat' first | assumption | with_reducible apply KL_sI | with_reducible apply KL_sL | with_reducible apply KL_aI | with_reducible exact p2_none | with_reducible apply p2_some | with_reducible apply p2_ite | with_reducible apply p2_pu | with_reducible apply p2_ck | with_reducible apply p2_zz | with_reducible apply p2_nz | with_reducible apply p2_ld | with_reducible apply p2_st | with_reducible apply p2_b1m | with_reducible apply p2_b1p | with_reducible apply p2_b2 | with_reducible apply ih | with_reducible apply pl_fX13_another_l53 | intro _
theorem pl_fX13_another {g : Int64}  {M : Mem} {x1 : Int32} (h : KL g M) : pm2 g (fX13_another M x1) := by
  unfold fX13_another
  repeat' first | assumption | with_reducible apply KL_sI | with_reducible apply KL_sL | with_reducible apply KL_aI | with_reducible exact p2_none | with_reducible apply p2_some | with_reducible apply p2_ite | with_reducible apply p2_pu | with_reducible apply p2_ck | with_reducible apply p2_zz | with_reducible apply p2_nz | with_reducible apply p2_ld | with_reducible apply p2_st | with_reducible apply p2_b1m | with_reducible apply p2_b1p | with_reducible apply p2_b2 | with_reducible apply pl_fX13_isWhat | with_reducible apply pl_fX13_isSeen | with_reducible apply pl_fX13_another_l43 | intro _
theorem pl_fX13_assault_b272 {g : Int64} {a185 : Mem → Int32 → Int32 → Int32 → Int32 → Option (Int32 × Mem)} (ha185 : ∀ (y0 : Mem) (y1 : Int32) (y2 : Int32) (y3 : Int32) (y4 : Int32), KL g y0 → pm2 g (a185 y0 y1 y2 y3 y4)) {M : Mem} {x1 : Int32} {x2 : Int32} {x3 : Int32} {x4 : Int32} (h : KL g M) : pm2 g (fX13_assault_b272 a185 M x1 x2 x3 x4) := by
  unfold fX13_assault_b272
  repeat' first | assumption | with_reducible apply KL_sI | with_reducible apply KL_sL | with_reducible apply KL_aI | with_reducible exact p2_none | with_reducible apply p2_some | with_reducible apply p2_ite | with_reducible apply p2_pu | with_reducible apply p2_ck | with_reducible apply p2_zz | with_reducible apply p2_nz | with_reducible apply p2_ld | with_reducible apply p2_st | with_reducible apply p2_b1m | with_reducible apply p2_b1p | with_reducible apply p2_b2 | with_reducible apply ha185 | intro _
theorem pl_fX13_assault_b255 {g : Int64} {a185 : Mem → Int32 → Int32 → Int32 → Int32 → Option (Int32 × Mem)} {a201 : Mem → Int32 → Int32 → Int32 → Int32 → Int32 → Option (Int32 × Mem)} (ha185 : ∀ (y0 : Mem) (y1 : Int32) (y2 : Int32) (y3 : Int32) (y4 : Int32), KL g y0 → pm2 g (a185 y0 y1 y2 y3 y4)) (ha201 : ∀ (y0 : Mem) (y1 : Int32) (y2 : Int32) (y3 : Int32) (y4 : Int32) (y5 : Int32), KL g y0 → pm2 g (a201 y0 y1 y2 y3 y4 y5)) {M : Mem} {x1 : Int32} {x2 : Int32} {x3 : Int32} {x4 : Int32} {x5 : Int32} (h : KL g M) : pm2 g (fX13_assault_b255 a185 a201 M x1 x2 x3 x4 x5) := by
  unfold fX13_assault_b255
  repeat' first | assumption | with_reducible apply KL_sI | with_reducible apply KL_sL | with_reducible apply KL_aI | with_reducible exact p2_none | with_reducible apply p2_some | with_reducible apply p2_ite | with_reducible apply p2_pu | with_reducible apply p2_ck | with_reducible apply p2_zz | with_reducible apply p2_nz | with_reducible apply p2_ld | with_reducible apply p2_st | with_reducible apply p2_b1m | with_reducible apply p2_b1p | with_reducible apply p2_b2 | with_reducible apply ha185 | with_reducible apply ha201 | intro _
theorem pl_fX13_assault_l201 {g : Int64} {a185 : Mem → Int32 → Int32 → Int32 → Int32 → Option (Int32 × Mem)} (ha185 : ∀ (y0 : Mem) (y1 : Int32) (y2 : Int32) (y3 : Int32) (y4 : Int32), KL g y0 → pm2 g (a185 y0 y1 y2 y3 y4)) : ∀ (n : Nat) (x0 : Mem) (x1 : Int32) (x2 : Int32) (x3 : Int32) (x4 : Int32) (x5 : Int32), KL g x0 → pm2 g (fX13_assault_l201 a185 n x0 x1 x2 x3 x4 x5) := by
  intro n
  induction n with
  | zero => intro x0 x1 x2 x3 x4 x5 h; rw [fX13_assault_l201]; exact p2_none
  | succ n ih =>
    intro x0 x1 x2 x3 x4 x5 h
    rw [fX13_assault_l201]
    repeat' first | assumption | with_reducible apply KL_sI | with_reducible apply KL_sL | with_reducible apply KL_aI | with_reducible exact p2_none | with_reducible apply p2_some | with_reducible apply p2_ite | with_reducible apply p2_pu | with_reducible apply p2_ck | with_reducible apply p2_zz | with_reducible apply p2_nz | with_reducible apply p2_ld | with_reducible apply p2_st | with_reducible apply p2_b1m | with_reducible apply p2_b1p | with_reducible apply p2_b2 | with_reducible apply ha185 | with_reducible apply ih | with_reducible apply pl_fX13_assault_b272 | with_reducible apply pl_fX13_assault_b255 | intro _
theorem pl_fX13_assault_l185 {g : Int64}  : ∀ (n : Nat) (x0 : Mem) (x1 : Int32) (x2 : Int32) (x3 : Int32) (x4 : Int32), KL g x0 → pm2 g (fX13_assault_l185 n x0 x1 x2 x3 x4) := by
  intro n
  induction n with
  | zero => intro x0 x1 x2 x3 x4 h; rw [fX13_assault_l185]; exact p2_none
  | succ n ih =>
    intro x0 x1 x2 x3 x4 h
    rw [fX13_assault_l185]
    repeat' first | assumption | with_reducible apply KL_sI | with_reducible apply KL_sL | with_reducible apply KL_aI | with_reducible exact p2_none | with_reducible apply p2_some | with_reducible apply p2_ite | with_reducible apply p2_pu | with_reducible apply p2_ck | with_reducible apply p2_zz | with_reducible apply p2_nz | with_reducible apply p2_ld | with_reducible apply p2_st | with_reducible apply p2_b1m | with_reducible apply p2_b1p | with_reducible apply p2_b2 | with_reducible apply ih | with_reducible apply pl_fX13_assault_l201 | intro _
theorem pl_fX13_assault_b134 {g : Int64} {a40 : Mem → Int32 → Int32 → Option (Int32 × Mem)} {a46 : Mem → Int32 → Int32 → Int32 → Option (Int32 × Mem)} {a69 : Mem → Int32 → Int32 → Int32 → Int32 → Int32 → Option (Int32 × Mem)} (ha40 : ∀ (y0 : Mem) (y1 : Int32) (y2 : Int32), KL g y0 → pm2 g (a40 y0 y1 y2)) (ha46 : ∀ (y0 : Mem) (y1 : Int32) (y2 : Int32) (y3 : Int32), KL g y0 → pm2 g (a46 y0 y1 y2 y3)) (ha69 : ∀ (y0 : Mem) (y1 : Int32) (y2 : Int32) (y3 : Int32) (y4 : Int32) (y5 : Int32), KL g y0 → pm2 g (a69 y0 y1 y2 y3 y4 y5)) {M : Mem} {x1 : Int32} {x2 : Int32} {x3 : Int32} {x4 : Int32} {x5 : Int32} (h : KL g M) : pm2 g (fX13_assault_b134 a40 a46 a69 M x1 x2 x3 x4 x5) := by
  unfold fX13_assault_b134
  repeat' first | assumption | with_reducible apply KL_sI | with_reducible apply KL_sL | with_reducible apply KL_aI | with_reducible exact p2_none | with_reducible apply p2_some | with_reducible apply p2_ite | with_reducible apply p2_pu | with_reducible apply p2_ck | with_reducible apply p2_zz | with_reducible apply p2_nz | with_reducible apply p2_ld | with_reducible apply p2_st | with_reducible apply p2_b1m | with_reducible apply p2_b1p | with_reducible apply p2_b2 | with_reducible apply ha40 | with_reducible apply ha46 | with_reducible apply ha69 | intro _
theorem pl_fX13_assault_l69 {g : Int64} {a40 : Mem → Int32 → Int32 → Option (Int32 × Mem)} {a46 : Mem → Int32 → Int32 → Int32 → Option (Int32 × Mem)} (ha40 : ∀ (y0 : Mem) (y1 : Int32) (y2 : Int32), KL g y0 → pm2 g (a40 y0 y1 y2)) (ha46 : ∀ (y0 : Mem) (y1 : Int32) (y2 : Int32) (y3 : Int32), KL g y0 → pm2 g (a46 y0 y1 y2 y3)) : ∀ (n : Nat) (x0 : Mem) (x1 : Int32) (x2 : Int32) (x3 : Int32) (x4 : Int32) (x5 : Int32), KL g x0 → pm2 g (fX13_assault_l69 a40 a46 n x0 x1 x2 x3 x4 x5) := by
  intro n
  induction n with
  | zero => intro x0 x1 x2 x3 x4 x5 h; rw [fX13_assault_l69]; exact p2_none
  | succ n ih =>
    intro x0 x1 x2 x3 x4 x5 h
    rw [fX13_assault_l69]
    repeat' first | assumption | with_reducible apply KL_sI | with_reducible apply KL_sL | with_reducible apply KL_aI | with_reducible exact p2_none | with_reducible apply p2_some | with_reducible apply p2_ite | with_reducible apply p2_pu | with_reducible apply p2_ck | with_reducible apply p2_zz | with_reducible apply p2_nz | with_reducible apply p2_ld | with_reducible apply p2_st | with_reducible apply p2_b1m | with_reducible apply p2_b1p | with_reducible apply p2_b2 | with_reducible apply ha40 | with_reducible apply ha46 | with_reducible apply ih | with_reducible apply pl_fX13_assault_b134 | intro _
theorem pl_fX13_assault_l46 {g : Int64} {a40 : Mem → Int32 → Int32 → Option (Int32 × Mem)} (ha40 : ∀ (y0 : Mem) (y1 : Int32) (y2 : Int32), KL g y0 → pm2 g (a40 y0 y1 y2)) : ∀ (n : Nat) (x0 : Mem) (x1 : Int32) (x2 : Int32) (x3 : Int32), KL g x0 → pm2 g (fX13_assault_l46 a40 n x0 x1 x2 x3) := by
  intro n
  induction n with
  | zero => intro x0 x1 x2 x3 h; rw [fX13_assault_l46]; exact p2_none
  | succ n ih =>
    intro x0 x1 x2 x3 h
    rw [fX13_assault_l46]
    repeat' first | assumption | with_reducible apply KL_sI | with_reducible apply KL_sL | with_reducible apply KL_aI | with_reducible exact p2_none | with_reducible apply p2_some | with_reducible apply p2_ite | with_reducible apply p2_pu | with_reducible apply p2_ck | with_reducible apply p2_zz | with_reducible apply p2_nz | with_reducible apply p2_ld | with_reducible apply p2_st | with_reducible apply p2_b1m | with_reducible apply p2_b1p | with_reducible apply p2_b2 | with_reducible apply ha40 | with_reducible apply ih | with_reducible apply pl_fX13_assault_l69 | intro _
theorem pl_fX13_assault_l40 {g : Int64}  : ∀ (n : Nat) (x0 : Mem) (x1 : Int32) (x2 : Int32), KL g x0 → pm2 g (fX13_assault_l40 n x0 x1 x2) := by
  intro n
  induction n with
  | zero => intro x0 x1 x2 h; rw [fX13_assault_l40]; exact p2_none
  | succ n ih =>
    intro x0 x1 x2 h
    rw [fX13_assault_l40]
    repeat' first | assumption | with_reducible apply KL_sI | with_reducible apply KL_sL | with_reducible apply KL_aI | with_reducible exact p2_none | with_reducible apply p2_some | with_reducible apply p2_ite | with_reducible apply p2_pu | with_reducible apply p2_ck | with_reducible apply p2_zz | with_reducible apply p2_nz | with_reducible apply p2_ld | with_reducible apply p2_st | with_reducible apply p2_b1m | with_reducible apply p2_b1p | with_reducible apply p2_b2 | with_reducible apply ih | with_reducible apply pl_fX13_assault_l185 | with_reducible apply pl_fX13_assault_l46 | intro _
theorem pl_fX13_assault_b24 {g : Int64}  {M : Mem} {x1 : Int32} {s0 : Int32} (h : KL g M) : pm2 g (fX13_assault_b24 M x1 s0) := by
  unfold fX13_assault_b24
  repeat' first | assumption | with_reducible apply KL_sI | with_reducible apply KL_sL | with_reducible apply KL_aI | with_reducible exact p2_none | with_reducible apply p2_some | with_reducible apply p2_ite | with_reducible apply p2_pu | with_reducible apply p2_ck | with_reducible apply p2_zz | with_reducible apply p2_nz | with_reducible apply p2_ld | with_reducible apply p2_st | with_reducible apply p2_b1m | with_reducible apply p2_b1p | with_reducible apply p2_b2 | with_reducible apply pl_fX13_right | with_reducible apply pl_fX13_assault_l40 | intro _
theorem pl_fX13_assault_b23 {g : Int64}  {M : Mem} {x1 : Int32} (h : KL g M) : pm2 g (fX13_assault_b23 M x1) := by
  unfold fX13_assault_b23
  repeat' first | assumption | with_reducible apply KL_sI | with_reducible apply KL_sL | with_reducible apply KL_aI | with_reducible exact p2_none | with_reducible apply p2_some | with_reducible apply p2_ite | with_reducible apply p2_pu | with_reducible apply p2_ck | with_reducible apply p2_zz | with_reducible apply p2_nz | with_reducible apply p2_ld | with_reducible apply p2_st | with_reducible apply p2_b1m | with_reducible apply p2_b1p | with_reducible apply p2_b2 | with_reducible apply pl_fX13_assault_b24 | intro _
theorem pl_fX13_assault {g : Int64}  {M : Mem} {x1 : Int32} (h : KL g M) : pm2 g (fX13_assault M x1) := by
  unfold fX13_assault
  repeat' first | assumption | with_reducible apply KL_sI | with_reducible apply KL_sL | with_reducible apply KL_aI | with_reducible exact p2_none | with_reducible apply p2_some | with_reducible apply p2_ite | with_reducible apply p2_pu | with_reducible apply p2_ck | with_reducible apply p2_zz | with_reducible apply p2_nz | with_reducible apply p2_ld | with_reducible apply p2_st | with_reducible apply p2_b1m | with_reducible apply p2_b1p | with_reducible apply p2_b2 | with_reducible apply pl_fX13_assault_b23 | with_reducible apply pl_fX13_assault_b24 | intro _
theorem pl_fX13_better_b103 {g : Int64} {a27 : Mem → Int32 → Int32 → Int32 → Option (Int32 × Mem)} (ha27 : ∀ (y0 : Mem) (y1 : Int32) (y2 : Int32) (y3 : Int32), KL g y0 → pm2 g (a27 y0 y1 y2 y3)) {M : Mem} {x1 : Int32} {x3 : Int32} {s0 : Int32} {s1 : Int32} (h : KL g M) : pm2 g (fX13_better_b103 a27 M x1 x3 s0 s1) := by
  unfold fX13_better_b103
  repeat' first | assumption | with_reducible apply KL_sI | with_reducible apply KL_sL | with_reducible apply KL_aI | with_reducible exact p2_none | with_reducible apply p2_some | with_reducible apply p2_ite | with_reducible apply p2_pu | with_reducible apply p2_ck | with_reducible apply p2_zz | with_reducible apply p2_nz | with_reducible apply p2_ld | with_reducible apply p2_st | with_reducible apply p2_b1m | with_reducible apply p2_b1p | with_reducible apply p2_b2 | with_reducible apply ha27 | intro _
theorem pl_fX13_better_l27 {g : Int64}  : ∀ (n : Nat) (x0 : Mem) (x1 : Int32) (x2 : Int32) (x3 : Int32), KL g x0 → pm2 g (fX13_better_l27 n x0 x1 x2 x3) := by
  intro n
  induction n with
  | zero => intro x0 x1 x2 x3 h; rw [fX13_better_l27]; exact p2_none
  | succ n ih =>
    intro x0 x1 x2 x3 h
    rw [fX13_better_l27]
    repeat' first | assumption | with_reducible apply KL_sI | with_reducible apply KL_sL | with_reducible apply KL_aI | with_reducible exact p2_none | with_reducible apply p2_some | with_reducible apply p2_ite | with_reducible apply p2_pu | with_reducible apply p2_ck | with_reducible apply p2_zz | with_reducible apply p2_nz | with_reducible apply p2_ld | with_reducible apply p2_st | with_reducible apply p2_b1m | with_reducible apply p2_b1p | with_reducible apply p2_b2 | with_reducible apply ih | with_reducible apply pl_fX13_goesBy | with_reducible apply pl_fX13_better_b103 | intro _
theorem pl_fX13_better {g : Int64}  {M : Mem} {x1 : Int32} (h : KL g M) : pm2 g (fX13_better M x1) := by
  unfold fX13_better
  repeat' first | assumption | with_reducible apply KL_sI | with_reducible apply KL_sL | with_reducible apply KL_aI | with_reducible exact p2_none | with_reducible apply p2_some | with_reducible apply p2_ite | with_reducible apply p2_pu | with_reducible apply p2_ck | with_reducible apply p2_zz | with_reducible apply p2_nz | with_reducible apply p2_ld | with_reducible apply p2_st | with_reducible apply p2_b1m | with_reducible apply p2_b1p | with_reducible apply p2_b2 | with_reducible apply pl_fX13_isWhat | with_reducible apply pl_fX13_lays0 | with_reducible apply pl_fX13_better_l27 | intro _
theorem pl_fX13_bought_b86 {g : Int64} {a42 : Mem → Int32 → Int32 → Int32 → Int32 → Option (Int32 × Mem)} (ha42 : ∀ (y0 : Mem) (y1 : Int32) (y2 : Int32) (y3 : Int32) (y4 : Int32), KL g y0 → pm2 g (a42 y0 y1 y2 y3 y4)) {M : Mem} {x1 : Int32} {x2 : Int32} {x3 : Int32} {x4 : Int32} (h : KL g M) : pm2 g (fX13_bought_b86 a42 M x1 x2 x3 x4) := by
  unfold fX13_bought_b86
  repeat' first | assumption | with_reducible apply KL_sI | with_reducible apply KL_sL | with_reducible apply KL_aI | with_reducible exact p2_none | with_reducible apply p2_some | with_reducible apply p2_ite | with_reducible apply p2_pu | with_reducible apply p2_ck | with_reducible apply p2_zz | with_reducible apply p2_nz | with_reducible apply p2_ld | with_reducible apply p2_st | with_reducible apply p2_b1m | with_reducible apply p2_b1p | with_reducible apply p2_b2 | with_reducible apply ha42 | intro _
theorem pl_fX13_bought_b74 {g : Int64} {a42 : Mem → Int32 → Int32 → Int32 → Int32 → Option (Int32 × Mem)} (ha42 : ∀ (y0 : Mem) (y1 : Int32) (y2 : Int32) (y3 : Int32) (y4 : Int32), KL g y0 → pm2 g (a42 y0 y1 y2 y3 y4)) {M : Mem} {x1 : Int32} {x2 : Int32} {x3 : Int32} {x4 : Int32} (h : KL g M) : pm2 g (fX13_bought_b74 a42 M x1 x2 x3 x4) := by
  unfold fX13_bought_b74
  repeat' first | assumption | with_reducible apply KL_sI | with_reducible apply KL_sL | with_reducible apply KL_aI | with_reducible exact p2_none | with_reducible apply p2_some | with_reducible apply p2_ite | with_reducible apply p2_pu | with_reducible apply p2_ck | with_reducible apply p2_zz | with_reducible apply p2_nz | with_reducible apply p2_ld | with_reducible apply p2_st | with_reducible apply p2_b1m | with_reducible apply p2_b1p | with_reducible apply p2_b2 | with_reducible apply ha42 | with_reducible apply pl_fX13_bought_b86 | intro _
theorem pl_fX13_bought_l42 {g : Int64}  : ∀ (n : Nat) (x0 : Mem) (x1 : Int32) (x2 : Int32) (x3 : Int32) (x4 : Int32), KL g x0 → pm2 g (fX13_bought_l42 n x0 x1 x2 x3 x4) := by
  intro n
  induction n with
  | zero => intro x0 x1 x2 x3 x4 h; rw [fX13_bought_l42]; exact p2_none
  | succ n ih =>
    intro x0 x1 x2 x3 x4 h
    rw [fX13_bought_l42]
    repeat' first | assumption | with_reducible apply KL_sI | with_reducible apply KL_sL | with_reducible apply KL_aI | with_reducible exact p2_none | with_reducible apply p2_some | with_reducible apply p2_ite | with_reducible apply p2_pu | with_reducible apply p2_ck | with_reducible apply p2_zz | with_reducible apply p2_nz | with_reducible apply p2_ld | with_reducible apply p2_st | with_reducible apply p2_b1m | with_reducible apply p2_b1p | with_reducible apply p2_b2 | with_reducible apply ih | with_reducible apply pl_fX13_bought_b74 | with_reducible apply pl_fX13_bought_b86 | intro _
theorem pl_fX13_bought {g : Int64}  {M : Mem} {x1 : Int32} (h : KL g M) : pm2 g (fX13_bought M x1) := by
  unfold fX13_bought
  repeat' first | assumption | with_reducible apply KL_sI | with_reducible apply KL_sL | with_reducible apply KL_aI | with_reducible exact p2_none | with_reducible apply p2_some | with_reducible apply p2_ite | with_reducible apply p2_pu | with_reducible apply p2_ck | with_reducible apply p2_zz | with_reducible apply p2_nz | with_reducible apply p2_ld | with_reducible apply p2_st | with_reducible apply p2_b1m | with_reducible apply p2_b1p | with_reducible apply p2_b2 | with_reducible apply pl_fX13_isWhat | with_reducible apply pl_fX13_bought_l42 | intro _
theorem pl_fX13_isBrother {g : Int64}  {M : Mem} {x1 : Int32} (h : KL g M) : pm2 g (fX13_isBrother M x1) := by
  unfold fX13_isBrother
  repeat' first | assumption | with_reducible apply KL_sI | with_reducible apply KL_sL | with_reducible apply KL_aI | with_reducible exact p2_none | with_reducible apply p2_some | with_reducible apply p2_ite | with_reducible apply p2_pu | with_reducible apply p2_ck | with_reducible apply p2_zz | with_reducible apply p2_nz | with_reducible apply p2_ld | with_reducible apply p2_st | with_reducible apply p2_b1m | with_reducible apply p2_b1p | with_reducible apply p2_b2 | with_reducible apply pl_fX13_right | intro _
theorem pl_fX13_brother {g : Int64}  {M : Mem} {x1 : Int32} {x2 : Int32} (h : KL g M) : pm2 g (fX13_brother M x1 x2) := by
  unfold fX13_brother
  repeat' first | assumption | with_reducible apply KL_sI | with_reducible apply KL_sL | with_reducible apply KL_aI | with_reducible exact p2_none | with_reducible apply p2_some | with_reducible apply p2_ite | with_reducible apply p2_pu | with_reducible apply p2_ck | with_reducible apply p2_zz | with_reducible apply p2_nz | with_reducible apply p2_ld | with_reducible apply p2_st | with_reducible apply p2_b1m | with_reducible apply p2_b1p | with_reducible apply p2_b2 | with_reducible apply pl_fX13_isBrother | with_reducible apply pl_fX13_isWhat | with_reducible apply pl_fX13_followers | intro _
theorem pl_fX13_isDeed_b18 {g : Int64}  {M : Mem} {s0 : Int32} (h : KL g M) : pm2 g (fX13_isDeed_b18 M s0) := by
  unfold fX13_isDeed_b18
  repeat' first | assumption | with_reducible apply KL_sI | with_reducible apply KL_sL | with_reducible apply KL_aI | with_reducible exact p2_none | with_reducible apply p2_some | with_reducible apply p2_ite | with_reducible apply p2_pu | with_reducible apply p2_ck | with_reducible apply p2_zz | with_reducible apply p2_nz | with_reducible apply p2_ld | with_reducible apply p2_st | with_reducible apply p2_b1m | with_reducible apply p2_b1p | with_reducible apply p2_b2 | with_reducible apply pl_fX13_right | intro _
theorem pl_fX13_isDeed_b17 {g : Int64}  {M : Mem} (h : KL g M) : pm2 g (fX13_isDeed_b17 M) := by
  unfold fX13_isDeed_b17
  repeat' first | assumption | with_reducible apply KL_sI | with_reducible apply KL_sL | with_reducible apply KL_aI | with_reducible exact p2_none | with_reducible apply p2_some | with_reducible apply p2_ite | with_reducible apply p2_pu | with_reducible apply p2_ck | with_reducible apply p2_zz | with_reducible apply p2_nz | with_reducible apply p2_ld | with_reducible apply p2_st | with_reducible apply p2_b1m | with_reducible apply p2_b1p | with_reducible apply p2_b2 | with_reducible apply pl_fX13_isDeed_b18 | intro _
theorem pl_fX13_isDeed {g : Int64}  {M : Mem} {x1 : Int32} (h : KL g M) : pm2 g (fX13_isDeed M x1) := by
  unfold fX13_isDeed
  repeat' first | assumption | with_reducible apply KL_sI | with_reducible apply KL_sL | with_reducible apply KL_aI | with_reducible exact p2_none | with_reducible apply p2_some | with_reducible apply p2_ite | with_reducible apply p2_pu | with_reducible apply p2_ck | with_reducible apply p2_zz | with_reducible apply p2_nz | with_reducible apply p2_ld | with_reducible apply p2_st | with_reducible apply p2_b1m | with_reducible apply p2_b1p | with_reducible apply p2_b2 | with_reducible apply pl_fX13_isDeed_b17 | with_reducible apply pl_fX13_isDeed_b18 | intro _
theorem pl_fX13_refuses {g : Int64}  {M : Mem} {x1 : Int32} (h : KL g M) : pm2 g (fX13_refuses M x1) := by
  unfold fX13_refuses
  repeat' first | assumption | with_reducible apply KL_sI | with_reducible apply KL_sL | with_reducible apply KL_aI | with_reducible exact p2_none | with_reducible apply p2_some | with_reducible apply p2_ite | with_reducible apply p2_pu | with_reducible apply p2_ck | with_reducible apply p2_zz | with_reducible apply p2_nz | with_reducible apply p2_ld | with_reducible apply p2_st | with_reducible apply p2_b1m | with_reducible apply p2_b1p | with_reducible apply p2_b2 | intro _
theorem pl_fX13_keeps_l52 {g : Int64}  : ∀ (n : Nat) (x0 : Mem) (x1 : Int32), KL g x0 → pm1 g (fX13_keeps_l52 n x0 x1) := by
  intro n
  induction n with
  | zero => intro x0 x1 h; rw [fX13_keeps_l52]; exact p1_none
  | succ n ih =>
    intro x0 x1 h
    rw [fX13_keeps_l52]
    repeat' first | assumption | with_reducible apply KL_sI | with_reducible apply KL_sL | with_reducible apply KL_aI | with_reducible exact p1_none | with_reducible apply p1_some | with_reducible apply p1_ite | with_reducible apply p1_pu | with_reducible apply p1_ck | with_reducible apply p1_zz | with_reducible apply p1_nz | with_reducible apply p1_ld | with_reducible apply p1_st | with_reducible apply p1_b1m | with_reducible apply p1_b1p | with_reducible apply p1_b2 | with_reducible apply ih | intro _
theorem pl_fX13_keeps_b50 {g : Int64}  {M : Mem} (h : KL g M) : pm1 g (fX13_keeps_b50 M) := by
  unfold fX13_keeps_b50
  repeat' first | assumption | with_reducible apply KL_sI | with_reducible apply KL_sL | with_reducible apply KL_aI | with_reducible exact p1_none | with_reducible apply p1_some | with_reducible apply p1_ite | with_reducible apply p1_pu | with_reducible apply p1_ck | with_reducible apply p1_zz | with_reducible apply p1_nz | with_reducible apply p1_ld | with_reducible apply p1_st | with_reducible apply p1_b1m | with_reducible apply p1_b1p | with_reducible apply p1_b2 | with_reducible apply pl_fX13_keeps_l52 | intro _
theorem pl_fX13_keeps_l12 {g : Int64}  : ∀ (n : Nat) (x0 : Mem) (x1 : Int32), KL g x0 → pm1 g (fX13_keeps_l12 n x0 x1) := by
  intro n
  induction n with
  | zero => intro x0 x1 h; rw [fX13_keeps_l12]; exact p1_none
  | succ n ih =>
    intro x0 x1 h
    rw [fX13_keeps_l12]
    repeat' first | assumption | with_reducible apply KL_sI | with_reducible apply KL_sL | with_reducible apply KL_aI | with_reducible exact p1_none | with_reducible apply p1_some | with_reducible apply p1_ite | with_reducible apply p1_pu | with_reducible apply p1_ck | with_reducible apply p1_zz | with_reducible apply p1_nz | with_reducible apply p1_ld | with_reducible apply p1_st | with_reducible apply p1_b1m | with_reducible apply p1_b1p | with_reducible apply p1_b2 | with_reducible apply ih | with_reducible apply pl_fX13_keeps_b50 | intro _
theorem pl_fX13_keeps {g : Int64}  {M : Mem} (h : KL g M) : pm1 g (fX13_keeps M) := by
  unfold fX13_keeps
  repeat' first | assumption | with_reducible apply KL_sI | with_reducible apply KL_sL | with_reducible apply KL_aI | with_reducible exact p1_none | with_reducible apply p1_some | with_reducible apply p1_ite | with_reducible apply p1_pu | with_reducible apply p1_ck | with_reducible apply p1_zz | with_reducible apply p1_nz | with_reducible apply p1_ld | with_reducible apply p1_st | with_reducible apply p1_b1m | with_reducible apply p1_b1p | with_reducible apply p1_b2 | with_reducible apply pl_fX13_keeps_l12 | with_reducible apply pl_fX13_keeps_b50 | intro _
theorem pl_fX13_change_b37 {g : Int64}  {M : Mem} (h : KL g M) : pm2 g (fX13_change_b37 M) := by
  unfold fX13_change_b37
  repeat' first | assumption | with_reducible apply KL_sI | with_reducible apply KL_sL | with_reducible apply KL_aI | with_reducible exact p2_none | with_reducible apply p2_some | with_reducible apply p2_ite | with_reducible apply p2_pu | with_reducible apply p2_ck | with_reducible apply p2_zz | with_reducible apply p2_nz | with_reducible apply p2_ld | with_reducible apply p2_st | with_reducible apply p2_b1m | with_reducible apply p2_b1p | with_reducible apply p2_b2 | with_reducible apply pl_fX13_refuses | intro _
theorem pl_fX13_change {g : Int64}  {M : Mem} {x1 : Int32} {x2 : Int32} {x3 : Int32} (h : KL g M) : pm2 g (fX13_change M x1 x2 x3) := by
  unfold fX13_change
  repeat' first | assumption | with_reducible apply KL_sI | with_reducible apply KL_sL | with_reducible apply KL_aI | with_reducible exact p2_none | with_reducible apply p2_some | with_reducible apply p2_ite | with_reducible apply p2_pu | with_reducible apply p2_ck | with_reducible apply p2_zz | with_reducible apply p2_nz | with_reducible apply p2_ld | with_reducible apply p2_st | with_reducible apply p2_b1m | with_reducible apply p2_b1p | with_reducible apply p2_b2 | with_reducible apply pl_fX13_isBrother | with_reducible apply pl_fX13_isDeed | with_reducible apply pl_fX13_change_b37 | with_reducible apply pl_fX13_keeps | intro _
theorem pl_fX13_draw {g : Int64}  {M : Mem} {x1 : Int32} (h : KL g M) : pm2 g (fX13_draw M x1) := by
  unfold fX13_draw
  repeat' first | assumption | with_reducible apply KL_sI | with_reducible apply KL_sL | with_reducible apply KL_aI | with_reducible exact p2_none | with_reducible apply p2_some | with_reducible apply p2_ite | with_reducible apply p2_pu | with_reducible apply p2_ck | with_reducible apply p2_zz | with_reducible apply p2_nz | with_reducible apply p2_ld | with_reducible apply p2_st | with_reducible apply p2_b1m | with_reducible apply p2_b1p | with_reducible apply p2_b2 | intro _
theorem pl_fX13_cities_b93 {g : Int64} {a46 : Mem → Int32 → Int32 → Int32 → Option (Int32 × Mem)} (ha46 : ∀ (y0 : Mem) (y1 : Int32) (y2 : Int32) (y3 : Int32), KL g y0 → pm2 g (a46 y0 y1 y2 y3)) {M : Mem} {x2 : Int32} {x3 : Int32} {x4 : Int32} {x5 : Int32} (h : KL g M) : pm2 g (fX13_cities_b93 a46 M x2 x3 x4 x5) := by
  unfold fX13_cities_b93
  repeat' first | assumption | with_reducible apply KL_sI | with_reducible apply KL_sL | with_reducible apply KL_aI | with_reducible exact p2_none | with_reducible apply p2_some | with_reducible apply p2_ite | with_reducible apply p2_pu | with_reducible apply p2_ck | with_reducible apply p2_zz | with_reducible apply p2_nz | with_reducible apply p2_ld | with_reducible apply p2_st | with_reducible apply p2_b1m | with_reducible apply p2_b1p | with_reducible apply p2_b2 | with_reducible apply ha46 | with_reducible apply pl_fX13_gathers | with_reducible apply pl_fX13_does | with_reducible apply pl_fX13_ends | intro _
theorem pl_fX13_cities_l46 {g : Int64}  : ∀ (n : Nat) (x0 : Mem) (x1 : Int32) (x2 : Int32) (x3 : Int32), KL g x0 → pm2 g (fX13_cities_l46 n x0 x1 x2 x3) := by
  intro n
  induction n with
  | zero => intro x0 x1 x2 x3 h; rw [fX13_cities_l46]; exact p2_none
  | succ n ih =>
    intro x0 x1 x2 x3 h
    rw [fX13_cities_l46]
    repeat' first | assumption | with_reducible apply KL_sI | with_reducible apply KL_sL | with_reducible apply KL_aI | with_reducible exact p2_none | with_reducible apply p2_some | with_reducible apply p2_ite | with_reducible apply p2_pu | with_reducible apply p2_ck | with_reducible apply p2_zz | with_reducible apply p2_nz | with_reducible apply p2_ld | with_reducible apply p2_st | with_reducible apply p2_b1m | with_reducible apply p2_b1p | with_reducible apply p2_b2 | with_reducible apply ih | with_reducible apply pl_fX13_draw | with_reducible apply pl_fX13_cities_b93 | intro _
theorem pl_fX13_cities {g : Int64}  {M : Mem} {x1 : Int32} {x2 : Int32} {x3 : Int32} (h : KL g M) : pm2 g (fX13_cities M x1 x2 x3) := by
  unfold fX13_cities
  repeat' first | assumption | with_reducible apply KL_sI | with_reducible apply KL_sL | with_reducible apply KL_aI | with_reducible exact p2_none | with_reducible apply p2_some | with_reducible apply p2_ite | with_reducible apply p2_pu | with_reducible apply p2_ck | with_reducible apply p2_zz | with_reducible apply p2_nz | with_reducible apply p2_ld | with_reducible apply p2_st | with_reducible apply p2_b1m | with_reducible apply p2_b1p | with_reducible apply p2_b2 | with_reducible apply pl_fX13_isWhat | with_reducible apply pl_fX13_right | with_reducible apply pl_fX13_lays0 | with_reducible apply pl_fX13_cities_l46 | intro _
theorem pl_fX13_puts {g : Int64}  {M : Mem} {x1 : Int32} (h : KL g M) : pm1 g (fX13_puts M x1) := by
  unfold fX13_puts
  repeat' first | assumption | with_reducible apply KL_sI | with_reducible apply KL_sL | with_reducible apply KL_aI | with_reducible exact p1_none | with_reducible apply p1_some | with_reducible apply p1_ite | with_reducible apply p1_pu | with_reducible apply p1_ck | with_reducible apply p1_zz | with_reducible apply p1_nz | with_reducible apply p1_ld | with_reducible apply p1_st | with_reducible apply p1_b1m | with_reducible apply p1_b1p | with_reducible apply p1_b2 | intro _
theorem pl_fX13_drops_l0 {g : Int64}  : ∀ (n : Nat) (x0 : Mem) (x1 : Int32), KL g x0 → pm1 g (fX13_drops_l0 n x0 x1) := by
  intro n
  induction n with
  | zero => intro x0 x1 h; rw [fX13_drops_l0]; exact p1_none
  | succ n ih =>
    intro x0 x1 h
    rw [fX13_drops_l0]
    repeat' first | assumption | with_reducible apply KL_sI | with_reducible apply KL_sL | with_reducible apply KL_aI | with_reducible exact p1_none | with_reducible apply p1_some | with_reducible apply p1_ite | with_reducible apply p1_pu | with_reducible apply p1_ck | with_reducible apply p1_zz | with_reducible apply p1_nz | with_reducible apply p1_ld | with_reducible apply p1_st | with_reducible apply p1_b1m | with_reducible apply p1_b1p | with_reducible apply p1_b2 | with_reducible apply ih | with_reducible apply pl_fX13_puts | intro _
theorem pl_fX13_drops {g : Int64}  {M : Mem} {x1 : Int32} (h : KL g M) : pm1 g (fX13_drops M x1) := by
  unfold fX13_drops
  repeat' first | assumption | with_reducible apply KL_sI | with_reducible apply KL_sL | with_reducible apply KL_aI | with_reducible exact p1_none | with_reducible apply p1_some | with_reducible apply p1_ite | with_reducible apply p1_pu | with_reducible apply p1_ck | with_reducible apply p1_zz | with_reducible apply p1_nz | with_reducible apply p1_ld | with_reducible apply p1_st | with_reducible apply p1_b1m | with_reducible apply p1_b1p | with_reducible apply p1_b2 | with_reducible apply pl_fX13_drops_l0 | intro _
theorem pl_fX13_closes {g : Int64}  {M : Mem} (h : KL g M) : pm1 g (fX13_closes M) := by
  unfold fX13_closes
  repeat' first | assumption | with_reducible apply KL_sI | with_reducible apply KL_sL | with_reducible apply KL_aI | with_reducible exact p1_none | with_reducible apply p1_some | with_reducible apply p1_ite | with_reducible apply p1_pu | with_reducible apply p1_ck | with_reducible apply p1_zz | with_reducible apply p1_nz | with_reducible apply p1_ld | with_reducible apply p1_st | with_reducible apply p1_b1m | with_reducible apply p1_b1p | with_reducible apply p1_b2 | with_reducible apply pl_fX13_drops | with_reducible apply pl_fX13_goes | intro _
theorem pl_fX13_copies_l2 {g : Int64}  : ∀ (n : Nat) (x0 : Mem) (x1 : Nat) (x2 : Nat) (x3 : Int32), KL g x0 → pm1 g (fX13_copies_l2 n x0 x1 x2 x3) := by
  intro n
  induction n with
  | zero => intro x0 x1 x2 x3 h; rw [fX13_copies_l2]; exact p1_none
  | succ n ih =>
    intro x0 x1 x2 x3 h
    rw [fX13_copies_l2]
    repeat' first | assumption | with_reducible apply KL_sI | with_reducible apply KL_sL | with_reducible apply KL_aI | with_reducible exact p1_none | with_reducible apply p1_some | with_reducible apply p1_ite | with_reducible apply p1_pu | with_reducible apply p1_ck | with_reducible apply p1_zz | with_reducible apply p1_nz | with_reducible apply p1_ld | with_reducible apply p1_st | with_reducible apply p1_b1m | with_reducible apply p1_b1p | with_reducible apply p1_b2 | with_reducible apply ih | intro _
theorem pl_fX13_copies {g : Int64}  {M : Mem} {x1 : Nat} {x2 : Nat} (h : KL g M) : pm1 g (fX13_copies M x1 x2) := by
  unfold fX13_copies
  repeat' first | assumption | with_reducible apply KL_sI | with_reducible apply KL_sL | with_reducible apply KL_aI | with_reducible exact p1_none | with_reducible apply p1_some | with_reducible apply p1_ite | with_reducible apply p1_pu | with_reducible apply p1_ck | with_reducible apply p1_zz | with_reducible apply p1_nz | with_reducible apply p1_ld | with_reducible apply p1_st | with_reducible apply p1_b1m | with_reducible apply p1_b1p | with_reducible apply p1_b2 | with_reducible apply pl_fX13_copies_l2 | intro _
theorem pl_fX13_goesYears_l2 {g : Int64}  : ∀ (n : Nat) (x0 : Mem) (x1 : Int32) (x2 : Int32) (x3 : Int32), KL g x0 → pm1 g (fX13_goesYears_l2 n x0 x1 x2 x3) := by
  intro n
  induction n with
  | zero => intro x0 x1 x2 x3 h; rw [fX13_goesYears_l2]; exact p1_none
  | succ n ih =>
    intro x0 x1 x2 x3 h
    rw [fX13_goesYears_l2]
    repeat' first | assumption | with_reducible apply KL_sI | with_reducible apply KL_sL | with_reducible apply KL_aI | with_reducible exact p1_none | with_reducible apply p1_some | with_reducible apply p1_ite | with_reducible apply p1_pu | with_reducible apply p1_ck | with_reducible apply p1_zz | with_reducible apply p1_nz | with_reducible apply p1_ld | with_reducible apply p1_st | with_reducible apply p1_b1m | with_reducible apply p1_b1p | with_reducible apply p1_b2 | with_reducible apply ih | with_reducible apply pl_fX13_goesBy | intro _
theorem pl_fX13_goesYears {g : Int64}  {M : Mem} {x1 : Int32} {x2 : Int32} (h : KL g M) : pm1 g (fX13_goesYears M x1 x2) := by
  unfold fX13_goesYears
  repeat' first | assumption | with_reducible apply KL_sI | with_reducible apply KL_sL | with_reducible apply KL_aI | with_reducible exact p1_none | with_reducible apply p1_some | with_reducible apply p1_ite | with_reducible apply p1_pu | with_reducible apply p1_ck | with_reducible apply p1_zz | with_reducible apply p1_nz | with_reducible apply p1_ld | with_reducible apply p1_st | with_reducible apply p1_b1m | with_reducible apply p1_b1p | with_reducible apply p1_b2 | with_reducible apply pl_fX13_goesYears_l2 | intro _
theorem pl_fX13_cost_l61 {g : Int64}  : ∀ (n : Nat) (x0 : Mem) (x1 : Int32) (x2 : Int32) (x3 : Int32), KL g x0 → pm2 g (fX13_cost_l61 n x0 x1 x2 x3) := by
  intro n
  induction n with
  | zero => intro x0 x1 x2 x3 h; rw [fX13_cost_l61]; exact p2_none
  | succ n ih =>
    intro x0 x1 x2 x3 h
    rw [fX13_cost_l61]
    repeat' first | assumption | with_reducible apply KL_sI | with_reducible apply KL_sL | with_reducible apply KL_aI | with_reducible exact p2_none | with_reducible apply p2_some | with_reducible apply p2_ite | with_reducible apply p2_pu | with_reducible apply p2_ck | with_reducible apply p2_zz | with_reducible apply p2_nz | with_reducible apply p2_ld | with_reducible apply p2_st | with_reducible apply p2_b1m | with_reducible apply p2_b1p | with_reducible apply p2_b2 | with_reducible apply ih | with_reducible apply pl_fX13_gathers | with_reducible apply pl_fX13_does | with_reducible apply pl_fX13_ends | intro _
theorem pl_fX13_cost {g : Int64}  {M : Mem} {x1 : Int32} (h : KL g M) : pm2 g (fX13_cost M x1) := by
  unfold fX13_cost
  repeat' first | assumption | with_reducible apply KL_sI | with_reducible apply KL_sL | with_reducible apply KL_aI | with_reducible exact p2_none | with_reducible apply p2_some | with_reducible apply p2_ite | with_reducible apply p2_pu | with_reducible apply p2_ck | with_reducible apply p2_zz | with_reducible apply p2_nz | with_reducible apply p2_ld | with_reducible apply p2_st | with_reducible apply p2_b1m | with_reducible apply p2_b1p | with_reducible apply p2_b2 | with_reducible apply pl_fX13_right | with_reducible apply pl_fX13_lays0 | with_reducible apply pl_fX13_goesYears | with_reducible apply pl_fX13_cost_l61 | intro _
theorem pl_fX13_count {g : Int64}  {M : Mem} {x1 : Int32} (h : KL g M) : pm2 g (fX13_count M x1) := by
  unfold fX13_count
  repeat' first | assumption | with_reducible apply KL_sI | with_reducible apply KL_sL | with_reducible apply KL_aI | with_reducible exact p2_none | with_reducible apply p2_some | with_reducible apply p2_ite | with_reducible apply p2_pu | with_reducible apply p2_ck | with_reducible apply p2_zz | with_reducible apply p2_nz | with_reducible apply p2_ld | with_reducible apply p2_st | with_reducible apply p2_b1m | with_reducible apply p2_b1p | with_reducible apply p2_b2 | with_reducible apply pl_fX13_right | intro _
theorem pl_fX13_deed {g : Int64}  {M : Mem} {x1 : Int32} {x2 : Int32} (h : KL g M) : pm2 g (fX13_deed M x1 x2) := by
  unfold fX13_deed
  repeat' first | assumption | with_reducible apply KL_sI | with_reducible apply KL_sL | with_reducible apply KL_aI | with_reducible exact p2_none | with_reducible apply p2_some | with_reducible apply p2_ite | with_reducible apply p2_pu | with_reducible apply p2_ck | with_reducible apply p2_zz | with_reducible apply p2_nz | with_reducible apply p2_ld | with_reducible apply p2_st | with_reducible apply p2_b1m | with_reducible apply p2_b1p | with_reducible apply p2_b2 | with_reducible apply pl_fX13_isDeed | with_reducible apply pl_fX13_isWhat | intro _
theorem pl_fX13_deeper_b61 {g : Int64}  {M : Mem} {s0 : Int32} (h : KL g M) : pm1 g (fX13_deeper_b61 M s0) := by
  unfold fX13_deeper_b61
  repeat' first | assumption | with_reducible apply KL_sI | with_reducible apply KL_sL | with_reducible apply KL_aI | with_reducible exact p1_none | with_reducible apply p1_some | with_reducible apply p1_ite | with_reducible apply p1_pu | with_reducible apply p1_ck | with_reducible apply p1_zz | with_reducible apply p1_nz | with_reducible apply p1_ld | with_reducible apply p1_st | with_reducible apply p1_b1m | with_reducible apply p1_b1p | with_reducible apply p1_b2 | with_reducible apply pl_fX13_wrong | intro _
theorem pl_fX13_deeper_b56 {g : Int64}  {M : Mem} (h : KL g M) : pm1 g (fX13_deeper_b56 M) := by
  unfold fX13_deeper_b56
  repeat' first | assumption | with_reducible apply KL_sI | with_reducible apply KL_sL | with_reducible apply KL_aI | with_reducible exact p1_none | with_reducible apply p1_some | with_reducible apply p1_ite | with_reducible apply p1_pu | with_reducible apply p1_ck | with_reducible apply p1_zz | with_reducible apply p1_nz | with_reducible apply p1_ld | with_reducible apply p1_st | with_reducible apply p1_b1m | with_reducible apply p1_b1p | with_reducible apply p1_b2 | with_reducible apply pl_fX13_deeper_b61 | intro _
theorem pl_fX13_deeper {g : Int64}  {M : Mem} (h : KL g M) : pm1 g (fX13_deeper M) := by
  unfold fX13_deeper
  repeat' first | assumption | with_reducible apply KL_sI | with_reducible apply KL_sL | with_reducible apply KL_aI | with_reducible exact p1_none | with_reducible apply p1_some | with_reducible apply p1_ite | with_reducible apply p1_pu | with_reducible apply p1_ck | with_reducible apply p1_zz | with_reducible apply p1_nz | with_reducible apply p1_ld | with_reducible apply p1_st | with_reducible apply p1_b1m | with_reducible apply p1_b1p | with_reducible apply p1_b2 | with_reducible apply pl_fX13_deeper_b56 | with_reducible apply pl_fX13_deeper_b61 | intro _
theorem pl_fX13_waitsFor {g : Int64}  {M : Mem} {x1 : Int32} (h : KL g M) : pm1 g (fX13_waitsFor M x1) := by
  unfold fX13_waitsFor
  repeat' first | assumption | with_reducible apply KL_sI | with_reducible apply KL_sL | with_reducible apply KL_aI | with_reducible exact p1_none | with_reducible apply p1_some | with_reducible apply p1_ite | with_reducible apply p1_pu | with_reducible apply p1_ck | with_reducible apply p1_zz | with_reducible apply p1_nz | with_reducible apply p1_ld | with_reducible apply p1_st | with_reducible apply p1_b1m | with_reducible apply p1_b1p | with_reducible apply p1_b2 | intro _
theorem pl_fX13_part_b97 {g : Int64}  {M : Mem} (h : KL g M) : pm1 g (fX13_part_b97 M) := by
  unfold fX13_part_b97
  repeat' first | assumption | with_reducible apply KL_sI | with_reducible apply KL_sL | with_reducible apply KL_aI | with_reducible exact p1_none | with_reducible apply p1_some | with_reducible apply p1_ite | with_reducible apply p1_pu | with_reducible apply p1_ck | with_reducible apply p1_zz | with_reducible apply p1_nz | with_reducible apply p1_ld | with_reducible apply p1_st | with_reducible apply p1_b1m | with_reducible apply p1_b1p | with_reducible apply p1_b2 | with_reducible apply pl_fX13_goes | intro _
theorem pl_fX13_part_b79 {g : Int64}  {M : Mem} {x1 : Int32} (h : KL g M) : pm1 g (fX13_part_b79 M x1) := by
  unfold fX13_part_b79
  repeat' first | assumption | with_reducible apply KL_sI | with_reducible apply KL_sL | with_reducible apply KL_aI | with_reducible exact p1_none | with_reducible apply p1_some | with_reducible apply p1_ite | with_reducible apply p1_pu | with_reducible apply p1_ck | with_reducible apply p1_zz | with_reducible apply p1_nz | with_reducible apply p1_ld | with_reducible apply p1_st | with_reducible apply p1_b1m | with_reducible apply p1_b1p | with_reducible apply p1_b2 | with_reducible apply pl_fX13_puts | with_reducible apply pl_fX13_part_b97 | intro _
theorem pl_fX13_part_b74 {g : Int64}  {M : Mem} {x1 : Int32} (h : KL g M) : pm1 g (fX13_part_b74 M x1) := by
  unfold fX13_part_b74
  repeat' first | assumption | with_reducible apply KL_sI | with_reducible apply KL_sL | with_reducible apply KL_aI | with_reducible exact p1_none | with_reducible apply p1_some | with_reducible apply p1_ite | with_reducible apply p1_pu | with_reducible apply p1_ck | with_reducible apply p1_zz | with_reducible apply p1_nz | with_reducible apply p1_ld | with_reducible apply p1_st | with_reducible apply p1_b1m | with_reducible apply p1_b1p | with_reducible apply p1_b2 | with_reducible apply pl_fX13_wrong | with_reducible apply pl_fX13_part_b79 | intro _
theorem pl_fX13_part_b29 {g : Int64}  {M : Mem} (h : KL g M) : pm1 g (fX13_part_b29 M) := by
  unfold fX13_part_b29
  repeat' first | assumption | with_reducible apply KL_sI | with_reducible apply KL_sL | with_reducible apply KL_aI | with_reducible exact p1_none | with_reducible apply p1_some | with_reducible apply p1_ite | with_reducible apply p1_pu | with_reducible apply p1_ck | with_reducible apply p1_zz | with_reducible apply p1_nz | with_reducible apply p1_ld | with_reducible apply p1_st | with_reducible apply p1_b1m | with_reducible apply p1_b1p | with_reducible apply p1_b2 | with_reducible apply pl_fX13_puts | with_reducible apply pl_fX13_part_b97 | intro _
theorem pl_fX13_part {g : Int64}  {M : Mem} (h : KL g M) : pm1 g (fX13_part M) := by
  unfold fX13_part
  repeat' first | assumption | with_reducible apply KL_sI | with_reducible apply KL_sL | with_reducible apply KL_aI | with_reducible exact p1_none | with_reducible apply p1_some | with_reducible apply p1_ite | with_reducible apply p1_pu | with_reducible apply p1_ck | with_reducible apply p1_zz | with_reducible apply p1_nz | with_reducible apply p1_ld | with_reducible apply p1_st | with_reducible apply p1_b1m | with_reducible apply p1_b1p | with_reducible apply p1_b2 | with_reducible apply pl_fX13_wrong | with_reducible apply pl_fX13_part_b29 | with_reducible apply pl_fX13_part_b74 | with_reducible apply pl_fX13_part_b79 | with_reducible apply pl_fX13_part_b97 | intro _
theorem pl_fX13_operand_b120 {g : Int64}  {M : Mem} (h : KL g M) : pm1 g (fX13_operand_b120 M) := by
  unfold fX13_operand_b120
  repeat' first | assumption | with_reducible apply KL_sI | with_reducible apply KL_sL | with_reducible apply KL_aI | with_reducible exact p1_none | with_reducible apply p1_some | with_reducible apply p1_ite | with_reducible apply p1_pu | with_reducible apply p1_ck | with_reducible apply p1_zz | with_reducible apply p1_nz | with_reducible apply p1_ld | with_reducible apply p1_st | with_reducible apply p1_b1m | with_reducible apply p1_b1p | with_reducible apply p1_b2 | with_reducible apply pl_fX13_part | intro _
theorem pl_fX13_operand_b117 {g : Int64} {a4 : Mem → Int32 → Int32 → Option Mem} (ha4 : ∀ (y0 : Mem) (y1 : Int32) (y2 : Int32), KL g y0 → pm1 g (a4 y0 y1 y2)) {M : Mem} {x2 : Int32} {x3 : Int32} (h : KL g M) : pm1 g (fX13_operand_b117 a4 M x2 x3) := by
  unfold fX13_operand_b117
  repeat' first | assumption | with_reducible apply KL_sI | with_reducible apply KL_sL | with_reducible apply KL_aI | with_reducible exact p1_none | with_reducible apply p1_some | with_reducible apply p1_ite | with_reducible apply p1_pu | with_reducible apply p1_ck | with_reducible apply p1_zz | with_reducible apply p1_nz | with_reducible apply p1_ld | with_reducible apply p1_st | with_reducible apply p1_b1m | with_reducible apply p1_b1p | with_reducible apply p1_b2 | with_reducible apply ha4 | intro _
theorem pl_fX13_operand_b96 {g : Int64} {a4 : Mem → Int32 → Int32 → Option Mem} (ha4 : ∀ (y0 : Mem) (y1 : Int32) (y2 : Int32), KL g y0 → pm1 g (a4 y0 y1 y2)) {M : Mem} {x2 : Int32} {s0 : Int32} (h : KL g M) : pm1 g (fX13_operand_b96 a4 M x2 s0) := by
  unfold fX13_operand_b96
  repeat' first | assumption | with_reducible apply KL_sI | with_reducible apply KL_sL | with_reducible apply KL_aI | with_reducible exact p1_none | with_reducible apply p1_some | with_reducible apply p1_ite | with_reducible apply p1_pu | with_reducible apply p1_ck | with_reducible apply p1_zz | with_reducible apply p1_nz | with_reducible apply p1_ld | with_reducible apply p1_st | with_reducible apply p1_b1m | with_reducible apply p1_b1p | with_reducible apply p1_b2 | with_reducible apply ha4 | with_reducible apply pl_fX13_operand_b117 | with_reducible apply pl_fX13_waitsFor | with_reducible apply pl_fX13_goes | with_reducible apply pl_fX13_deeper | intro _
theorem pl_fX13_operand_b95 {g : Int64} {a4 : Mem → Int32 → Int32 → Option Mem} (ha4 : ∀ (y0 : Mem) (y1 : Int32) (y2 : Int32), KL g y0 → pm1 g (a4 y0 y1 y2)) {M : Mem} {x2 : Int32} (h : KL g M) : pm1 g (fX13_operand_b95 a4 M x2) := by
  unfold fX13_operand_b95
  repeat' first | assumption | with_reducible apply KL_sI | with_reducible apply KL_sL | with_reducible apply KL_aI | with_reducible exact p1_none | with_reducible apply p1_some | with_reducible apply p1_ite | with_reducible apply p1_pu | with_reducible apply p1_ck | with_reducible apply p1_zz | with_reducible apply p1_nz | with_reducible apply p1_ld | with_reducible apply p1_st | with_reducible apply p1_b1m | with_reducible apply p1_b1p | with_reducible apply p1_b2 | with_reducible apply ha4 | with_reducible apply pl_fX13_operand_b96 | intro _
theorem pl_fX13_operand_b75 {g : Int64} {a4 : Mem → Int32 → Int32 → Option Mem} (ha4 : ∀ (y0 : Mem) (y1 : Int32) (y2 : Int32), KL g y0 → pm1 g (a4 y0 y1 y2)) {M : Mem} {x2 : Int32} (h : KL g M) : pm1 g (fX13_operand_b75 a4 M x2) := by
  unfold fX13_operand_b75
  repeat' first | assumption | with_reducible apply KL_sI | with_reducible apply KL_sL | with_reducible apply KL_aI | with_reducible exact p1_none | with_reducible apply p1_some | with_reducible apply p1_ite | with_reducible apply p1_pu | with_reducible apply p1_ck | with_reducible apply p1_zz | with_reducible apply p1_nz | with_reducible apply p1_ld | with_reducible apply p1_st | with_reducible apply p1_b1m | with_reducible apply p1_b1p | with_reducible apply p1_b2 | with_reducible apply ha4 | with_reducible apply pl_fX13_operand_b95 | with_reducible apply pl_fX13_operand_b96 | intro _
theorem pl_fX13_operand_b50 {g : Int64} {a4 : Mem → Int32 → Int32 → Option Mem} {a18 : Mem → Int32 → Int32 → Option Mem} (ha4 : ∀ (y0 : Mem) (y1 : Int32) (y2 : Int32), KL g y0 → pm1 g (a4 y0 y1 y2)) (ha18 : ∀ (y0 : Mem) (y1 : Int32) (y2 : Int32), KL g y0 → pm1 g (a18 y0 y1 y2)) {M : Mem} {x2 : Int32} {x4 : Int32} (h : KL g M) : pm1 g (fX13_operand_b50 a4 a18 M x2 x4) := by
  unfold fX13_operand_b50
  repeat' first | assumption | with_reducible apply KL_sI | with_reducible apply KL_sL | with_reducible apply KL_aI | with_reducible exact p1_none | with_reducible apply p1_some | with_reducible apply p1_ite | with_reducible apply p1_pu | with_reducible apply p1_ck | with_reducible apply p1_zz | with_reducible apply p1_nz | with_reducible apply p1_ld | with_reducible apply p1_st | with_reducible apply p1_b1m | with_reducible apply p1_b1p | with_reducible apply p1_b2 | with_reducible apply ha4 | with_reducible apply ha18 | with_reducible apply pl_fX13_waitsFor | with_reducible apply pl_fX13_goes | intro _
theorem pl_fX13_operand_l18 {g : Int64} {a4 : Mem → Int32 → Int32 → Option Mem} (ha4 : ∀ (y0 : Mem) (y1 : Int32) (y2 : Int32), KL g y0 → pm1 g (a4 y0 y1 y2)) : ∀ (n : Nat) (x0 : Mem) (x1 : Int32) (x2 : Int32), KL g x0 → pm1 g (fX13_operand_l18 a4 n x0 x1 x2) := by
  intro n
  induction n with
  | zero => intro x0 x1 x2 h; rw [fX13_operand_l18]; exact p1_none
  | succ n ih =>
    intro x0 x1 x2 h
    rw [fX13_operand_l18]
    repeat' first | assumption | with_reducible apply KL_sI | with_reducible apply KL_sL | with_reducible apply KL_aI | with_reducible exact p1_none | with_reducible apply p1_some | with_reducible apply p1_ite | with_reducible apply p1_pu | with_reducible apply p1_ck | with_reducible apply p1_zz | with_reducible apply p1_nz | with_reducible apply p1_ld | with_reducible apply p1_st | with_reducible apply p1_b1m | with_reducible apply p1_b1p | with_reducible apply p1_b2 | with_reducible apply ha4 | with_reducible apply ih | with_reducible apply pl_fX13_operand_b75 | with_reducible apply pl_fX13_wrong | with_reducible apply pl_fX13_operand_b50 | intro _
theorem pl_fX13_operand_l4 {g : Int64}  : ∀ (n : Nat) (x0 : Mem) (x1 : Int32) (x2 : Int32), KL g x0 → pm1 g (fX13_operand_l4 n x0 x1 x2) := by
  intro n
  induction n with
  | zero => intro x0 x1 x2 h; rw [fX13_operand_l4]; exact p1_none
  | succ n ih =>
    intro x0 x1 x2 h
    rw [fX13_operand_l4]
    repeat' first | assumption | with_reducible apply KL_sI | with_reducible apply KL_sL | with_reducible apply KL_aI | with_reducible exact p1_none | with_reducible apply p1_some | with_reducible apply p1_ite | with_reducible apply p1_pu | with_reducible apply p1_ck | with_reducible apply p1_zz | with_reducible apply p1_nz | with_reducible apply p1_ld | with_reducible apply p1_st | with_reducible apply p1_b1m | with_reducible apply p1_b1p | with_reducible apply p1_b2 | with_reducible apply ih | with_reducible apply pl_fX13_operand_b120 | with_reducible apply pl_fX13_operand_l18 | intro _
theorem pl_fX13_operand {g : Int64}  {M : Mem} {x1 : Int32} (h : KL g M) : pm1 g (fX13_operand M x1) := by
  unfold fX13_operand
  repeat' first | assumption | with_reducible apply KL_sI | with_reducible apply KL_sL | with_reducible apply KL_aI | with_reducible exact p1_none | with_reducible apply p1_some | with_reducible apply p1_ite | with_reducible apply p1_pu | with_reducible apply p1_ck | with_reducible apply p1_zz | with_reducible apply p1_nz | with_reducible apply p1_ld | with_reducible apply p1_st | with_reducible apply p1_b1m | with_reducible apply p1_b1p | with_reducible apply p1_b2 | with_reducible apply pl_fX13_operand_l4 | intro _
theorem pl_fX13_expression_b360 {g : Int64}  {M : Mem} (h : KL g M) : pm1 g (fX13_expression_b360 M) := by
  unfold fX13_expression_b360
  repeat' first | assumption | with_reducible apply KL_sI | with_reducible apply KL_sL | with_reducible apply KL_aI | with_reducible exact p1_none | with_reducible apply p1_some | with_reducible apply p1_ite | with_reducible apply p1_pu | with_reducible apply p1_ck | with_reducible apply p1_zz | with_reducible apply p1_nz | with_reducible apply p1_ld | with_reducible apply p1_st | with_reducible apply p1_b1m | with_reducible apply p1_b1p | with_reducible apply p1_b2 | with_reducible apply pl_fX13_drops | with_reducible apply pl_fX13_puts | intro _
theorem pl_fX13_expression_b340 {g : Int64}  {M : Mem} (h : KL g M) : pm1 g (fX13_expression_b340 M) := by
  unfold fX13_expression_b340
  repeat' first | assumption | with_reducible apply KL_sI | with_reducible apply KL_sL | with_reducible apply KL_aI | with_reducible exact p1_none | with_reducible apply p1_some | with_reducible apply p1_ite | with_reducible apply p1_pu | with_reducible apply p1_ck | with_reducible apply p1_zz | with_reducible apply p1_nz | with_reducible apply p1_ld | with_reducible apply p1_st | with_reducible apply p1_b1m | with_reducible apply p1_b1p | with_reducible apply p1_b2 | with_reducible apply pl_fX13_expression_b360 | with_reducible apply pl_fX13_wrong | intro _
theorem pl_fX13_expression_b337 {g : Int64} {a39 : Mem → Int32 → Option Mem} (ha39 : ∀ (y0 : Mem) (y1 : Int32), KL g y0 → pm1 g (a39 y0 y1)) {M : Mem} {x3 : Int32} (h : KL g M) : pm1 g (fX13_expression_b337 a39 M x3) := by
  unfold fX13_expression_b337
  repeat' first | assumption | with_reducible apply KL_sI | with_reducible apply KL_sL | with_reducible apply KL_aI | with_reducible exact p1_none | with_reducible apply p1_some | with_reducible apply p1_ite | with_reducible apply p1_pu | with_reducible apply p1_ck | with_reducible apply p1_zz | with_reducible apply p1_nz | with_reducible apply p1_ld | with_reducible apply p1_st | with_reducible apply p1_b1m | with_reducible apply p1_b1p | with_reducible apply p1_b2 | with_reducible apply ha39 | intro _
theorem pl_fX13_expression_b99 {g : Int64} {a39 : Mem → Int32 → Option Mem} (ha39 : ∀ (y0 : Mem) (y1 : Int32), KL g y0 → pm1 g (a39 y0 y1)) {M : Mem} {x3 : Int32} {s0 : Int32} (h : KL g M) : pm1 g (fX13_expression_b99 a39 M x3 s0) := by
  unfold fX13_expression_b99
  repeat' first | assumption | with_reducible apply KL_sI | with_reducible apply KL_sL | with_reducible apply KL_aI | with_reducible exact p1_none | with_reducible apply p1_some | with_reducible apply p1_ite | with_reducible apply p1_pu | with_reducible apply p1_ck | with_reducible apply p1_zz | with_reducible apply p1_nz | with_reducible apply p1_ld | with_reducible apply p1_st | with_reducible apply p1_b1m | with_reducible apply p1_b1p | with_reducible apply p1_b2 | with_reducible apply ha39 | with_reducible apply pl_fX13_waitsFor | with_reducible apply pl_fX13_goes | with_reducible apply pl_fX13_operand | with_reducible apply pl_fX13_expression_b337 | intro _
theorem pl_fX13_expression_b83 {g : Int64} {a39 : Mem → Int32 → Option Mem} (ha39 : ∀ (y0 : Mem) (y1 : Int32), KL g y0 → pm1 g (a39 y0 y1)) {M : Mem} {x3 : Int32} {x4 : Int32} {s0 : Int32} (h : KL g M) : pm1 g (fX13_expression_b83 a39 M x3 x4 s0) := by
  unfold fX13_expression_b83
  repeat' first | assumption | with_reducible apply KL_sI | with_reducible apply KL_sL | with_reducible apply KL_aI | with_reducible exact p1_none | with_reducible apply p1_some | with_reducible apply p1_ite | with_reducible apply p1_pu | with_reducible apply p1_ck | with_reducible apply p1_zz | with_reducible apply p1_nz | with_reducible apply p1_ld | with_reducible apply p1_st | with_reducible apply p1_b1m | with_reducible apply p1_b1p | with_reducible apply p1_b2 | with_reducible apply ha39 | with_reducible apply pl_fX13_drops | with_reducible apply pl_fX13_expression_b99 | intro _
theorem pl_fX13_expression_b70 {g : Int64} {a39 : Mem → Int32 → Option Mem} (ha39 : ∀ (y0 : Mem) (y1 : Int32), KL g y0 → pm1 g (a39 y0 y1)) {M : Mem} {x3 : Int32} {x4 : Int32} (h : KL g M) : pm1 g (fX13_expression_b70 a39 M x3 x4) := by
  unfold fX13_expression_b70
  repeat' first | assumption | with_reducible apply KL_sI | with_reducible apply KL_sL | with_reducible apply KL_aI | with_reducible exact p1_none | with_reducible apply p1_some | with_reducible apply p1_ite | with_reducible apply p1_pu | with_reducible apply p1_ck | with_reducible apply p1_zz | with_reducible apply p1_nz | with_reducible apply p1_ld | with_reducible apply p1_st | with_reducible apply p1_b1m | with_reducible apply p1_b1p | with_reducible apply p1_b2 | with_reducible apply ha39 | with_reducible apply pl_fX13_expression_b83 | intro _
theorem pl_fX13_expression_b241 {g : Int64} {a39 : Mem → Int32 → Option Mem} (ha39 : ∀ (y0 : Mem) (y1 : Int32), KL g y0 → pm1 g (a39 y0 y1)) {M : Mem} {x3 : Int32} {s0 : Int32} (h : KL g M) : pm1 g (fX13_expression_b241 a39 M x3 s0) := by
  unfold fX13_expression_b241
  repeat' first | assumption | with_reducible apply KL_sI | with_reducible apply KL_sL | with_reducible apply KL_aI | with_reducible exact p1_none | with_reducible apply p1_some | with_reducible apply p1_ite | with_reducible apply p1_pu | with_reducible apply p1_ck | with_reducible apply p1_zz | with_reducible apply p1_nz | with_reducible apply p1_ld | with_reducible apply p1_st | with_reducible apply p1_b1m | with_reducible apply p1_b1p | with_reducible apply p1_b2 | with_reducible apply ha39 | with_reducible apply pl_fX13_waitsFor | with_reducible apply pl_fX13_goes | with_reducible apply pl_fX13_operand | with_reducible apply pl_fX13_expression_b337 | intro _
theorem pl_fX13_expression_b219 {g : Int64} {a39 : Mem → Int32 → Option Mem} (ha39 : ∀ (y0 : Mem) (y1 : Int32), KL g y0 → pm1 g (a39 y0 y1)) {M : Mem} {x3 : Int32} (h : KL g M) : pm1 g (fX13_expression_b219 a39 M x3) := by
  unfold fX13_expression_b219
  repeat' first | assumption | with_reducible apply KL_sI | with_reducible apply KL_sL | with_reducible apply KL_aI | with_reducible exact p1_none | with_reducible apply p1_some | with_reducible apply p1_ite | with_reducible apply p1_pu | with_reducible apply p1_ck | with_reducible apply p1_zz | with_reducible apply p1_nz | with_reducible apply p1_ld | with_reducible apply p1_st | with_reducible apply p1_b1m | with_reducible apply p1_b1p | with_reducible apply p1_b2 | with_reducible apply ha39 | with_reducible apply pl_fX13_drops | with_reducible apply pl_fX13_expression_b241 | intro _
theorem pl_fX13_expression_b297 {g : Int64} {a39 : Mem → Int32 → Option Mem} (ha39 : ∀ (y0 : Mem) (y1 : Int32), KL g y0 → pm1 g (a39 y0 y1)) {M : Mem} {x3 : Int32} {s0 : Int32} (h : KL g M) : pm1 g (fX13_expression_b297 a39 M x3 s0) := by
  unfold fX13_expression_b297
  repeat' first | assumption | with_reducible apply KL_sI | with_reducible apply KL_sL | with_reducible apply KL_aI | with_reducible exact p1_none | with_reducible apply p1_some | with_reducible apply p1_ite | with_reducible apply p1_pu | with_reducible apply p1_ck | with_reducible apply p1_zz | with_reducible apply p1_nz | with_reducible apply p1_ld | with_reducible apply p1_st | with_reducible apply p1_b1m | with_reducible apply p1_b1p | with_reducible apply p1_b2 | with_reducible apply ha39 | with_reducible apply pl_fX13_waitsFor | with_reducible apply pl_fX13_goes | with_reducible apply pl_fX13_operand | with_reducible apply pl_fX13_expression_b337 | intro _
theorem pl_fX13_expression_b274 {g : Int64} {a39 : Mem → Int32 → Option Mem} (ha39 : ∀ (y0 : Mem) (y1 : Int32), KL g y0 → pm1 g (a39 y0 y1)) {M : Mem} {x3 : Int32} (h : KL g M) : pm1 g (fX13_expression_b274 a39 M x3) := by
  unfold fX13_expression_b274
  repeat' first | assumption | with_reducible apply KL_sI | with_reducible apply KL_sL | with_reducible apply KL_aI | with_reducible exact p1_none | with_reducible apply p1_some | with_reducible apply p1_ite | with_reducible apply p1_pu | with_reducible apply p1_ck | with_reducible apply p1_zz | with_reducible apply p1_nz | with_reducible apply p1_ld | with_reducible apply p1_st | with_reducible apply p1_b1m | with_reducible apply p1_b1p | with_reducible apply p1_b2 | with_reducible apply ha39 | with_reducible apply pl_fX13_drops | with_reducible apply pl_fX13_expression_b297 | intro _
theorem pl_fX13_expression_b335 {g : Int64} {a39 : Mem → Int32 → Option Mem} (ha39 : ∀ (y0 : Mem) (y1 : Int32), KL g y0 → pm1 g (a39 y0 y1)) {M : Mem} (h : KL g M) : pm1 g (fX13_expression_b335 a39 M) := by
  unfold fX13_expression_b335
  repeat' first | assumption | with_reducible apply KL_sI | with_reducible apply KL_sL | with_reducible apply KL_aI | with_reducible exact p1_none | with_reducible apply p1_some | with_reducible apply p1_ite | with_reducible apply p1_pu | with_reducible apply p1_ck | with_reducible apply p1_zz | with_reducible apply p1_nz | with_reducible apply p1_ld | with_reducible apply p1_st | with_reducible apply p1_b1m | with_reducible apply p1_b1p | with_reducible apply p1_b2 | with_reducible apply ha39 | with_reducible apply pl_fX13_expression_b337 | intro _
theorem pl_fX13_expression_b201 {g : Int64} {a39 : Mem → Int32 → Option Mem} (ha39 : ∀ (y0 : Mem) (y1 : Int32), KL g y0 → pm1 g (a39 y0 y1)) {M : Mem} {x3 : Int32} (h : KL g M) : pm1 g (fX13_expression_b201 a39 M x3) := by
  unfold fX13_expression_b201
  repeat' first | assumption | with_reducible apply KL_sI | with_reducible apply KL_sL | with_reducible apply KL_aI | with_reducible exact p1_none | with_reducible apply p1_some | with_reducible apply p1_ite | with_reducible apply p1_pu | with_reducible apply p1_ck | with_reducible apply p1_zz | with_reducible apply p1_nz | with_reducible apply p1_ld | with_reducible apply p1_st | with_reducible apply p1_b1m | with_reducible apply p1_b1p | with_reducible apply p1_b2 | with_reducible apply ha39 | with_reducible apply pl_fX13_expression_b335 | with_reducible apply pl_fX13_closes | with_reducible apply pl_fX13_expression_b337 | with_reducible apply pl_fX13_expression_b274 | with_reducible apply pl_fX13_expression_b219 | intro _
theorem pl_fX13_expression_b176 {g : Int64} {a39 : Mem → Int32 → Option Mem} (ha39 : ∀ (y0 : Mem) (y1 : Int32), KL g y0 → pm1 g (a39 y0 y1)) {M : Mem} {x3 : Int32} {s0 : Int32} (h : KL g M) : pm1 g (fX13_expression_b176 a39 M x3 s0) := by
  unfold fX13_expression_b176
  repeat' first | assumption | with_reducible apply KL_sI | with_reducible apply KL_sL | with_reducible apply KL_aI | with_reducible exact p1_none | with_reducible apply p1_some | with_reducible apply p1_ite | with_reducible apply p1_pu | with_reducible apply p1_ck | with_reducible apply p1_zz | with_reducible apply p1_nz | with_reducible apply p1_ld | with_reducible apply p1_st | with_reducible apply p1_b1m | with_reducible apply p1_b1p | with_reducible apply p1_b2 | with_reducible apply ha39 | with_reducible apply pl_fX13_waitsFor | with_reducible apply pl_fX13_goes | with_reducible apply pl_fX13_operand | with_reducible apply pl_fX13_expression_b337 | intro _
theorem pl_fX13_expression_b142 {g : Int64} {a39 : Mem → Int32 → Option Mem} (ha39 : ∀ (y0 : Mem) (y1 : Int32), KL g y0 → pm1 g (a39 y0 y1)) {M : Mem} {x3 : Int32} (h : KL g M) : pm1 g (fX13_expression_b142 a39 M x3) := by
  unfold fX13_expression_b142
  repeat' first | assumption | with_reducible apply KL_sI | with_reducible apply KL_sL | with_reducible apply KL_aI | with_reducible exact p1_none | with_reducible apply p1_some | with_reducible apply p1_ite | with_reducible apply p1_pu | with_reducible apply p1_ck | with_reducible apply p1_zz | with_reducible apply p1_nz | with_reducible apply p1_ld | with_reducible apply p1_st | with_reducible apply p1_b1m | with_reducible apply p1_b1p | with_reducible apply p1_b2 | with_reducible apply ha39 | with_reducible apply pl_fX13_drops | with_reducible apply pl_fX13_expression_b176 | with_reducible apply pl_fX13_expression_b201 | intro _
theorem pl_fX13_expression_l39 {g : Int64}  : ∀ (n : Nat) (x0 : Mem) (x1 : Int32), KL g x0 → pm1 g (fX13_expression_l39 n x0 x1) := by
  intro n
  induction n with
  | zero => intro x0 x1 h; rw [fX13_expression_l39]; exact p1_none
  | succ n ih =>
    intro x0 x1 h
    rw [fX13_expression_l39]
    repeat' first | assumption | with_reducible apply KL_sI | with_reducible apply KL_sL | with_reducible apply KL_aI | with_reducible exact p1_none | with_reducible apply p1_some | with_reducible apply p1_ite | with_reducible apply p1_pu | with_reducible apply p1_ck | with_reducible apply p1_zz | with_reducible apply p1_nz | with_reducible apply p1_ld | with_reducible apply p1_st | with_reducible apply p1_b1m | with_reducible apply p1_b1p | with_reducible apply p1_b2 | with_reducible apply ih | with_reducible apply pl_fX13_expression_b340 | with_reducible apply pl_fX13_expression_b70 | with_reducible apply pl_fX13_expression_b201 | with_reducible apply pl_fX13_expression_b142 | intro _
theorem pl_fX13_expression {g : Int64}  {M : Mem} {x1 : Int32} {x2 : Int32} (h : KL g M) : pm1 g (fX13_expression M x1 x2) := by
  unfold fX13_expression
  repeat' first | assumption | with_reducible apply KL_sI | with_reducible apply KL_sL | with_reducible apply KL_aI | with_reducible exact p1_none | with_reducible apply p1_some | with_reducible apply p1_ite | with_reducible apply p1_pu | with_reducible apply p1_ck | with_reducible apply p1_zz | with_reducible apply p1_nz | with_reducible apply p1_ld | with_reducible apply p1_st | with_reducible apply p1_b1m | with_reducible apply p1_b1p | with_reducible apply p1_b2 | with_reducible apply pl_fX13_deeper | with_reducible apply pl_fX13_operand | with_reducible apply pl_fX13_expression_l39 | intro _
theorem pl_fX13_goesByTerm {g : Int64}  {M : Mem} {x1 : Int32} (h : KL g M) : pm1 g (fX13_goesByTerm M x1) := by
  unfold fX13_goesByTerm
  repeat' first | assumption | with_reducible apply KL_sI | with_reducible apply KL_sL | with_reducible apply KL_aI | with_reducible exact p1_none | with_reducible apply p1_some | with_reducible apply p1_ite | with_reducible apply p1_pu | with_reducible apply p1_ck | with_reducible apply p1_zz | with_reducible apply p1_nz | with_reducible apply p1_ld | with_reducible apply p1_st | with_reducible apply p1_b1m | with_reducible apply p1_b1p | with_reducible apply p1_b2 | with_reducible apply pl_fX13_lays0 | with_reducible apply pl_fX13_goesYears | intro _
theorem pl_fX13_fair_l7 {g : Int64}  : ∀ (n : Nat) (x0 : Mem) (x1 : Int32), KL g x0 → pm2 g (fX13_fair_l7 n x0 x1) := by
  intro n
  induction n with
  | zero => intro x0 x1 h; rw [fX13_fair_l7]; exact p2_none
  | succ n ih =>
    intro x0 x1 h
    rw [fX13_fair_l7]
    repeat' first | assumption | with_reducible apply KL_sI | with_reducible apply KL_sL | with_reducible apply KL_aI | with_reducible exact p2_none | with_reducible apply p2_some | with_reducible apply p2_ite | with_reducible apply p2_pu | with_reducible apply p2_ck | with_reducible apply p2_zz | with_reducible apply p2_nz | with_reducible apply p2_ld | with_reducible apply p2_st | with_reducible apply p2_b1m | with_reducible apply p2_b1p | with_reducible apply p2_b2 | with_reducible apply ih | with_reducible apply pl_fX13_goesByTerm | intro _
theorem pl_fX13_fair {g : Int64}  {M : Mem} (h : KL g M) : pm2 g (fX13_fair M) := by
  unfold fX13_fair
  repeat' first | assumption | with_reducible apply KL_sI | with_reducible apply KL_sL | with_reducible apply KL_aI | with_reducible exact p2_none | with_reducible apply p2_some | with_reducible apply p2_ite | with_reducible apply p2_pu | with_reducible apply p2_ck | with_reducible apply p2_zz | with_reducible apply p2_nz | with_reducible apply p2_ld | with_reducible apply p2_st | with_reducible apply p2_b1m | with_reducible apply p2_b1p | with_reducible apply p2_b2 | with_reducible apply pl_fX13_fair_l7 | intro _
theorem pl_fX13_fault {g : Int64}  {M : Mem} (h : KL g M) : pm2 g (fX13_fault M) := by
  unfold fX13_fault
  repeat' first | assumption | with_reducible apply KL_sI | with_reducible apply KL_sL | with_reducible apply KL_aI | with_reducible exact p2_none | with_reducible apply p2_some | with_reducible apply p2_ite | with_reducible apply p2_pu | with_reducible apply p2_ck | with_reducible apply p2_zz | with_reducible apply p2_nz | with_reducible apply p2_ld | with_reducible apply p2_st | with_reducible apply p2_b1m | with_reducible apply p2_b1p | with_reducible apply p2_b2 | intro _
theorem pl_fX13_lays_l3 {g : Int64}  : ∀ (n : Nat) (x0 : Mem) (x1 : Int32) (x2 : Int32), KL g x0 → pm1 g (fX13_lays_l3 n x0 x1 x2) := by
  intro n
  induction n with
  | zero => intro x0 x1 x2 h; rw [fX13_lays_l3]; exact p1_none
  | succ n ih =>
    intro x0 x1 x2 h
    rw [fX13_lays_l3]
    repeat' first | assumption | with_reducible apply KL_sI | with_reducible apply KL_sL | with_reducible apply KL_aI | with_reducible exact p1_none | with_reducible apply p1_some | with_reducible apply p1_ite | with_reducible apply p1_pu | with_reducible apply p1_ck | with_reducible apply p1_zz | with_reducible apply p1_nz | with_reducible apply p1_ld | with_reducible apply p1_st | with_reducible apply p1_b1m | with_reducible apply p1_b1p | with_reducible apply p1_b2 | with_reducible apply ih | intro _
theorem pl_fX13_lays {g : Int64}  {M : Mem} {x1 : Int32} (h : KL g M) : pm1 g (fX13_lays M x1) := by
  unfold fX13_lays
  repeat' first | assumption | with_reducible apply KL_sI | with_reducible apply KL_sL | with_reducible apply KL_aI | with_reducible exact p1_none | with_reducible apply p1_some | with_reducible apply p1_ite | with_reducible apply p1_pu | with_reducible apply p1_ck | with_reducible apply p1_zz | with_reducible apply p1_nz | with_reducible apply p1_ld | with_reducible apply p1_st | with_reducible apply p1_b1m | with_reducible apply p1_b1p | with_reducible apply p1_b2 | with_reducible apply pl_fX13_lays_l3 | intro _
theorem pl_fX13_feed {g : Int64}  {M : Mem} {x1 : Int32} {x2 : Int32} {x3 : Int32} {x4 : Int32} {x5 : Int32} (h : KL g M) : pm2 g (fX13_feed M x1 x2 x3 x4 x5) := by
  unfold fX13_feed
  repeat' first | assumption | with_reducible apply KL_sI | with_reducible apply KL_sL | with_reducible apply KL_aI | with_reducible exact p2_none | with_reducible apply p2_some | with_reducible apply p2_ite | with_reducible apply p2_pu | with_reducible apply p2_ck | with_reducible apply p2_zz | with_reducible apply p2_nz | with_reducible apply p2_ld | with_reducible apply p2_st | with_reducible apply p2_b1m | with_reducible apply p2_b1p | with_reducible apply p2_b2 | with_reducible apply pl_fX13_lays | intro _
theorem pl_fX13_forget {g : Int64}  {M : Mem} (h : KL g M) : pm1 g (fX13_forget M) := by
  unfold fX13_forget
  repeat' first | assumption | with_reducible apply KL_sI | with_reducible apply KL_sL | with_reducible apply KL_aI | with_reducible exact p1_none | with_reducible apply p1_some | with_reducible apply p1_ite | with_reducible apply p1_pu | with_reducible apply p1_ck | with_reducible apply p1_zz | with_reducible apply p1_nz | with_reducible apply p1_ld | with_reducible apply p1_st | with_reducible apply p1_b1m | with_reducible apply p1_b1p | with_reducible apply p1_b2 | intro _
theorem pl_fX13_isFriend_b18 {g : Int64}  {M : Mem} {s0 : Int32} (h : KL g M) : pm2 g (fX13_isFriend_b18 M s0) := by
  unfold fX13_isFriend_b18
  repeat' first | assumption | with_reducible apply KL_sI | with_reducible apply KL_sL | with_reducible apply KL_aI | with_reducible exact p2_none | with_reducible apply p2_some | with_reducible apply p2_ite | with_reducible apply p2_pu | with_reducible apply p2_ck | with_reducible apply p2_zz | with_reducible apply p2_nz | with_reducible apply p2_ld | with_reducible apply p2_st | with_reducible apply p2_b1m | with_reducible apply p2_b1p | with_reducible apply p2_b2 | with_reducible apply pl_fX13_right | intro _
theorem pl_fX13_isFriend_b17 {g : Int64}  {M : Mem} (h : KL g M) : pm2 g (fX13_isFriend_b17 M) := by
  unfold fX13_isFriend_b17
  repeat' first | assumption | with_reducible apply KL_sI | with_reducible apply KL_sL | with_reducible apply KL_aI | with_reducible exact p2_none | with_reducible apply p2_some | with_reducible apply p2_ite | with_reducible apply p2_pu | with_reducible apply p2_ck | with_reducible apply p2_zz | with_reducible apply p2_nz | with_reducible apply p2_ld | with_reducible apply p2_st | with_reducible apply p2_b1m | with_reducible apply p2_b1p | with_reducible apply p2_b2 | with_reducible apply pl_fX13_isFriend_b18 | intro _
theorem pl_fX13_isFriend {g : Int64}  {M : Mem} {x1 : Int32} (h : KL g M) : pm2 g (fX13_isFriend M x1) := by
  unfold fX13_isFriend
  repeat' first | assumption | with_reducible apply KL_sI | with_reducible apply KL_sL | with_reducible apply KL_aI | with_reducible exact p2_none | with_reducible apply p2_some | with_reducible apply p2_ite | with_reducible apply p2_pu | with_reducible apply p2_ck | with_reducible apply p2_zz | with_reducible apply p2_nz | with_reducible apply p2_ld | with_reducible apply p2_st | with_reducible apply p2_b1m | with_reducible apply p2_b1p | with_reducible apply p2_b2 | with_reducible apply pl_fX13_isFriend_b17 | with_reducible apply pl_fX13_isFriend_b18 | intro _
theorem pl_fX13_friend {g : Int64}  {M : Mem} {x1 : Int32} {x2 : Int32} (h : KL g M) : pm2 g (fX13_friend M x1 x2) := by
  unfold fX13_friend
  repeat' first | assumption | with_reducible apply KL_sI | with_reducible apply KL_sL | with_reducible apply KL_aI | with_reducible exact p2_none | with_reducible apply p2_some | with_reducible apply p2_ite | with_reducible apply p2_pu | with_reducible apply p2_ck | with_reducible apply p2_zz | with_reducible apply p2_nz | with_reducible apply p2_ld | with_reducible apply p2_st | with_reducible apply p2_b1m | with_reducible apply p2_b1p | with_reducible apply p2_b2 | with_reducible apply pl_fX13_isFriend | with_reducible apply pl_fX13_isWhat | with_reducible apply pl_fX13_follows | with_reducible apply pl_fX13_likeOf | intro _
theorem pl_fX13_gains_b70 {g : Int64} {a13 : Mem → Int32 → Int32 → Int32 → Int32 → Int32 → Option (Int32 × Mem)} (ha13 : ∀ (y0 : Mem) (y1 : Int32) (y2 : Int32) (y3 : Int32) (y4 : Int32) (y5 : Int32), KL g y0 → pm2 g (a13 y0 y1 y2 y3 y4 y5)) {M : Mem} {x1 : Int32} {x2 : Int32} {x3 : Int32} {x5 : Int32} {s0 : Int32} (h : KL g M) : pm2 g (fX13_gains_b70 a13 M x1 x2 x3 x5 s0) := by
  unfold fX13_gains_b70
  repeat' first | assumption | with_reducible apply KL_sI | with_reducible apply KL_sL | with_reducible apply KL_aI | with_reducible exact p2_none | with_reducible apply p2_some | with_reducible apply p2_ite | with_reducible apply p2_pu | with_reducible apply p2_ck | with_reducible apply p2_zz | with_reducible apply p2_nz | with_reducible apply p2_ld | with_reducible apply p2_st | with_reducible apply p2_b1m | with_reducible apply p2_b1p | with_reducible apply p2_b2 | with_reducible apply ha13 | with_reducible apply pl_fX13_ends | intro _
theorem pl_fX13_gains_b46 {g : Int64} {a13 : Mem → Int32 → Int32 → Int32 → Int32 → Int32 → Option (Int32 × Mem)} (ha13 : ∀ (y0 : Mem) (y1 : Int32) (y2 : Int32) (y3 : Int32) (y4 : Int32) (y5 : Int32), KL g y0 → pm2 g (a13 y0 y1 y2 y3 y4 y5)) {M : Mem} {x1 : Int32} {x2 : Int32} {x3 : Int32} {x5 : Int32} {s0 : Int32} (h : KL g M) : pm2 g (fX13_gains_b46 a13 M x1 x2 x3 x5 s0) := by
  unfold fX13_gains_b46
  repeat' first | assumption | with_reducible apply KL_sI | with_reducible apply KL_sL | with_reducible apply KL_aI | with_reducible exact p2_none | with_reducible apply p2_some | with_reducible apply p2_ite | with_reducible apply p2_pu | with_reducible apply p2_ck | with_reducible apply p2_zz | with_reducible apply p2_nz | with_reducible apply p2_ld | with_reducible apply p2_st | with_reducible apply p2_b1m | with_reducible apply p2_b1p | with_reducible apply p2_b2 | with_reducible apply ha13 | with_reducible apply pl_fX13_does | with_reducible apply pl_fX13_gains_b70 | intro _
theorem pl_fX13_gains_l13 {g : Int64}  : ∀ (n : Nat) (x0 : Mem) (x1 : Int32) (x2 : Int32) (x3 : Int32) (x4 : Int32) (x5 : Int32), KL g x0 → pm2 g (fX13_gains_l13 n x0 x1 x2 x3 x4 x5) := by
  intro n
  induction n with
  | zero => intro x0 x1 x2 x3 x4 x5 h; rw [fX13_gains_l13]; exact p2_none
  | succ n ih =>
    intro x0 x1 x2 x3 x4 x5 h
    rw [fX13_gains_l13]
    repeat' first | assumption | with_reducible apply KL_sI | with_reducible apply KL_sL | with_reducible apply KL_aI | with_reducible exact p2_none | with_reducible apply p2_some | with_reducible apply p2_ite | with_reducible apply p2_pu | with_reducible apply p2_ck | with_reducible apply p2_zz | with_reducible apply p2_nz | with_reducible apply p2_ld | with_reducible apply p2_st | with_reducible apply p2_b1m | with_reducible apply p2_b1p | with_reducible apply p2_b2 | with_reducible apply ih | with_reducible apply pl_fX13_gathers | with_reducible apply pl_fX13_gains_b46 | intro _
theorem pl_fX13_gains {g : Int64}  {M : Mem} {x1 : Int32} {x2 : Int32} {x3 : Int32} (h : KL g M) : pm2 g (fX13_gains M x1 x2 x3) := by
  unfold fX13_gains
  repeat' first | assumption | with_reducible apply KL_sI | with_reducible apply KL_sL | with_reducible apply KL_aI | with_reducible exact p2_none | with_reducible apply p2_some | with_reducible apply p2_ite | with_reducible apply p2_pu | with_reducible apply p2_ck | with_reducible apply p2_zz | with_reducible apply p2_nz | with_reducible apply p2_ld | with_reducible apply p2_st | with_reducible apply p2_b1m | with_reducible apply p2_b1p | with_reducible apply p2_b2 | with_reducible apply pl_fX13_lays0 | with_reducible apply pl_fX13_gains_l13 | intro _
theorem pl_fX13_game_b189 {g : Int64} {a59 : Mem → Int32 → Int32 → Int32 → Int32 → Int32 → Int32 → Option (Int32 × Mem)} (ha59 : ∀ (y0 : Mem) (y1 : Int32) (y2 : Int32) (y3 : Int32) (y4 : Int32) (y5 : Int32) (y6 : Int32), KL g y0 → pm2 g (a59 y0 y1 y2 y3 y4 y5 y6)) {M : Mem} {x1 : Int32} {x2 : Int32} {x3 : Int32} {x4 : Int32} {x5 : Int32} {x6 : Int32} (h : KL g M) : pm2 g (fX13_game_b189 a59 M x1 x2 x3 x4 x5 x6) := by
  unfold fX13_game_b189
  repeat' first | assumption | with_reducible apply KL_sI | with_reducible apply KL_sL | with_reducible apply KL_aI | with_reducible exact p2_none | with_reducible apply p2_some | with_reducible apply p2_ite | with_reducible apply p2_pu | with_reducible apply p2_ck | with_reducible apply p2_zz | with_reducible apply p2_nz | with_reducible apply p2_ld | with_reducible apply p2_st | with_reducible apply p2_b1m | with_reducible apply p2_b1p | with_reducible apply p2_b2 | with_reducible apply ha59 | intro _
theorem pl_fX13_game_b119 {g : Int64} {a59 : Mem → Int32 → Int32 → Int32 → Int32 → Int32 → Int32 → Option (Int32 × Mem)} (ha59 : ∀ (y0 : Mem) (y1 : Int32) (y2 : Int32) (y3 : Int32) (y4 : Int32) (y5 : Int32) (y6 : Int32), KL g y0 → pm2 g (a59 y0 y1 y2 y3 y4 y5 y6)) {M : Mem} {x1 : Int32} {x2 : Int32} {x3 : Int32} {x4 : Int32} {x5 : Int32} {x6 : Int32} {x7 : Int32} {x8 : Int32} {x9 : Int32} {s0 : Int32} (h : KL g M) : pm2 g (fX13_game_b119 a59 M x1 x2 x3 x4 x5 x6 x7 x8 x9 s0) := by
  unfold fX13_game_b119
  repeat' first | assumption | with_reducible apply KL_sI | with_reducible apply KL_sL | with_reducible apply KL_aI | with_reducible exact p2_none | with_reducible apply p2_some | with_reducible apply p2_ite | with_reducible apply p2_pu | with_reducible apply p2_ck | with_reducible apply p2_zz | with_reducible apply p2_nz | with_reducible apply p2_ld | with_reducible apply p2_st | with_reducible apply p2_b1m | with_reducible apply p2_b1p | with_reducible apply p2_b2 | with_reducible apply ha59 | with_reducible apply pl_fX13_gains | with_reducible apply pl_fX13_game_b189 | intro _
theorem pl_fX13_game_b105 {g : Int64} {a59 : Mem → Int32 → Int32 → Int32 → Int32 → Int32 → Int32 → Option (Int32 × Mem)} (ha59 : ∀ (y0 : Mem) (y1 : Int32) (y2 : Int32) (y3 : Int32) (y4 : Int32) (y5 : Int32) (y6 : Int32), KL g y0 → pm2 g (a59 y0 y1 y2 y3 y4 y5 y6)) {M : Mem} {x1 : Int32} {x2 : Int32} {x3 : Int32} {x4 : Int32} {x5 : Int32} {x6 : Int32} {x7 : Int32} {x8 : Int32} {s0 : Int32} (h : KL g M) : pm2 g (fX13_game_b105 a59 M x1 x2 x3 x4 x5 x6 x7 x8 s0) := by
  unfold fX13_game_b105
  repeat' first | assumption | with_reducible apply KL_sI | with_reducible apply KL_sL | with_reducible apply KL_aI | with_reducible exact p2_none | with_reducible apply p2_some | with_reducible apply p2_ite | with_reducible apply p2_pu | with_reducible apply p2_ck | with_reducible apply p2_zz | with_reducible apply p2_nz | with_reducible apply p2_ld | with_reducible apply p2_st | with_reducible apply p2_b1m | with_reducible apply p2_b1p | with_reducible apply p2_b2 | with_reducible apply ha59 | with_reducible apply pl_fX13_game_b119 | intro _
theorem pl_fX13_game_b91 {g : Int64} {a59 : Mem → Int32 → Int32 → Int32 → Int32 → Int32 → Int32 → Option (Int32 × Mem)} (ha59 : ∀ (y0 : Mem) (y1 : Int32) (y2 : Int32) (y3 : Int32) (y4 : Int32) (y5 : Int32) (y6 : Int32), KL g y0 → pm2 g (a59 y0 y1 y2 y3 y4 y5 y6)) {M : Mem} {x1 : Int32} {x2 : Int32} {x3 : Int32} {x4 : Int32} {x5 : Int32} {x6 : Int32} {x7 : Int32} {s0 : Int32} (h : KL g M) : pm2 g (fX13_game_b91 a59 M x1 x2 x3 x4 x5 x6 x7 s0) := by
  unfold fX13_game_b91
  repeat' first | assumption | with_reducible apply KL_sI | with_reducible apply KL_sL | with_reducible apply KL_aI | with_reducible exact p2_none | with_reducible apply p2_some | with_reducible apply p2_ite | with_reducible apply p2_pu | with_reducible apply p2_ck | with_reducible apply p2_zz | with_reducible apply p2_nz | with_reducible apply p2_ld | with_reducible apply p2_st | with_reducible apply p2_b1m | with_reducible apply p2_b1p | with_reducible apply p2_b2 | with_reducible apply ha59 | with_reducible apply pl_fX13_game_b105 | intro _
theorem pl_fX13_game_b77 {g : Int64} {a59 : Mem → Int32 → Int32 → Int32 → Int32 → Int32 → Int32 → Option (Int32 × Mem)} (ha59 : ∀ (y0 : Mem) (y1 : Int32) (y2 : Int32) (y3 : Int32) (y4 : Int32) (y5 : Int32) (y6 : Int32), KL g y0 → pm2 g (a59 y0 y1 y2 y3 y4 y5 y6)) {M : Mem} {x1 : Int32} {x2 : Int32} {x3 : Int32} {x4 : Int32} {x5 : Int32} {x6 : Int32} {s0 : Int32} (h : KL g M) : pm2 g (fX13_game_b77 a59 M x1 x2 x3 x4 x5 x6 s0) := by
  unfold fX13_game_b77
  repeat' first | assumption | with_reducible apply KL_sI | with_reducible apply KL_sL | with_reducible apply KL_aI | with_reducible exact p2_none | with_reducible apply p2_some | with_reducible apply p2_ite | with_reducible apply p2_pu | with_reducible apply p2_ck | with_reducible apply p2_zz | with_reducible apply p2_nz | with_reducible apply p2_ld | with_reducible apply p2_st | with_reducible apply p2_b1m | with_reducible apply p2_b1p | with_reducible apply p2_b2 | with_reducible apply ha59 | with_reducible apply pl_fX13_game_b91 | intro _
theorem pl_fX13_game_l59 {g : Int64}  : ∀ (n : Nat) (x0 : Mem) (x1 : Int32) (x2 : Int32) (x3 : Int32) (x4 : Int32) (x5 : Int32) (x6 : Int32), KL g x0 → pm2 g (fX13_game_l59 n x0 x1 x2 x3 x4 x5 x6) := by
  intro n
  induction n with
  | zero => intro x0 x1 x2 x3 x4 x5 x6 h; rw [fX13_game_l59]; exact p2_none
  | succ n ih =>
    intro x0 x1 x2 x3 x4 x5 x6 h
    rw [fX13_game_l59]
    repeat' first | assumption | with_reducible apply KL_sI | with_reducible apply KL_sL | with_reducible apply KL_aI | with_reducible exact p2_none | with_reducible apply p2_some | with_reducible apply p2_ite | with_reducible apply p2_pu | with_reducible apply p2_ck | with_reducible apply p2_zz | with_reducible apply p2_nz | with_reducible apply p2_ld | with_reducible apply p2_st | with_reducible apply p2_b1m | with_reducible apply p2_b1p | with_reducible apply p2_b2 | with_reducible apply ih | with_reducible apply pl_fX13_game_b77 | intro _
theorem pl_fX13_game_b41 {g : Int64}  {M : Mem} {x1 : Int32} {x2 : Int32} {x3 : Int32} {s0 : Int32} (h : KL g M) : pm2 g (fX13_game_b41 M x1 x2 x3 s0) := by
  unfold fX13_game_b41
  repeat' first | assumption | with_reducible apply KL_sI | with_reducible apply KL_sL | with_reducible apply KL_aI | with_reducible exact p2_none | with_reducible apply p2_some | with_reducible apply p2_ite | with_reducible apply p2_pu | with_reducible apply p2_ck | with_reducible apply p2_zz | with_reducible apply p2_nz | with_reducible apply p2_ld | with_reducible apply p2_st | with_reducible apply p2_b1m | with_reducible apply p2_b1p | with_reducible apply p2_b2 | with_reducible apply pl_fX13_right | with_reducible apply pl_fX13_game_l59 | intro _
theorem pl_fX13_game {g : Int64}  {M : Mem} {x1 : Int32} {x2 : Int32} {x3 : Int32} (h : KL g M) : pm2 g (fX13_game M x1 x2 x3) := by
  unfold fX13_game
  repeat' first | assumption | with_reducible apply KL_sI | with_reducible apply KL_sL | with_reducible apply KL_aI | with_reducible exact p2_none | with_reducible apply p2_some | with_reducible apply p2_ite | with_reducible apply p2_pu | with_reducible apply p2_ck | with_reducible apply p2_zz | with_reducible apply p2_nz | with_reducible apply p2_ld | with_reducible apply p2_st | with_reducible apply p2_b1m | with_reducible apply p2_b1p | with_reducible apply p2_b2 | with_reducible apply pl_fX13_isDeed | with_reducible apply pl_fX13_isWhat | with_reducible apply pl_fX13_game_b41 | intro _
theorem pl_fX13_gift_b35 {g : Int64}  {M : Mem} (h : KL g M) : pm2 g (fX13_gift_b35 M) := by
  unfold fX13_gift_b35
  repeat' first | assumption | with_reducible apply KL_sI | with_reducible apply KL_sL | with_reducible apply KL_aI | with_reducible exact p2_none | with_reducible apply p2_some | with_reducible apply p2_ite | with_reducible apply p2_pu | with_reducible apply p2_ck | with_reducible apply p2_zz | with_reducible apply p2_nz | with_reducible apply p2_ld | with_reducible apply p2_st | with_reducible apply p2_b1m | with_reducible apply p2_b1p | with_reducible apply p2_b2 | with_reducible apply pl_fX13_refuses | intro _
theorem pl_fX13_gift_b89 {g : Int64}  {M : Mem} {x1 : Int32} {s0 : Int32} {s1 : Int32} {s2 : Int32} (h : KL g M) : pm2 g (fX13_gift_b89 M x1 s0 s1 s2) := by
  unfold fX13_gift_b89
  repeat' first | assumption | with_reducible apply KL_sI | with_reducible apply KL_sL | with_reducible apply KL_aI | with_reducible exact p2_none | with_reducible apply p2_some | with_reducible apply p2_ite | with_reducible apply p2_pu | with_reducible apply p2_ck | with_reducible apply p2_zz | with_reducible apply p2_nz | with_reducible apply p2_ld | with_reducible apply p2_st | with_reducible apply p2_b1m | with_reducible apply p2_b1p | with_reducible apply p2_b2 | intro _
theorem pl_fX13_gift {g : Int64}  {M : Mem} {x1 : Int32} {x2 : Int32} (h : KL g M) : pm2 g (fX13_gift M x1 x2) := by
  unfold fX13_gift
  repeat' first | assumption | with_reducible apply KL_sI | with_reducible apply KL_sL | with_reducible apply KL_aI | with_reducible exact p2_none | with_reducible apply p2_some | with_reducible apply p2_ite | with_reducible apply p2_pu | with_reducible apply p2_ck | with_reducible apply p2_zz | with_reducible apply p2_nz | with_reducible apply p2_ld | with_reducible apply p2_st | with_reducible apply p2_b1m | with_reducible apply p2_b1p | with_reducible apply p2_b2 | with_reducible apply pl_fX13_isFriend | with_reducible apply pl_fX13_gift_b35 | with_reducible apply pl_fX13_keeps | with_reducible apply pl_fX13_gift_b89 | intro _
theorem pl_fX13_gloryIn {g : Int64}  {M : Mem} {x1 : Int32} (h : KL g M) : pm2 g (fX13_gloryIn M x1) := by
  unfold fX13_gloryIn
  repeat' first | assumption | with_reducible apply KL_sI | with_reducible apply KL_sL | with_reducible apply KL_aI | with_reducible exact p2_none | with_reducible apply p2_some | with_reducible apply p2_ite | with_reducible apply p2_pu | with_reducible apply p2_ck | with_reducible apply p2_zz | with_reducible apply p2_nz | with_reducible apply p2_ld | with_reducible apply p2_st | with_reducible apply p2_b1m | with_reducible apply p2_b1p | with_reducible apply p2_b2 | with_reducible apply pl_fX13_lays0 | with_reducible apply pl_fX13_goesYears | intro _
theorem pl_fX13_guarded_b95 {g : Int64} {a36 : Mem → Int32 → Int32 → Int32 → Option (Int32 × Mem)} (ha36 : ∀ (y0 : Mem) (y1 : Int32) (y2 : Int32) (y3 : Int32), KL g y0 → pm2 g (a36 y0 y1 y2 y3)) {M : Mem} {x1 : Int32} {x3 : Int32} {s0 : Int32} (h : KL g M) : pm2 g (fX13_guarded_b95 a36 M x1 x3 s0) := by
  unfold fX13_guarded_b95
  repeat' first | assumption | with_reducible apply KL_sI | with_reducible apply KL_sL | with_reducible apply KL_aI | with_reducible exact p2_none | with_reducible apply p2_some | with_reducible apply p2_ite | with_reducible apply p2_pu | with_reducible apply p2_ck | with_reducible apply p2_zz | with_reducible apply p2_nz | with_reducible apply p2_ld | with_reducible apply p2_st | with_reducible apply p2_b1m | with_reducible apply p2_b1p | with_reducible apply p2_b2 | with_reducible apply ha36 | intro _
theorem pl_fX13_guarded_b70 {g : Int64} {a36 : Mem → Int32 → Int32 → Int32 → Option (Int32 × Mem)} (ha36 : ∀ (y0 : Mem) (y1 : Int32) (y2 : Int32) (y3 : Int32), KL g y0 → pm2 g (a36 y0 y1 y2 y3)) {M : Mem} {x1 : Int32} {x2 : Int32} {x3 : Int32} {s0 : Int32} {s1 : Int32} (h : KL g M) : pm2 g (fX13_guarded_b70 a36 M x1 x2 x3 s0 s1) := by
  unfold fX13_guarded_b70
  repeat' first | assumption | with_reducible apply KL_sI | with_reducible apply KL_sL | with_reducible apply KL_aI | with_reducible exact p2_none | with_reducible apply p2_some | with_reducible apply p2_ite | with_reducible apply p2_pu | with_reducible apply p2_ck | with_reducible apply p2_zz | with_reducible apply p2_nz | with_reducible apply p2_ld | with_reducible apply p2_st | with_reducible apply p2_b1m | with_reducible apply p2_b1p | with_reducible apply p2_b2 | with_reducible apply ha36 | with_reducible apply pl_fX13_guarded_b95 | intro _
theorem pl_fX13_guarded_l36 {g : Int64}  : ∀ (n : Nat) (x0 : Mem) (x1 : Int32) (x2 : Int32) (x3 : Int32), KL g x0 → pm2 g (fX13_guarded_l36 n x0 x1 x2 x3) := by
  intro n
  induction n with
  | zero => intro x0 x1 x2 x3 h; rw [fX13_guarded_l36]; exact p2_none
  | succ n ih =>
    intro x0 x1 x2 x3 h
    rw [fX13_guarded_l36]
    repeat' first | assumption | with_reducible apply KL_sI | with_reducible apply KL_sL | with_reducible apply KL_aI | with_reducible exact p2_none | with_reducible apply p2_some | with_reducible apply p2_ite | with_reducible apply p2_pu | with_reducible apply p2_ck | with_reducible apply p2_zz | with_reducible apply p2_nz | with_reducible apply p2_ld | with_reducible apply p2_st | with_reducible apply p2_b1m | with_reducible apply p2_b1p | with_reducible apply p2_b2 | with_reducible apply ih | with_reducible apply pl_fX13_guarded_b70 | intro _
theorem pl_fX13_guarded_b23 {g : Int64}  {M : Mem} {x1 : Int32} {s0 : Int32} (h : KL g M) : pm2 g (fX13_guarded_b23 M x1 s0) := by
  unfold fX13_guarded_b23
  repeat' first | assumption | with_reducible apply KL_sI | with_reducible apply KL_sL | with_reducible apply KL_aI | with_reducible exact p2_none | with_reducible apply p2_some | with_reducible apply p2_ite | with_reducible apply p2_pu | with_reducible apply p2_ck | with_reducible apply p2_zz | with_reducible apply p2_nz | with_reducible apply p2_ld | with_reducible apply p2_st | with_reducible apply p2_b1m | with_reducible apply p2_b1p | with_reducible apply p2_b2 | with_reducible apply pl_fX13_right | with_reducible apply pl_fX13_guarded_l36 | intro _
theorem pl_fX13_guarded_b22 {g : Int64}  {M : Mem} {x1 : Int32} (h : KL g M) : pm2 g (fX13_guarded_b22 M x1) := by
  unfold fX13_guarded_b22
  repeat' first | assumption | with_reducible apply KL_sI | with_reducible apply KL_sL | with_reducible apply KL_aI | with_reducible exact p2_none | with_reducible apply p2_some | with_reducible apply p2_ite | with_reducible apply p2_pu | with_reducible apply p2_ck | with_reducible apply p2_zz | with_reducible apply p2_nz | with_reducible apply p2_ld | with_reducible apply p2_st | with_reducible apply p2_b1m | with_reducible apply p2_b1p | with_reducible apply p2_b2 | with_reducible apply pl_fX13_guarded_b23 | intro _
theorem pl_fX13_guarded {g : Int64}  {M : Mem} {x1 : Int32} (h : KL g M) : pm2 g (fX13_guarded M x1) := by
  unfold fX13_guarded
  repeat' first | assumption | with_reducible apply KL_sI | with_reducible apply KL_sL | with_reducible apply KL_aI | with_reducible exact p2_none | with_reducible apply p2_some | with_reducible apply p2_ite | with_reducible apply p2_pu | with_reducible apply p2_ck | with_reducible apply p2_zz | with_reducible apply p2_nz | with_reducible apply p2_ld | with_reducible apply p2_st | with_reducible apply p2_b1m | with_reducible apply p2_b1p | with_reducible apply p2_b2 | with_reducible apply pl_fX13_guarded_b22 | with_reducible apply pl_fX13_guarded_b23 | intro _
theorem pl_fX13_highest_b75 {g : Int64} {a35 : Mem → Int32 → Int32 → Int32 → Int32 → Option (Int32 × Mem)} (ha35 : ∀ (y0 : Mem) (y1 : Int32) (y2 : Int32) (y3 : Int32) (y4 : Int32), KL g y0 → pm2 g (a35 y0 y1 y2 y3 y4)) {M : Mem} {x1 : Int32} {x2 : Int32} {x3 : Int32} {x4 : Int32} (h : KL g M) : pm2 g (fX13_highest_b75 a35 M x1 x2 x3 x4) := by
  unfold fX13_highest_b75
  repeat' first | assumption | with_reducible apply KL_sI | with_reducible apply KL_sL | with_reducible apply KL_aI | with_reducible exact p2_none | with_reducible apply p2_some | with_reducible apply p2_ite | with_reducible apply p2_pu | with_reducible apply p2_ck | with_reducible apply p2_zz | with_reducible apply p2_nz | with_reducible apply p2_ld | with_reducible apply p2_st | with_reducible apply p2_b1m | with_reducible apply p2_b1p | with_reducible apply p2_b2 | with_reducible apply ha35 | intro _
theorem pl_fX13_highest_l35 {g : Int64}  : ∀ (n : Nat) (x0 : Mem) (x1 : Int32) (x2 : Int32) (x3 : Int32) (x4 : Int32), KL g x0 → pm2 g (fX13_highest_l35 n x0 x1 x2 x3 x4) := by
  intro n
  induction n with
  | zero => intro x0 x1 x2 x3 x4 h; rw [fX13_highest_l35]; exact p2_none
  | succ n ih =>
    intro x0 x1 x2 x3 x4 h
    rw [fX13_highest_l35]
    repeat' first | assumption | with_reducible apply KL_sI | with_reducible apply KL_sL | with_reducible apply KL_aI | with_reducible exact p2_none | with_reducible apply p2_some | with_reducible apply p2_ite | with_reducible apply p2_pu | with_reducible apply p2_ck | with_reducible apply p2_zz | with_reducible apply p2_nz | with_reducible apply p2_ld | with_reducible apply p2_st | with_reducible apply p2_b1m | with_reducible apply p2_b1p | with_reducible apply p2_b2 | with_reducible apply ih | with_reducible apply pl_fX13_goesBy | with_reducible apply pl_fX13_highest_b75 | intro _
theorem pl_fX13_highest {g : Int64}  {M : Mem} {x1 : Int32} (h : KL g M) : pm2 g (fX13_highest M x1) := by
  unfold fX13_highest
  repeat' first | assumption | with_reducible apply KL_sI | with_reducible apply KL_sL | with_reducible apply KL_aI | with_reducible exact p2_none | with_reducible apply p2_some | with_reducible apply p2_ite | with_reducible apply p2_pu | with_reducible apply p2_ck | with_reducible apply p2_zz | with_reducible apply p2_nz | with_reducible apply p2_ld | with_reducible apply p2_st | with_reducible apply p2_b1m | with_reducible apply p2_b1p | with_reducible apply p2_b2 | with_reducible apply pl_fX13_isWhat | with_reducible apply pl_fX13_lays0 | with_reducible apply pl_fX13_highest_l35 | intro _
theorem pl_fX13_image_l28 {g : Int64}  : ∀ (n : Nat) (x0 : Mem) (x1 : Int32), KL g x0 → pm1 g (fX13_image_l28 n x0 x1) := by
  intro n
  induction n with
  | zero => intro x0 x1 h; rw [fX13_image_l28]; exact p1_none
  | succ n ih =>
    intro x0 x1 h
    rw [fX13_image_l28]
    repeat' first | assumption | with_reducible apply KL_sI | with_reducible apply KL_sL | with_reducible apply KL_aI | with_reducible exact p1_none | with_reducible apply p1_some | with_reducible apply p1_ite | with_reducible apply p1_pu | with_reducible apply p1_ck | with_reducible apply p1_zz | with_reducible apply p1_nz | with_reducible apply p1_ld | with_reducible apply p1_st | with_reducible apply p1_b1m | with_reducible apply p1_b1p | with_reducible apply p1_b2 | with_reducible apply ih | with_reducible apply pl_fX13_copies | intro _
theorem pl_fX13_image {g : Int64}  {M : Mem} (h : KL g M) : pm1 g (fX13_image M) := by
  unfold fX13_image
  repeat' first | assumption | with_reducible apply KL_sI | with_reducible apply KL_sL | with_reducible apply KL_aI | with_reducible exact p1_none | with_reducible apply p1_some | with_reducible apply p1_ite | with_reducible apply p1_pu | with_reducible apply p1_ck | with_reducible apply p1_zz | with_reducible apply p1_nz | with_reducible apply p1_ld | with_reducible apply p1_st | with_reducible apply p1_b1m | with_reducible apply p1_b1p | with_reducible apply p1_b2 | with_reducible apply pl_fX13_image_l28 | intro _
theorem pl_fX13_number_b54 {g : Int64}  {M : Mem} (h : KL g M) : pm2 g (fX13_number_b54 M) := by
  unfold fX13_number_b54
  repeat' first | assumption | with_reducible apply KL_sI | with_reducible apply KL_sL | with_reducible apply KL_aI | with_reducible exact p2_none | with_reducible apply p2_some | with_reducible apply p2_ite | with_reducible apply p2_pu | with_reducible apply p2_ck | with_reducible apply p2_zz | with_reducible apply p2_nz | with_reducible apply p2_ld | with_reducible apply p2_st | with_reducible apply p2_b1m | with_reducible apply p2_b1p | with_reducible apply p2_b2 | with_reducible apply pl_fX13_goes | intro _
theorem pl_fX13_number_b49 {g : Int64}  {M : Mem} (h : KL g M) : pm2 g (fX13_number_b49 M) := by
  unfold fX13_number_b49
  repeat' first | assumption | with_reducible apply KL_sI | with_reducible apply KL_sL | with_reducible apply KL_aI | with_reducible exact p2_none | with_reducible apply p2_some | with_reducible apply p2_ite | with_reducible apply p2_pu | with_reducible apply p2_ck | with_reducible apply p2_zz | with_reducible apply p2_nz | with_reducible apply p2_ld | with_reducible apply p2_st | with_reducible apply p2_b1m | with_reducible apply p2_b1p | with_reducible apply p2_b2 | with_reducible apply pl_fX13_wrong | with_reducible apply pl_fX13_number_b54 | intro _
theorem pl_fX13_number {g : Int64}  {M : Mem} {x1 : Int32} {x2 : Int32} (h : KL g M) : pm2 g (fX13_number M x1 x2) := by
  unfold fX13_number
  repeat' first | assumption | with_reducible apply KL_sI | with_reducible apply KL_sL | with_reducible apply KL_aI | with_reducible exact p2_none | with_reducible apply p2_some | with_reducible apply p2_ite | with_reducible apply p2_pu | with_reducible apply p2_ck | with_reducible apply p2_zz | with_reducible apply p2_nz | with_reducible apply p2_ld | with_reducible apply p2_st | with_reducible apply p2_b1m | with_reducible apply p2_b1p | with_reducible apply p2_b2 | with_reducible apply pl_fX13_number_b49 | with_reducible apply pl_fX13_number_b54 | with_reducible apply pl_fX13_wrong | intro _
theorem pl_fX13_readsCity_b12 {g : Int64}  {M : Mem} (h : KL g M) : pm1 g (fX13_readsCity_b12 M) := by
  unfold fX13_readsCity_b12
  repeat' first | assumption | with_reducible apply KL_sI | with_reducible apply KL_sL | with_reducible apply KL_aI | with_reducible exact p1_none | with_reducible apply p1_some | with_reducible apply p1_ite | with_reducible apply p1_pu | with_reducible apply p1_ck | with_reducible apply p1_zz | with_reducible apply p1_nz | with_reducible apply p1_ld | with_reducible apply p1_st | with_reducible apply p1_b1m | with_reducible apply p1_b1p | with_reducible apply p1_b2 | with_reducible apply pl_fX13_goes | with_reducible apply pl_fX13_number | intro _
theorem pl_fX13_readsCity {g : Int64}  {M : Mem} (h : KL g M) : pm1 g (fX13_readsCity M) := by
  unfold fX13_readsCity
  repeat' first | assumption | with_reducible apply KL_sI | with_reducible apply KL_sL | with_reducible apply KL_aI | with_reducible exact p1_none | with_reducible apply p1_some | with_reducible apply p1_ite | with_reducible apply p1_pu | with_reducible apply p1_ck | with_reducible apply p1_zz | with_reducible apply p1_nz | with_reducible apply p1_ld | with_reducible apply p1_st | with_reducible apply p1_b1m | with_reducible apply p1_b1p | with_reducible apply p1_b2 | with_reducible apply pl_fX13_readsCity_b12 | with_reducible apply pl_fX13_wrong | intro _
theorem pl_fX13_signed_b22 {g : Int64}  {M : Mem} {x1 : Int32} {x2 : Int32} (h : KL g M) : pm2 g (fX13_signed_b22 M x1 x2) := by
  unfold fX13_signed_b22
  repeat' first | assumption | with_reducible apply KL_sI | with_reducible apply KL_sL | with_reducible apply KL_aI | with_reducible exact p2_none | with_reducible apply p2_some | with_reducible apply p2_ite | with_reducible apply p2_pu | with_reducible apply p2_ck | with_reducible apply p2_zz | with_reducible apply p2_nz | with_reducible apply p2_ld | with_reducible apply p2_st | with_reducible apply p2_b1m | with_reducible apply p2_b1p | with_reducible apply p2_b2 | with_reducible apply pl_fX13_number | intro _
theorem pl_fX13_signed {g : Int64}  {M : Mem} {x1 : Int32} (h : KL g M) : pm2 g (fX13_signed M x1) := by
  unfold fX13_signed
  repeat' first | assumption | with_reducible apply KL_sI | with_reducible apply KL_sL | with_reducible apply KL_aI | with_reducible exact p2_none | with_reducible apply p2_some | with_reducible apply p2_ite | with_reducible apply p2_pu | with_reducible apply p2_ck | with_reducible apply p2_zz | with_reducible apply p2_nz | with_reducible apply p2_ld | with_reducible apply p2_st | with_reducible apply p2_b1m | with_reducible apply p2_b1p | with_reducible apply p2_b2 | with_reducible apply pl_fX13_signed_b22 | with_reducible apply pl_fX13_goes | intro _
theorem pl_fX13_readsDeed_b14 {g : Int64}  {M : Mem} (h : KL g M) : pm1 g (fX13_readsDeed_b14 M) := by
  unfold fX13_readsDeed_b14
  repeat' first | assumption | with_reducible apply KL_sI | with_reducible apply KL_sL | with_reducible apply KL_aI | with_reducible exact p1_none | with_reducible apply p1_some | with_reducible apply p1_ite | with_reducible apply p1_pu | with_reducible apply p1_ck | with_reducible apply p1_zz | with_reducible apply p1_nz | with_reducible apply p1_ld | with_reducible apply p1_st | with_reducible apply p1_b1m | with_reducible apply p1_b1p | with_reducible apply p1_b2 | with_reducible apply pl_fX13_goes | with_reducible apply pl_fX13_number | with_reducible apply pl_fX13_signed | intro _
theorem pl_fX13_readsDeed {g : Int64}  {M : Mem} (h : KL g M) : pm1 g (fX13_readsDeed M) := by
  unfold fX13_readsDeed
  repeat' first | assumption | with_reducible apply KL_sI | with_reducible apply KL_sL | with_reducible apply KL_aI | with_reducible exact p1_none | with_reducible apply p1_some | with_reducible apply p1_ite | with_reducible apply p1_pu | with_reducible apply p1_ck | with_reducible apply p1_zz | with_reducible apply p1_nz | with_reducible apply p1_ld | with_reducible apply p1_st | with_reducible apply p1_b1m | with_reducible apply p1_b1p | with_reducible apply p1_b2 | with_reducible apply pl_fX13_wrong | with_reducible apply pl_fX13_readsDeed_b14 | intro _
theorem pl_fX13_readsWay_b123 {g : Int64} {a28 : Mem → Int32 → Int32 → Option Mem} (ha28 : ∀ (y0 : Mem) (y1 : Int32) (y2 : Int32), KL g y0 → pm1 g (a28 y0 y1 y2)) {M : Mem} {x1 : Int32} {s0 : Int32} (h : KL g M) : pm1 g (fX13_readsWay_b123 a28 M x1 s0) := by
  unfold fX13_readsWay_b123
  repeat' first | assumption | with_reducible apply KL_sI | with_reducible apply KL_sL | with_reducible apply KL_aI | with_reducible exact p1_none | with_reducible apply p1_some | with_reducible apply p1_ite | with_reducible apply p1_pu | with_reducible apply p1_ck | with_reducible apply p1_zz | with_reducible apply p1_nz | with_reducible apply p1_ld | with_reducible apply p1_st | with_reducible apply p1_b1m | with_reducible apply p1_b1p | with_reducible apply p1_b2 | with_reducible apply ha28 | intro _
theorem pl_fX13_readsWay_b63 {g : Int64} {a28 : Mem → Int32 → Int32 → Option Mem} (ha28 : ∀ (y0 : Mem) (y1 : Int32) (y2 : Int32), KL g y0 → pm1 g (a28 y0 y1 y2)) {M : Mem} {x1 : Int32} (h : KL g M) : pm1 g (fX13_readsWay_b63 a28 M x1) := by
  unfold fX13_readsWay_b63
  repeat' first | assumption | with_reducible apply KL_sI | with_reducible apply KL_sL | with_reducible apply KL_aI | with_reducible exact p1_none | with_reducible apply p1_some | with_reducible apply p1_ite | with_reducible apply p1_pu | with_reducible apply p1_ck | with_reducible apply p1_zz | with_reducible apply p1_nz | with_reducible apply p1_ld | with_reducible apply p1_st | with_reducible apply p1_b1m | with_reducible apply p1_b1p | with_reducible apply p1_b2 | with_reducible apply ha28 | with_reducible apply pl_fX13_among | with_reducible apply pl_fX13_readsWay_b123 | intro _
theorem pl_fX13_readsWay_l28 {g : Int64}  : ∀ (n : Nat) (x0 : Mem) (x1 : Int32) (x2 : Int32), KL g x0 → pm1 g (fX13_readsWay_l28 n x0 x1 x2) := by
  intro n
  induction n with
  | zero => intro x0 x1 x2 h; rw [fX13_readsWay_l28]; exact p1_none
  | succ n ih =>
    intro x0 x1 x2 h
    rw [fX13_readsWay_l28]
    repeat' first | assumption | with_reducible apply KL_sI | with_reducible apply KL_sL | with_reducible apply KL_aI | with_reducible exact p1_none | with_reducible apply p1_some | with_reducible apply p1_ite | with_reducible apply p1_pu | with_reducible apply p1_ck | with_reducible apply p1_zz | with_reducible apply p1_nz | with_reducible apply p1_ld | with_reducible apply p1_st | with_reducible apply p1_b1m | with_reducible apply p1_b1p | with_reducible apply p1_b2 | with_reducible apply ih | with_reducible apply pl_fX13_wrong | with_reducible apply pl_fX13_readsWay_b63 | intro _
theorem pl_fX13_readsWay_b14 {g : Int64}  {M : Mem} {x1 : Int32} (h : KL g M) : pm1 g (fX13_readsWay_b14 M x1) := by
  unfold fX13_readsWay_b14
  repeat' first | assumption | with_reducible apply KL_sI | with_reducible apply KL_sL | with_reducible apply KL_aI | with_reducible exact p1_none | with_reducible apply p1_some | with_reducible apply p1_ite | with_reducible apply p1_pu | with_reducible apply p1_ck | with_reducible apply p1_zz | with_reducible apply p1_nz | with_reducible apply p1_ld | with_reducible apply p1_st | with_reducible apply p1_b1m | with_reducible apply p1_b1p | with_reducible apply p1_b2 | with_reducible apply pl_fX13_goes | with_reducible apply pl_fX13_readsWay_l28 | intro _
theorem pl_fX13_readsWay {g : Int64}  {M : Mem} {x1 : Int32} (h : KL g M) : pm1 g (fX13_readsWay M x1) := by
  unfold fX13_readsWay
  repeat' first | assumption | with_reducible apply KL_sI | with_reducible apply KL_sL | with_reducible apply KL_aI | with_reducible exact p1_none | with_reducible apply p1_some | with_reducible apply p1_ite | with_reducible apply p1_pu | with_reducible apply p1_ck | with_reducible apply p1_zz | with_reducible apply p1_nz | with_reducible apply p1_ld | with_reducible apply p1_st | with_reducible apply p1_b1m | with_reducible apply p1_b1p | with_reducible apply p1_b2 | with_reducible apply pl_fX13_wrong | with_reducible apply pl_fX13_readsWay_b14 | intro _
theorem pl_fX13_readsHarvests_b108 {g : Int64} {a26 : Mem → Int32 → Option Mem} (ha26 : ∀ (y0 : Mem) (y1 : Int32), KL g y0 → pm1 g (a26 y0 y1)) {M : Mem} {s0 : Int32} (h : KL g M) : pm1 g (fX13_readsHarvests_b108 a26 M s0) := by
  unfold fX13_readsHarvests_b108
  repeat' first | assumption | with_reducible apply KL_sI | with_reducible apply KL_sL | with_reducible apply KL_aI | with_reducible exact p1_none | with_reducible apply p1_some | with_reducible apply p1_ite | with_reducible apply p1_pu | with_reducible apply p1_ck | with_reducible apply p1_zz | with_reducible apply p1_nz | with_reducible apply p1_ld | with_reducible apply p1_st | with_reducible apply p1_b1m | with_reducible apply p1_b1p | with_reducible apply p1_b2 | with_reducible apply ha26 | intro _
theorem pl_fX13_readsHarvests_b59 {g : Int64} {a26 : Mem → Int32 → Option Mem} (ha26 : ∀ (y0 : Mem) (y1 : Int32), KL g y0 → pm1 g (a26 y0 y1)) {M : Mem} (h : KL g M) : pm1 g (fX13_readsHarvests_b59 a26 M) := by
  unfold fX13_readsHarvests_b59
  repeat' first | assumption | with_reducible apply KL_sI | with_reducible apply KL_sL | with_reducible apply KL_aI | with_reducible exact p1_none | with_reducible apply p1_some | with_reducible apply p1_ite | with_reducible apply p1_pu | with_reducible apply p1_ck | with_reducible apply p1_zz | with_reducible apply p1_nz | with_reducible apply p1_ld | with_reducible apply p1_st | with_reducible apply p1_b1m | with_reducible apply p1_b1p | with_reducible apply p1_b2 | with_reducible apply ha26 | with_reducible apply pl_fX13_number | with_reducible apply pl_fX13_readsHarvests_b108 | intro _
theorem pl_fX13_readsHarvests_l26 {g : Int64}  : ∀ (n : Nat) (x0 : Mem) (x1 : Int32), KL g x0 → pm1 g (fX13_readsHarvests_l26 n x0 x1) := by
  intro n
  induction n with
  | zero => intro x0 x1 h; rw [fX13_readsHarvests_l26]; exact p1_none
  | succ n ih =>
    intro x0 x1 h
    rw [fX13_readsHarvests_l26]
    repeat' first | assumption | with_reducible apply KL_sI | with_reducible apply KL_sL | with_reducible apply KL_aI | with_reducible exact p1_none | with_reducible apply p1_some | with_reducible apply p1_ite | with_reducible apply p1_pu | with_reducible apply p1_ck | with_reducible apply p1_zz | with_reducible apply p1_nz | with_reducible apply p1_ld | with_reducible apply p1_st | with_reducible apply p1_b1m | with_reducible apply p1_b1p | with_reducible apply p1_b2 | with_reducible apply ih | with_reducible apply pl_fX13_wrong | with_reducible apply pl_fX13_readsHarvests_b59 | intro _
theorem pl_fX13_readsHarvests_b12 {g : Int64}  {M : Mem} (h : KL g M) : pm1 g (fX13_readsHarvests_b12 M) := by
  unfold fX13_readsHarvests_b12
  repeat' first | assumption | with_reducible apply KL_sI | with_reducible apply KL_sL | with_reducible apply KL_aI | with_reducible exact p1_none | with_reducible apply p1_some | with_reducible apply p1_ite | with_reducible apply p1_pu | with_reducible apply p1_ck | with_reducible apply p1_zz | with_reducible apply p1_nz | with_reducible apply p1_ld | with_reducible apply p1_st | with_reducible apply p1_b1m | with_reducible apply p1_b1p | with_reducible apply p1_b2 | with_reducible apply pl_fX13_goes | with_reducible apply pl_fX13_readsHarvests_l26 | intro _
theorem pl_fX13_readsHarvests {g : Int64}  {M : Mem} (h : KL g M) : pm1 g (fX13_readsHarvests M) := by
  unfold fX13_readsHarvests
  repeat' first | assumption | with_reducible apply KL_sI | with_reducible apply KL_sL | with_reducible apply KL_aI | with_reducible exact p1_none | with_reducible apply p1_some | with_reducible apply p1_ite | with_reducible apply p1_pu | with_reducible apply p1_ck | with_reducible apply p1_zz | with_reducible apply p1_nz | with_reducible apply p1_ld | with_reducible apply p1_st | with_reducible apply p1_b1m | with_reducible apply p1_b1p | with_reducible apply p1_b2 | with_reducible apply pl_fX13_wrong | with_reducible apply pl_fX13_readsHarvests_b12 | intro _
theorem pl_fX13_readsFriend_b14 {g : Int64}  {M : Mem} (h : KL g M) : pm1 g (fX13_readsFriend_b14 M) := by
  unfold fX13_readsFriend_b14
  repeat' first | assumption | with_reducible apply KL_sI | with_reducible apply KL_sL | with_reducible apply KL_aI | with_reducible exact p1_none | with_reducible apply p1_some | with_reducible apply p1_ite | with_reducible apply p1_pu | with_reducible apply p1_ck | with_reducible apply p1_zz | with_reducible apply p1_nz | with_reducible apply p1_ld | with_reducible apply p1_st | with_reducible apply p1_b1m | with_reducible apply p1_b1p | with_reducible apply p1_b2 | with_reducible apply pl_fX13_goes | with_reducible apply pl_fX13_signed | with_reducible apply pl_fX13_number | intro _
theorem pl_fX13_readsFriend {g : Int64}  {M : Mem} (h : KL g M) : pm1 g (fX13_readsFriend M) := by
  unfold fX13_readsFriend
  repeat' first | assumption | with_reducible apply KL_sI | with_reducible apply KL_sL | with_reducible apply KL_aI | with_reducible exact p1_none | with_reducible apply p1_some | with_reducible apply p1_ite | with_reducible apply p1_pu | with_reducible apply p1_ck | with_reducible apply p1_zz | with_reducible apply p1_nz | with_reducible apply p1_ld | with_reducible apply p1_st | with_reducible apply p1_b1m | with_reducible apply p1_b1p | with_reducible apply p1_b2 | with_reducible apply pl_fX13_wrong | with_reducible apply pl_fX13_readsFriend_b14 | intro _
theorem pl_fX13_readsFighter_b25 {g : Int64}  {M : Mem} {x1 : Int32} (h : KL g M) : pm1 g (fX13_readsFighter_b25 M x1) := by
  unfold fX13_readsFighter_b25
  repeat' first | assumption | with_reducible apply KL_sI | with_reducible apply KL_sL | with_reducible apply KL_aI | with_reducible exact p1_none | with_reducible apply p1_some | with_reducible apply p1_ite | with_reducible apply p1_pu | with_reducible apply p1_ck | with_reducible apply p1_zz | with_reducible apply p1_nz | with_reducible apply p1_ld | with_reducible apply p1_st | with_reducible apply p1_b1m | with_reducible apply p1_b1p | with_reducible apply p1_b2 | with_reducible apply pl_fX13_goes | with_reducible apply pl_fX13_number | intro _
theorem pl_fX13_readsFighter_b15 {g : Int64}  {M : Mem} {x1 : Int32} {s0 : Int32} (h : KL g M) : pm1 g (fX13_readsFighter_b15 M x1 s0) := by
  unfold fX13_readsFighter_b15
  repeat' first | assumption | with_reducible apply KL_sI | with_reducible apply KL_sL | with_reducible apply KL_aI | with_reducible exact p1_none | with_reducible apply p1_some | with_reducible apply p1_ite | with_reducible apply p1_pu | with_reducible apply p1_ck | with_reducible apply p1_zz | with_reducible apply p1_nz | with_reducible apply p1_ld | with_reducible apply p1_st | with_reducible apply p1_b1m | with_reducible apply p1_b1p | with_reducible apply p1_b2 | with_reducible apply pl_fX13_wrong | with_reducible apply pl_fX13_readsFighter_b25 | intro _
theorem pl_fX13_readsFighter {g : Int64}  {M : Mem} {x1 : Int32} (h : KL g M) : pm1 g (fX13_readsFighter M x1) := by
  unfold fX13_readsFighter
  repeat' first | assumption | with_reducible apply KL_sI | with_reducible apply KL_sL | with_reducible apply KL_aI | with_reducible exact p1_none | with_reducible apply p1_some | with_reducible apply p1_ite | with_reducible apply p1_pu | with_reducible apply p1_ck | with_reducible apply p1_zz | with_reducible apply p1_nz | with_reducible apply p1_ld | with_reducible apply p1_st | with_reducible apply p1_b1m | with_reducible apply p1_b1p | with_reducible apply p1_b2 | with_reducible apply pl_fX13_readsFighter_b15 | intro _
theorem pl_fX13_need {g : Int64}  {M : Mem} {x1 : Int32} (h : KL g M) : pm1 g (fX13_need M x1) := by
  unfold fX13_need
  repeat' first | assumption | with_reducible apply KL_sI | with_reducible apply KL_sL | with_reducible apply KL_aI | with_reducible exact p1_none | with_reducible apply p1_some | with_reducible apply p1_ite | with_reducible apply p1_pu | with_reducible apply p1_ck | with_reducible apply p1_zz | with_reducible apply p1_nz | with_reducible apply p1_ld | with_reducible apply p1_st | with_reducible apply p1_b1m | with_reducible apply p1_b1p | with_reducible apply p1_b2 | with_reducible apply pl_fX13_wrong | with_reducible apply pl_fX13_goes | intro _
theorem pl_fX13_line_b263 {g : Int64}  {M : Mem} (h : KL g M) : pm1 g (fX13_line_b263 M) := by
  unfold fX13_line_b263
  repeat' first | assumption | with_reducible apply KL_sI | with_reducible apply KL_sL | with_reducible apply KL_aI | with_reducible exact p1_none | with_reducible apply p1_some | with_reducible apply p1_ite | with_reducible apply p1_pu | with_reducible apply p1_ck | with_reducible apply p1_zz | with_reducible apply p1_nz | with_reducible apply p1_ld | with_reducible apply p1_st | with_reducible apply p1_b1m | with_reducible apply p1_b1p | with_reducible apply p1_b2 | with_reducible apply pl_fX13_need | intro _
theorem pl_fX13_line_b43 {g : Int64}  {M : Mem} {x1 : Int32} (h : KL g M) : pm1 g (fX13_line_b43 M x1) := by
  unfold fX13_line_b43
  repeat' first | assumption | with_reducible apply KL_sI | with_reducible apply KL_sL | with_reducible apply KL_aI | with_reducible exact p1_none | with_reducible apply p1_some | with_reducible apply p1_ite | with_reducible apply p1_pu | with_reducible apply p1_ck | with_reducible apply p1_zz | with_reducible apply p1_nz | with_reducible apply p1_ld | with_reducible apply p1_st | with_reducible apply p1_b1m | with_reducible apply p1_b1p | with_reducible apply p1_b2 | with_reducible apply pl_fX13_readsWay | with_reducible apply pl_fX13_line_b263 | intro _
theorem pl_fX13_line_b155 {g : Int64}  {M : Mem} {s0 : Int32} (h : KL g M) : pm1 g (fX13_line_b155 M s0) := by
  unfold fX13_line_b155
  repeat' first | assumption | with_reducible apply KL_sI | with_reducible apply KL_sL | with_reducible apply KL_aI | with_reducible exact p1_none | with_reducible apply p1_some | with_reducible apply p1_ite | with_reducible apply p1_pu | with_reducible apply p1_ck | with_reducible apply p1_zz | with_reducible apply p1_nz | with_reducible apply p1_ld | with_reducible apply p1_st | with_reducible apply p1_b1m | with_reducible apply p1_b1p | with_reducible apply p1_b2 | with_reducible apply pl_fX13_readsFighter | with_reducible apply pl_fX13_line_b263 | intro _
theorem pl_fX13_line_b143 {g : Int64}  {M : Mem} {x1 : Int32} (h : KL g M) : pm1 g (fX13_line_b143 M x1) := by
  unfold fX13_line_b143
  repeat' first | assumption | with_reducible apply KL_sI | with_reducible apply KL_sL | with_reducible apply KL_aI | with_reducible exact p1_none | with_reducible apply p1_some | with_reducible apply p1_ite | with_reducible apply p1_pu | with_reducible apply p1_ck | with_reducible apply p1_zz | with_reducible apply p1_nz | with_reducible apply p1_ld | with_reducible apply p1_st | with_reducible apply p1_b1m | with_reducible apply p1_b1p | with_reducible apply p1_b2 | with_reducible apply pl_fX13_line_b155 | intro _
theorem pl_fX13_line_b228 {g : Int64}  {M : Mem} (h : KL g M) : pm1 g (fX13_line_b228 M) := by
  unfold fX13_line_b228
  repeat' first | assumption | with_reducible apply KL_sI | with_reducible apply KL_sL | with_reducible apply KL_aI | with_reducible exact p1_none | with_reducible apply p1_some | with_reducible apply p1_ite | with_reducible apply p1_pu | with_reducible apply p1_ck | with_reducible apply p1_zz | with_reducible apply p1_nz | with_reducible apply p1_ld | with_reducible apply p1_st | with_reducible apply p1_b1m | with_reducible apply p1_b1p | with_reducible apply p1_b2 | with_reducible apply pl_fX13_goes | with_reducible apply pl_fX13_expression | with_reducible apply pl_fX13_line_b263 | intro _
theorem pl_fX13_line_b180 {g : Int64}  {M : Mem} (h : KL g M) : pm1 g (fX13_line_b180 M) := by
  unfold fX13_line_b180
  repeat' first | assumption | with_reducible apply KL_sI | with_reducible apply KL_sL | with_reducible apply KL_aI | with_reducible exact p1_none | with_reducible apply p1_some | with_reducible apply p1_ite | with_reducible apply p1_pu | with_reducible apply p1_ck | with_reducible apply p1_zz | with_reducible apply p1_nz | with_reducible apply p1_ld | with_reducible apply p1_st | with_reducible apply p1_b1m | with_reducible apply p1_b1p | with_reducible apply p1_b2 | with_reducible apply pl_fX13_goes | with_reducible apply pl_fX13_expression | with_reducible apply pl_fX13_line_b263 | intro _
theorem pl_fX13_line_b85 {g : Int64}  {M : Mem} (h : KL g M) : pm1 g (fX13_line_b85 M) := by
  unfold fX13_line_b85
  repeat' first | assumption | with_reducible apply KL_sI | with_reducible apply KL_sL | with_reducible apply KL_aI | with_reducible exact p1_none | with_reducible apply p1_some | with_reducible apply p1_ite | with_reducible apply p1_pu | with_reducible apply p1_ck | with_reducible apply p1_zz | with_reducible apply p1_nz | with_reducible apply p1_ld | with_reducible apply p1_st | with_reducible apply p1_b1m | with_reducible apply p1_b1p | with_reducible apply p1_b2 | with_reducible apply pl_fX13_goes | with_reducible apply pl_fX13_number | with_reducible apply pl_fX13_line_b263 | intro _
theorem pl_fX13_line {g : Int64}  {M : Mem} (h : KL g M) : pm1 g (fX13_line M) := by
  unfold fX13_line
  repeat' first | assumption | with_reducible apply KL_sI | with_reducible apply KL_sL | with_reducible apply KL_aI | with_reducible exact p1_none | with_reducible apply p1_some | with_reducible apply p1_ite | with_reducible apply p1_pu | with_reducible apply p1_ck | with_reducible apply p1_zz | with_reducible apply p1_nz | with_reducible apply p1_ld | with_reducible apply p1_st | with_reducible apply p1_b1m | with_reducible apply p1_b1p | with_reducible apply p1_b2 | with_reducible apply pl_fX13_readsCity | with_reducible apply pl_fX13_line_b263 | with_reducible apply pl_fX13_readsDeed | with_reducible apply pl_fX13_line_b43 | with_reducible apply pl_fX13_readsHarvests | with_reducible apply pl_fX13_line_b85 | with_reducible apply pl_fX13_wrong | with_reducible apply pl_fX13_readsFriend | with_reducible apply pl_fX13_line_b143 | with_reducible apply pl_fX13_line_b180 | with_reducible apply pl_fX13_line_b228 | intro _
theorem pl_fX13_land_l415 {g : Int64}  : ∀ (n : Nat) (x0 : Mem) (x1 : Int32), KL g x0 → pm2 g (fX13_land_l415 n x0 x1) := by
  intro n
  induction n with
  | zero => intro x0 x1 h; rw [fX13_land_l415]; exact p2_none
  | succ n ih =>
    intro x0 x1 h
    rw [fX13_land_l415]
    repeat' first | assumption | with_reducible apply KL_sI | with_reducible apply KL_sL | with_reducible apply KL_aI | with_reducible exact p2_none | with_reducible apply p2_some | with_reducible apply p2_ite | with_reducible apply p2_pu | with_reducible apply p2_ck | with_reducible apply p2_zz | with_reducible apply p2_nz | with_reducible apply p2_ld | with_reducible apply p2_st | with_reducible apply p2_b1m | with_reducible apply p2_b1p | with_reducible apply p2_b2 | with_reducible apply ih | intro _
theorem pl_fX13_land_b191 {g : Int64}  {M : Mem} (h : KL g M) : pm2 g (fX13_land_b191 M) := by
  unfold fX13_land_b191
  repeat' first | assumption | with_reducible apply KL_sI | with_reducible apply KL_sL | with_reducible apply KL_aI | with_reducible exact p2_none | with_reducible apply p2_some | with_reducible apply p2_ite | with_reducible apply p2_pu | with_reducible apply p2_ck | with_reducible apply p2_zz | with_reducible apply p2_nz | with_reducible apply p2_ld | with_reducible apply p2_st | with_reducible apply p2_b1m | with_reducible apply p2_b1p | with_reducible apply p2_b2 | with_reducible apply pl_fX13_copies | with_reducible apply pl_fX13_land_l415 | intro _
theorem pl_fX13_land_l170 {g : Int64}  : ∀ (n : Nat) (x0 : Mem), KL g x0 → pm2 g (fX13_land_l170 n x0) := by
  intro n
  induction n with
  | zero => intro x0 h; rw [fX13_land_l170]; exact p2_none
  | succ n ih =>
    intro x0 h
    rw [fX13_land_l170]
    repeat' first | assumption | with_reducible apply KL_sI | with_reducible apply KL_sL | with_reducible apply KL_aI | with_reducible exact p2_none | with_reducible apply p2_some | with_reducible apply p2_ite | with_reducible apply p2_pu | with_reducible apply p2_ck | with_reducible apply p2_zz | with_reducible apply p2_nz | with_reducible apply p2_ld | with_reducible apply p2_st | with_reducible apply p2_b1m | with_reducible apply p2_b1p | with_reducible apply p2_b2 | with_reducible apply ih | with_reducible apply pl_fX13_land_b191 | with_reducible apply pl_fX13_line | intro _
theorem pl_fX13_land_l118 {g : Int64}  : ∀ (n : Nat) (x0 : Mem) (x1 : Int32), KL g x0 → pm2 g (fX13_land_l118 n x0 x1) := by
  intro n
  induction n with
  | zero => intro x0 x1 h; rw [fX13_land_l118]; exact p2_none
  | succ n ih =>
    intro x0 x1 h
    rw [fX13_land_l118]
    repeat' first | assumption | with_reducible apply KL_sI | with_reducible apply KL_sL | with_reducible apply KL_aI | with_reducible exact p2_none | with_reducible apply p2_some | with_reducible apply p2_ite | with_reducible apply p2_pu | with_reducible apply p2_ck | with_reducible apply p2_zz | with_reducible apply p2_nz | with_reducible apply p2_ld | with_reducible apply p2_st | with_reducible apply p2_b1m | with_reducible apply p2_b1p | with_reducible apply p2_b2 | with_reducible apply ih | with_reducible apply pl_fX13_goes | with_reducible apply pl_fX13_land_l170 | intro _
theorem pl_fX13_land_b23 {g : Int64}  {M : Mem} {x1 : Int32} {s0 : Int32} (h : KL g M) : pm2 g (fX13_land_b23 M x1 s0) := by
  unfold fX13_land_b23
  repeat' first | assumption | with_reducible apply KL_sI | with_reducible apply KL_sL | with_reducible apply KL_aI | with_reducible exact p2_none | with_reducible apply p2_some | with_reducible apply p2_ite | with_reducible apply p2_pu | with_reducible apply p2_ck | with_reducible apply p2_zz | with_reducible apply p2_nz | with_reducible apply p2_ld | with_reducible apply p2_st | with_reducible apply p2_b1m | with_reducible apply p2_b1p | with_reducible apply p2_b2 | with_reducible apply pl_fX13_right | with_reducible apply pl_fX13_land_l118 | intro _
theorem pl_fX13_land_b22 {g : Int64}  {M : Mem} {x1 : Int32} (h : KL g M) : pm2 g (fX13_land_b22 M x1) := by
  unfold fX13_land_b22
  repeat' first | assumption | with_reducible apply KL_sI | with_reducible apply KL_sL | with_reducible apply KL_aI | with_reducible exact p2_none | with_reducible apply p2_some | with_reducible apply p2_ite | with_reducible apply p2_pu | with_reducible apply p2_ck | with_reducible apply p2_zz | with_reducible apply p2_nz | with_reducible apply p2_ld | with_reducible apply p2_st | with_reducible apply p2_b1m | with_reducible apply p2_b1p | with_reducible apply p2_b2 | with_reducible apply pl_fX13_land_b23 | intro _
theorem pl_fX13_land {g : Int64}  {M : Mem} {x1 : Int32} (h : KL g M) : pm2 g (fX13_land M x1) := by
  unfold fX13_land
  repeat' first | assumption | with_reducible apply KL_sI | with_reducible apply KL_sL | with_reducible apply KL_aI | with_reducible exact p2_none | with_reducible apply p2_some | with_reducible apply p2_ite | with_reducible apply p2_pu | with_reducible apply p2_ck | with_reducible apply p2_zz | with_reducible apply p2_nz | with_reducible apply p2_ld | with_reducible apply p2_st | with_reducible apply p2_b1m | with_reducible apply p2_b1p | with_reducible apply p2_b2 | with_reducible apply pl_fX13_land_b22 | with_reducible apply pl_fX13_land_b23 | intro _
theorem pl_fX13_least_b49 {g : Int64} {a11 : Mem → Int32 → Int32 → Int32 → Option (Int32 × Mem)} (ha11 : ∀ (y0 : Mem) (y1 : Int32) (y2 : Int32) (y3 : Int32), KL g y0 → pm2 g (a11 y0 y1 y2 y3)) {M : Mem} {x1 : Int32} {x2 : Int32} {x3 : Int32} (h : KL g M) : pm2 g (fX13_least_b49 a11 M x1 x2 x3) := by
  unfold fX13_least_b49
  repeat' first | assumption | with_reducible apply KL_sI | with_reducible apply KL_sL | with_reducible apply KL_aI | with_reducible exact p2_none | with_reducible apply p2_some | with_reducible apply p2_ite | with_reducible apply p2_pu | with_reducible apply p2_ck | with_reducible apply p2_zz | with_reducible apply p2_nz | with_reducible apply p2_ld | with_reducible apply p2_st | with_reducible apply p2_b1m | with_reducible apply p2_b1p | with_reducible apply p2_b2 | with_reducible apply ha11 | intro _
theorem pl_fX13_least_b39 {g : Int64} {a11 : Mem → Int32 → Int32 → Int32 → Option (Int32 × Mem)} (ha11 : ∀ (y0 : Mem) (y1 : Int32) (y2 : Int32) (y3 : Int32), KL g y0 → pm2 g (a11 y0 y1 y2 y3)) {M : Mem} {x3 : Int32} (h : KL g M) : pm2 g (fX13_least_b39 a11 M x3) := by
  unfold fX13_least_b39
  repeat' first | assumption | with_reducible apply KL_sI | with_reducible apply KL_sL | with_reducible apply KL_aI | with_reducible exact p2_none | with_reducible apply p2_some | with_reducible apply p2_ite | with_reducible apply p2_pu | with_reducible apply p2_ck | with_reducible apply p2_zz | with_reducible apply p2_nz | with_reducible apply p2_ld | with_reducible apply p2_st | with_reducible apply p2_b1m | with_reducible apply p2_b1p | with_reducible apply p2_b2 | with_reducible apply ha11 | with_reducible apply pl_fX13_least_b49 | intro _
theorem pl_fX13_least_l11 {g : Int64}  : ∀ (n : Nat) (x0 : Mem) (x1 : Int32) (x2 : Int32) (x3 : Int32), KL g x0 → pm2 g (fX13_least_l11 n x0 x1 x2 x3) := by
  intro n
  induction n with
  | zero => intro x0 x1 x2 x3 h; rw [fX13_least_l11]; exact p2_none
  | succ n ih =>
    intro x0 x1 x2 x3 h
    rw [fX13_least_l11]
    repeat' first | assumption | with_reducible apply KL_sI | with_reducible apply KL_sL | with_reducible apply KL_aI | with_reducible exact p2_none | with_reducible apply p2_some | with_reducible apply p2_ite | with_reducible apply p2_pu | with_reducible apply p2_ck | with_reducible apply p2_zz | with_reducible apply p2_nz | with_reducible apply p2_ld | with_reducible apply p2_st | with_reducible apply p2_b1m | with_reducible apply p2_b1p | with_reducible apply p2_b2 | with_reducible apply ih | with_reducible apply pl_fX13_goesByTerm | with_reducible apply pl_fX13_least_b39 | with_reducible apply pl_fX13_least_b49 | intro _
theorem pl_fX13_least {g : Int64}  {M : Mem} (h : KL g M) : pm2 g (fX13_least M) := by
  unfold fX13_least
  repeat' first | assumption | with_reducible apply KL_sI | with_reducible apply KL_sL | with_reducible apply KL_aI | with_reducible exact p2_none | with_reducible apply p2_some | with_reducible apply p2_ite | with_reducible apply p2_pu | with_reducible apply p2_ck | with_reducible apply p2_zz | with_reducible apply p2_nz | with_reducible apply p2_ld | with_reducible apply p2_st | with_reducible apply p2_b1m | with_reducible apply p2_b1p | with_reducible apply p2_b2 | with_reducible apply pl_fX13_least_l11 | intro _
theorem pl_fX13_loan {g : Int64}  {M : Mem} {x1 : Int32} (h : KL g M) : pm2 g (fX13_loan M x1) := by
  unfold fX13_loan
  repeat' first | assumption | with_reducible apply KL_sI | with_reducible apply KL_sL | with_reducible apply KL_aI | with_reducible exact p2_none | with_reducible apply p2_some | with_reducible apply p2_ite | with_reducible apply p2_pu | with_reducible apply p2_ck | with_reducible apply p2_zz | with_reducible apply p2_nz | with_reducible apply p2_ld | with_reducible apply p2_st | with_reducible apply p2_b1m | with_reducible apply p2_b1p | with_reducible apply p2_b2 | with_reducible apply pl_fX13_refuses | with_reducible apply pl_fX13_keeps | intro _
theorem pl_fX13_moved_b79 {g : Int64} {a35 : Mem → Int32 → Int32 → Int32 → Int32 → Option (Int32 × Mem)} (ha35 : ∀ (y0 : Mem) (y1 : Int32) (y2 : Int32) (y3 : Int32) (y4 : Int32), KL g y0 → pm2 g (a35 y0 y1 y2 y3 y4)) {M : Mem} {x1 : Int32} {x2 : Int32} {x4 : Int32} {s0 : Int32} {s1 : Int32} (h : KL g M) : pm2 g (fX13_moved_b79 a35 M x1 x2 x4 s0 s1) := by
  unfold fX13_moved_b79
  repeat' first | assumption | with_reducible apply KL_sI | with_reducible apply KL_sL | with_reducible apply KL_aI | with_reducible exact p2_none | with_reducible apply p2_some | with_reducible apply p2_ite | with_reducible apply p2_pu | with_reducible apply p2_ck | with_reducible apply p2_zz | with_reducible apply p2_nz | with_reducible apply p2_ld | with_reducible apply p2_st | with_reducible apply p2_b1m | with_reducible apply p2_b1p | with_reducible apply p2_b2 | with_reducible apply ha35 | intro _
theorem pl_fX13_moved_b78 {g : Int64} {a35 : Mem → Int32 → Int32 → Int32 → Int32 → Option (Int32 × Mem)} (ha35 : ∀ (y0 : Mem) (y1 : Int32) (y2 : Int32) (y3 : Int32) (y4 : Int32), KL g y0 → pm2 g (a35 y0 y1 y2 y3 y4)) {M : Mem} {x1 : Int32} {x2 : Int32} {x4 : Int32} {s0 : Int32} (h : KL g M) : pm2 g (fX13_moved_b78 a35 M x1 x2 x4 s0) := by
  unfold fX13_moved_b78
  repeat' first | assumption | with_reducible apply KL_sI | with_reducible apply KL_sL | with_reducible apply KL_aI | with_reducible exact p2_none | with_reducible apply p2_some | with_reducible apply p2_ite | with_reducible apply p2_pu | with_reducible apply p2_ck | with_reducible apply p2_zz | with_reducible apply p2_nz | with_reducible apply p2_ld | with_reducible apply p2_st | with_reducible apply p2_b1m | with_reducible apply p2_b1p | with_reducible apply p2_b2 | with_reducible apply ha35 | with_reducible apply pl_fX13_moved_b79 | intro _
theorem pl_fX13_moved_l35 {g : Int64}  : ∀ (n : Nat) (x0 : Mem) (x1 : Int32) (x2 : Int32) (x3 : Int32) (x4 : Int32), KL g x0 → pm2 g (fX13_moved_l35 n x0 x1 x2 x3 x4) := by
  intro n
  induction n with
  | zero => intro x0 x1 x2 x3 x4 h; rw [fX13_moved_l35]; exact p2_none
  | succ n ih =>
    intro x0 x1 x2 x3 x4 h
    rw [fX13_moved_l35]
    repeat' first | assumption | with_reducible apply KL_sI | with_reducible apply KL_sL | with_reducible apply KL_aI | with_reducible exact p2_none | with_reducible apply p2_some | with_reducible apply p2_ite | with_reducible apply p2_pu | with_reducible apply p2_ck | with_reducible apply p2_zz | with_reducible apply p2_nz | with_reducible apply p2_ld | with_reducible apply p2_st | with_reducible apply p2_b1m | with_reducible apply p2_b1p | with_reducible apply p2_b2 | with_reducible apply ih | with_reducible apply pl_fX13_follows | with_reducible apply pl_fX13_moved_b78 | with_reducible apply pl_fX13_moved_b79 | intro _
theorem pl_fX13_moved {g : Int64}  {M : Mem} {x1 : Int32} {x2 : Int32} (h : KL g M) : pm2 g (fX13_moved M x1 x2) := by
  unfold fX13_moved
  repeat' first | assumption | with_reducible apply KL_sI | with_reducible apply KL_sL | with_reducible apply KL_aI | with_reducible exact p2_none | with_reducible apply p2_some | with_reducible apply p2_ite | with_reducible apply p2_pu | with_reducible apply p2_ck | with_reducible apply p2_zz | with_reducible apply p2_nz | with_reducible apply p2_ld | with_reducible apply p2_st | with_reducible apply p2_b1m | with_reducible apply p2_b1p | with_reducible apply p2_b2 | with_reducible apply pl_fX13_isBrother | with_reducible apply pl_fX13_right | with_reducible apply pl_fX13_moved_l35 | intro _
theorem pl_fX13_next_b228 {g : Int64} {a109 : Mem → Int32 → Int32 → Int32 → Int32 → Int32 → Option (Int32 × Mem)} (ha109 : ∀ (y0 : Mem) (y1 : Int32) (y2 : Int32) (y3 : Int32) (y4 : Int32) (y5 : Int32), KL g y0 → pm2 g (a109 y0 y1 y2 y3 y4 y5)) {M : Mem} {x1 : Int32} {x2 : Int32} {x3 : Int32} {x4 : Int32} {x5 : Int32} (h : KL g M) : pm2 g (fX13_next_b228 a109 M x1 x2 x3 x4 x5) := by
  unfold fX13_next_b228
  repeat' first | assumption | with_reducible apply KL_sI | with_reducible apply KL_sL | with_reducible apply KL_aI | with_reducible exact p2_none | with_reducible apply p2_some | with_reducible apply p2_ite | with_reducible apply p2_pu | with_reducible apply p2_ck | with_reducible apply p2_zz | with_reducible apply p2_nz | with_reducible apply p2_ld | with_reducible apply p2_st | with_reducible apply p2_b1m | with_reducible apply p2_b1p | with_reducible apply p2_b2 | with_reducible apply ha109 | intro _
theorem pl_fX13_next_b200 {g : Int64} {a109 : Mem → Int32 → Int32 → Int32 → Int32 → Int32 → Option (Int32 × Mem)} {a122 : Mem → Int32 → Int32 → Int32 → Int32 → Int32 → Int32 → Int32 → Option (Int32 × Mem)} (ha109 : ∀ (y0 : Mem) (y1 : Int32) (y2 : Int32) (y3 : Int32) (y4 : Int32) (y5 : Int32), KL g y0 → pm2 g (a109 y0 y1 y2 y3 y4 y5)) (ha122 : ∀ (y0 : Mem) (y1 : Int32) (y2 : Int32) (y3 : Int32) (y4 : Int32) (y5 : Int32) (y6 : Int32) (y7 : Int32), KL g y0 → pm2 g (a122 y0 y1 y2 y3 y4 y5 y6 y7)) {M : Mem} {x1 : Int32} {x2 : Int32} {x3 : Int32} {x4 : Int32} {x5 : Int32} {x7 : Int32} {s0 : Int32} {s1 : Int32} (h : KL g M) : pm2 g (fX13_next_b200 a109 a122 M x1 x2 x3 x4 x5 x7 s0 s1) := by
  unfold fX13_next_b200
  repeat' first | assumption | with_reducible apply KL_sI | with_reducible apply KL_sL | with_reducible apply KL_aI | with_reducible exact p2_none | with_reducible apply p2_some | with_reducible apply p2_ite | with_reducible apply p2_pu | with_reducible apply p2_ck | with_reducible apply p2_zz | with_reducible apply p2_nz | with_reducible apply p2_ld | with_reducible apply p2_st | with_reducible apply p2_b1m | with_reducible apply p2_b1p | with_reducible apply p2_b2 | with_reducible apply ha109 | with_reducible apply ha122 | intro _
theorem pl_fX13_next_b188 {g : Int64} {a109 : Mem → Int32 → Int32 → Int32 → Int32 → Int32 → Option (Int32 × Mem)} {a122 : Mem → Int32 → Int32 → Int32 → Int32 → Int32 → Int32 → Int32 → Option (Int32 × Mem)} (ha109 : ∀ (y0 : Mem) (y1 : Int32) (y2 : Int32) (y3 : Int32) (y4 : Int32) (y5 : Int32), KL g y0 → pm2 g (a109 y0 y1 y2 y3 y4 y5)) (ha122 : ∀ (y0 : Mem) (y1 : Int32) (y2 : Int32) (y3 : Int32) (y4 : Int32) (y5 : Int32) (y6 : Int32) (y7 : Int32), KL g y0 → pm2 g (a122 y0 y1 y2 y3 y4 y5 y6 y7)) {M : Mem} {x1 : Int32} {x2 : Int32} {x3 : Int32} {x4 : Int32} {x5 : Int32} {x6 : Int32} {x7 : Int32} {x8 : Int32} (h : KL g M) : pm2 g (fX13_next_b188 a109 a122 M x1 x2 x3 x4 x5 x6 x7 x8) := by
  unfold fX13_next_b188
  repeat' first | assumption | with_reducible apply KL_sI | with_reducible apply KL_sL | with_reducible apply KL_aI | with_reducible exact p2_none | with_reducible apply p2_some | with_reducible apply p2_ite | with_reducible apply p2_pu | with_reducible apply p2_ck | with_reducible apply p2_zz | with_reducible apply p2_nz | with_reducible apply p2_ld | with_reducible apply p2_st | with_reducible apply p2_b1m | with_reducible apply p2_b1p | with_reducible apply p2_b2 | with_reducible apply ha109 | with_reducible apply ha122 | with_reducible apply pl_fX13_next_b200 | intro _
theorem pl_fX13_next_b180 {g : Int64} {a109 : Mem → Int32 → Int32 → Int32 → Int32 → Int32 → Option (Int32 × Mem)} {a122 : Mem → Int32 → Int32 → Int32 → Int32 → Int32 → Int32 → Int32 → Option (Int32 × Mem)} {a134 : Mem → Int32 → Int32 → Int32 → Int32 → Int32 → Int32 → Int32 → Int32 → Int32 → Option (Int32 × Mem)} (ha109 : ∀ (y0 : Mem) (y1 : Int32) (y2 : Int32) (y3 : Int32) (y4 : Int32) (y5 : Int32), KL g y0 → pm2 g (a109 y0 y1 y2 y3 y4 y5)) (ha122 : ∀ (y0 : Mem) (y1 : Int32) (y2 : Int32) (y3 : Int32) (y4 : Int32) (y5 : Int32) (y6 : Int32) (y7 : Int32), KL g y0 → pm2 g (a122 y0 y1 y2 y3 y4 y5 y6 y7)) (ha134 : ∀ (y0 : Mem) (y1 : Int32) (y2 : Int32) (y3 : Int32) (y4 : Int32) (y5 : Int32) (y6 : Int32) (y7 : Int32) (y8 : Int32) (y9 : Int32), KL g y0 → pm2 g (a134 y0 y1 y2 y3 y4 y5 y6 y7 y8 y9)) {M : Mem} {x1 : Int32} {x2 : Int32} {x3 : Int32} {x4 : Int32} {x5 : Int32} {x6 : Int32} {x7 : Int32} {x9 : Int32} {s0 : Int32} (h : KL g M) : pm2 g (fX13_next_b180 a109 a122 a134 M x1 x2 x3 x4 x5 x6 x7 x9 s0) := by
  unfold fX13_next_b180
  repeat' first | assumption | with_reducible apply KL_sI | with_reducible apply KL_sL | with_reducible apply KL_aI | with_reducible exact p2_none | with_reducible apply p2_some | with_reducible apply p2_ite | with_reducible apply p2_pu | with_reducible apply p2_ck | with_reducible apply p2_zz | with_reducible apply p2_nz | with_reducible apply p2_ld | with_reducible apply p2_st | with_reducible apply p2_b1m | with_reducible apply p2_b1p | with_reducible apply p2_b2 | with_reducible apply ha109 | with_reducible apply ha122 | with_reducible apply ha134 | intro _
theorem pl_fX13_next_l134 {g : Int64} {a109 : Mem → Int32 → Int32 → Int32 → Int32 → Int32 → Option (Int32 × Mem)} {a122 : Mem → Int32 → Int32 → Int32 → Int32 → Int32 → Int32 → Int32 → Option (Int32 × Mem)} (ha109 : ∀ (y0 : Mem) (y1 : Int32) (y2 : Int32) (y3 : Int32) (y4 : Int32) (y5 : Int32), KL g y0 → pm2 g (a109 y0 y1 y2 y3 y4 y5)) (ha122 : ∀ (y0 : Mem) (y1 : Int32) (y2 : Int32) (y3 : Int32) (y4 : Int32) (y5 : Int32) (y6 : Int32) (y7 : Int32), KL g y0 → pm2 g (a122 y0 y1 y2 y3 y4 y5 y6 y7)) : ∀ (n : Nat) (x0 : Mem) (x1 : Int32) (x2 : Int32) (x3 : Int32) (x4 : Int32) (x5 : Int32) (x6 : Int32) (x7 : Int32) (x8 : Int32) (x9 : Int32), KL g x0 → pm2 g (fX13_next_l134 a109 a122 n x0 x1 x2 x3 x4 x5 x6 x7 x8 x9) := by
  intro n
  induction n with
  | zero => intro x0 x1 x2 x3 x4 x5 x6 x7 x8 x9 h; rw [fX13_next_l134]; exact p2_none
  | succ n ih =>
    intro x0 x1 x2 x3 x4 x5 x6 x7 x8 x9 h
    rw [fX13_next_l134]
    repeat' first | assumption | with_reducible apply KL_sI | with_reducible apply KL_sL | with_reducible apply KL_aI | with_reducible exact p2_none | with_reducible apply p2_some | with_reducible apply p2_ite | with_reducible apply p2_pu | with_reducible apply p2_ck | with_reducible apply p2_zz | with_reducible apply p2_nz | with_reducible apply p2_ld | with_reducible apply p2_st | with_reducible apply p2_b1m | with_reducible apply p2_b1p | with_reducible apply p2_b2 | with_reducible apply ha109 | with_reducible apply ha122 | with_reducible apply ih | with_reducible apply pl_fX13_next_b188 | with_reducible apply pl_fX13_next_b180 | intro _
theorem pl_fX13_next_l122 {g : Int64} {a109 : Mem → Int32 → Int32 → Int32 → Int32 → Int32 → Option (Int32 × Mem)} (ha109 : ∀ (y0 : Mem) (y1 : Int32) (y2 : Int32) (y3 : Int32) (y4 : Int32) (y5 : Int32), KL g y0 → pm2 g (a109 y0 y1 y2 y3 y4 y5)) : ∀ (n : Nat) (x0 : Mem) (x1 : Int32) (x2 : Int32) (x3 : Int32) (x4 : Int32) (x5 : Int32) (x6 : Int32) (x7 : Int32), KL g x0 → pm2 g (fX13_next_l122 a109 n x0 x1 x2 x3 x4 x5 x6 x7) := by
  intro n
  induction n with
  | zero => intro x0 x1 x2 x3 x4 x5 x6 x7 h; rw [fX13_next_l122]; exact p2_none
  | succ n ih =>
    intro x0 x1 x2 x3 x4 x5 x6 x7 h
    rw [fX13_next_l122]
    repeat' first | assumption | with_reducible apply KL_sI | with_reducible apply KL_sL | with_reducible apply KL_aI | with_reducible exact p2_none | with_reducible apply p2_some | with_reducible apply p2_ite | with_reducible apply p2_pu | with_reducible apply p2_ck | with_reducible apply p2_zz | with_reducible apply p2_nz | with_reducible apply p2_ld | with_reducible apply p2_st | with_reducible apply p2_b1m | with_reducible apply p2_b1p | with_reducible apply p2_b2 | with_reducible apply ha109 | with_reducible apply ih | with_reducible apply pl_fX13_next_l134 | with_reducible apply pl_fX13_next_b228 | intro _
theorem pl_fX13_next_l109 {g : Int64}  : ∀ (n : Nat) (x0 : Mem) (x1 : Int32) (x2 : Int32) (x3 : Int32) (x4 : Int32) (x5 : Int32), KL g x0 → pm2 g (fX13_next_l109 n x0 x1 x2 x3 x4 x5) := by
  intro n
  induction n with
  | zero => intro x0 x1 x2 x3 x4 x5 h; rw [fX13_next_l109]; exact p2_none
  | succ n ih =>
    intro x0 x1 x2 x3 x4 x5 h
    rw [fX13_next_l109]
    repeat' first | assumption | with_reducible apply KL_sI | with_reducible apply KL_sL | with_reducible apply KL_aI | with_reducible exact p2_none | with_reducible apply p2_some | with_reducible apply p2_ite | with_reducible apply p2_pu | with_reducible apply p2_ck | with_reducible apply p2_zz | with_reducible apply p2_nz | with_reducible apply p2_ld | with_reducible apply p2_st | with_reducible apply p2_b1m | with_reducible apply p2_b1p | with_reducible apply p2_b2 | with_reducible apply ih | with_reducible apply pl_fX13_next_l122 | intro _
theorem pl_fX13_next_b89 {g : Int64} {a20 : Mem → Int32 → Int32 → Int32 → Option (Int32 × Mem)} {a29 : Mem → Int32 → Int32 → Int32 → Int32 → Option (Int32 × Mem)} (ha20 : ∀ (y0 : Mem) (y1 : Int32) (y2 : Int32) (y3 : Int32), KL g y0 → pm2 g (a20 y0 y1 y2 y3)) (ha29 : ∀ (y0 : Mem) (y1 : Int32) (y2 : Int32) (y3 : Int32) (y4 : Int32), KL g y0 → pm2 g (a29 y0 y1 y2 y3 y4)) {M : Mem} {x1 : Int32} {x2 : Int32} {x3 : Int32} {x4 : Int32} (h : KL g M) : pm2 g (fX13_next_b89 a20 a29 M x1 x2 x3 x4) := by
  unfold fX13_next_b89
  repeat' first | assumption | with_reducible apply KL_sI | with_reducible apply KL_sL | with_reducible apply KL_aI | with_reducible exact p2_none | with_reducible apply p2_some | with_reducible apply p2_ite | with_reducible apply p2_pu | with_reducible apply p2_ck | with_reducible apply p2_zz | with_reducible apply p2_nz | with_reducible apply p2_ld | with_reducible apply p2_st | with_reducible apply p2_b1m | with_reducible apply p2_b1p | with_reducible apply p2_b2 | with_reducible apply ha20 | with_reducible apply ha29 | intro _
theorem pl_fX13_next_l54 {g : Int64} {a20 : Mem → Int32 → Int32 → Int32 → Option (Int32 × Mem)} {a29 : Mem → Int32 → Int32 → Int32 → Int32 → Option (Int32 × Mem)} (ha20 : ∀ (y0 : Mem) (y1 : Int32) (y2 : Int32) (y3 : Int32), KL g y0 → pm2 g (a20 y0 y1 y2 y3)) (ha29 : ∀ (y0 : Mem) (y1 : Int32) (y2 : Int32) (y3 : Int32) (y4 : Int32), KL g y0 → pm2 g (a29 y0 y1 y2 y3 y4)) : ∀ (n : Nat) (x0 : Mem) (x1 : Int32) (x2 : Int32) (x3 : Int32) (x4 : Int32) (x5 : Int32), KL g x0 → pm2 g (fX13_next_l54 a20 a29 n x0 x1 x2 x3 x4 x5) := by
  intro n
  induction n with
  | zero => intro x0 x1 x2 x3 x4 x5 h; rw [fX13_next_l54]; exact p2_none
  | succ n ih =>
    intro x0 x1 x2 x3 x4 x5 h
    rw [fX13_next_l54]
    repeat' first | assumption | with_reducible apply KL_sI | with_reducible apply KL_sL | with_reducible apply KL_aI | with_reducible exact p2_none | with_reducible apply p2_some | with_reducible apply p2_ite | with_reducible apply p2_pu | with_reducible apply p2_ck | with_reducible apply p2_zz | with_reducible apply p2_nz | with_reducible apply p2_ld | with_reducible apply p2_st | with_reducible apply p2_b1m | with_reducible apply p2_b1p | with_reducible apply p2_b2 | with_reducible apply ha20 | with_reducible apply ha29 | with_reducible apply ih | with_reducible apply pl_fX13_next_b89 | intro _
theorem pl_fX13_next_l29 {g : Int64} {a20 : Mem → Int32 → Int32 → Int32 → Option (Int32 × Mem)} (ha20 : ∀ (y0 : Mem) (y1 : Int32) (y2 : Int32) (y3 : Int32), KL g y0 → pm2 g (a20 y0 y1 y2 y3)) : ∀ (n : Nat) (x0 : Mem) (x1 : Int32) (x2 : Int32) (x3 : Int32) (x4 : Int32), KL g x0 → pm2 g (fX13_next_l29 a20 n x0 x1 x2 x3 x4) := by
  intro n
  induction n with
  | zero => intro x0 x1 x2 x3 x4 h; rw [fX13_next_l29]; exact p2_none
  | succ n ih =>
    intro x0 x1 x2 x3 x4 h
    rw [fX13_next_l29]
    repeat' first | assumption | with_reducible apply KL_sI | with_reducible apply KL_sL | with_reducible apply KL_aI | with_reducible exact p2_none | with_reducible apply p2_some | with_reducible apply p2_ite | with_reducible apply p2_pu | with_reducible apply p2_ck | with_reducible apply p2_zz | with_reducible apply p2_nz | with_reducible apply p2_ld | with_reducible apply p2_st | with_reducible apply p2_b1m | with_reducible apply p2_b1p | with_reducible apply p2_b2 | with_reducible apply ha20 | with_reducible apply ih | with_reducible apply pl_fX13_isSeen | with_reducible apply pl_fX13_next_b89 | with_reducible apply pl_fX13_next_l54 | intro _
theorem pl_fX13_next_l20 {g : Int64}  : ∀ (n : Nat) (x0 : Mem) (x1 : Int32) (x2 : Int32) (x3 : Int32), KL g x0 → pm2 g (fX13_next_l20 n x0 x1 x2 x3) := by
  intro n
  induction n with
  | zero => intro x0 x1 x2 x3 h; rw [fX13_next_l20]; exact p2_none
  | succ n ih =>
    intro x0 x1 x2 x3 h
    rw [fX13_next_l20]
    repeat' first | assumption | with_reducible apply KL_sI | with_reducible apply KL_sL | with_reducible apply KL_aI | with_reducible exact p2_none | with_reducible apply p2_some | with_reducible apply p2_ite | with_reducible apply p2_pu | with_reducible apply p2_ck | with_reducible apply p2_zz | with_reducible apply p2_nz | with_reducible apply p2_ld | with_reducible apply p2_st | with_reducible apply p2_b1m | with_reducible apply p2_b1p | with_reducible apply p2_b2 | with_reducible apply ih | with_reducible apply pl_fX13_next_l109 | with_reducible apply pl_fX13_next_l29 | intro _
theorem pl_fX13_next {g : Int64}  {M : Mem} {x1 : Int32} (h : KL g M) : pm2 g (fX13_next M x1) := by
  unfold fX13_next
  repeat' first | assumption | with_reducible apply KL_sI | with_reducible apply KL_sL | with_reducible apply KL_aI | with_reducible exact p2_none | with_reducible apply p2_some | with_reducible apply p2_ite | with_reducible apply p2_pu | with_reducible apply p2_ck | with_reducible apply p2_zz | with_reducible apply p2_nz | with_reducible apply p2_ld | with_reducible apply p2_st | with_reducible apply p2_b1m | with_reducible apply p2_b1p | with_reducible apply p2_b2 | with_reducible apply pl_fX13_isWhat | with_reducible apply pl_fX13_next_l20 | intro _
theorem pl_fX13_odds_b155 {g : Int64} {a62 : Mem → Int32 → Int32 → Int32 → Int32 → Int32 → Option (Int32 × Mem)} (ha62 : ∀ (y0 : Mem) (y1 : Int32) (y2 : Int32) (y3 : Int32) (y4 : Int32) (y5 : Int32), KL g y0 → pm2 g (a62 y0 y1 y2 y3 y4 y5)) {M : Mem} {x2 : Int32} {x3 : Int32} {x4 : Int32} {x5 : Int32} {x6 : Int32} (h : KL g M) : pm2 g (fX13_odds_b155 a62 M x2 x3 x4 x5 x6) := by
  unfold fX13_odds_b155
  repeat' first | assumption | with_reducible apply KL_sI | with_reducible apply KL_sL | with_reducible apply KL_aI | with_reducible exact p2_none | with_reducible apply p2_some | with_reducible apply p2_ite | with_reducible apply p2_pu | with_reducible apply p2_ck | with_reducible apply p2_zz | with_reducible apply p2_nz | with_reducible apply p2_ld | with_reducible apply p2_st | with_reducible apply p2_b1m | with_reducible apply p2_b1p | with_reducible apply p2_b2 | with_reducible apply ha62 | intro _
theorem pl_fX13_odds_b142 {g : Int64} {a62 : Mem → Int32 → Int32 → Int32 → Int32 → Int32 → Option (Int32 × Mem)} {a98 : Mem → Int32 → Int32 → Int32 → Int32 → Int32 → Int32 → Int32 → Option (Int32 × Mem)} (ha62 : ∀ (y0 : Mem) (y1 : Int32) (y2 : Int32) (y3 : Int32) (y4 : Int32) (y5 : Int32), KL g y0 → pm2 g (a62 y0 y1 y2 y3 y4 y5)) (ha98 : ∀ (y0 : Mem) (y1 : Int32) (y2 : Int32) (y3 : Int32) (y4 : Int32) (y5 : Int32) (y6 : Int32) (y7 : Int32), KL g y0 → pm2 g (a98 y0 y1 y2 y3 y4 y5 y6 y7)) {M : Mem} {x2 : Int32} {x3 : Int32} {x4 : Int32} {x5 : Int32} {x6 : Int32} {x7 : Int32} {x8 : Int32} (h : KL g M) : pm2 g (fX13_odds_b142 a62 a98 M x2 x3 x4 x5 x6 x7 x8) := by
  unfold fX13_odds_b142
  repeat' first | assumption | with_reducible apply KL_sI | with_reducible apply KL_sL | with_reducible apply KL_aI | with_reducible exact p2_none | with_reducible apply p2_some | with_reducible apply p2_ite | with_reducible apply p2_pu | with_reducible apply p2_ck | with_reducible apply p2_zz | with_reducible apply p2_nz | with_reducible apply p2_ld | with_reducible apply p2_st | with_reducible apply p2_b1m | with_reducible apply p2_b1p | with_reducible apply p2_b2 | with_reducible apply ha62 | with_reducible apply ha98 | intro _
theorem pl_fX13_odds_b139 {g : Int64} {a62 : Mem → Int32 → Int32 → Int32 → Int32 → Int32 → Option (Int32 × Mem)} {a98 : Mem → Int32 → Int32 → Int32 → Int32 → Int32 → Int32 → Int32 → Option (Int32 × Mem)} (ha62 : ∀ (y0 : Mem) (y1 : Int32) (y2 : Int32) (y3 : Int32) (y4 : Int32) (y5 : Int32), KL g y0 → pm2 g (a62 y0 y1 y2 y3 y4 y5)) (ha98 : ∀ (y0 : Mem) (y1 : Int32) (y2 : Int32) (y3 : Int32) (y4 : Int32) (y5 : Int32) (y6 : Int32) (y7 : Int32), KL g y0 → pm2 g (a98 y0 y1 y2 y3 y4 y5 y6 y7)) {M : Mem} {x2 : Int32} {x3 : Int32} {x4 : Int32} {x5 : Int32} {x6 : Int32} {x8 : Int32} {s0 : Int32} {s1 : Int32} (h : KL g M) : pm2 g (fX13_odds_b139 a62 a98 M x2 x3 x4 x5 x6 x8 s0 s1) := by
  unfold fX13_odds_b139
  repeat' first | assumption | with_reducible apply KL_sI | with_reducible apply KL_sL | with_reducible apply KL_aI | with_reducible exact p2_none | with_reducible apply p2_some | with_reducible apply p2_ite | with_reducible apply p2_pu | with_reducible apply p2_ck | with_reducible apply p2_zz | with_reducible apply p2_nz | with_reducible apply p2_ld | with_reducible apply p2_st | with_reducible apply p2_b1m | with_reducible apply p2_b1p | with_reducible apply p2_b2 | with_reducible apply ha62 | with_reducible apply ha98 | with_reducible apply pl_fX13_odds_b142 | intro _
theorem pl_fX13_odds_l98 {g : Int64} {a62 : Mem → Int32 → Int32 → Int32 → Int32 → Int32 → Option (Int32 × Mem)} (ha62 : ∀ (y0 : Mem) (y1 : Int32) (y2 : Int32) (y3 : Int32) (y4 : Int32) (y5 : Int32), KL g y0 → pm2 g (a62 y0 y1 y2 y3 y4 y5)) : ∀ (n : Nat) (x0 : Mem) (x1 : Int32) (x2 : Int32) (x3 : Int32) (x4 : Int32) (x5 : Int32) (x6 : Int32) (x7 : Int32), KL g x0 → pm2 g (fX13_odds_l98 a62 n x0 x1 x2 x3 x4 x5 x6 x7) := by
  intro n
  induction n with
  | zero => intro x0 x1 x2 x3 x4 x5 x6 x7 h; rw [fX13_odds_l98]; exact p2_none
  | succ n ih =>
    intro x0 x1 x2 x3 x4 x5 x6 x7 h
    rw [fX13_odds_l98]
    repeat' first | assumption | with_reducible apply KL_sI | with_reducible apply KL_sL | with_reducible apply KL_aI | with_reducible exact p2_none | with_reducible apply p2_some | with_reducible apply p2_ite | with_reducible apply p2_pu | with_reducible apply p2_ck | with_reducible apply p2_zz | with_reducible apply p2_nz | with_reducible apply p2_ld | with_reducible apply p2_st | with_reducible apply p2_b1m | with_reducible apply p2_b1p | with_reducible apply p2_b2 | with_reducible apply ha62 | with_reducible apply ih | with_reducible apply pl_fX13_odds_b139 | with_reducible apply pl_fX13_odds_b142 | with_reducible apply pl_fX13_odds_b155 | intro _
theorem pl_fX13_odds_l62 {g : Int64}  : ∀ (n : Nat) (x0 : Mem) (x1 : Int32) (x2 : Int32) (x3 : Int32) (x4 : Int32) (x5 : Int32), KL g x0 → pm2 g (fX13_odds_l62 n x0 x1 x2 x3 x4 x5) := by
  intro n
  induction n with
  | zero => intro x0 x1 x2 x3 x4 x5 h; rw [fX13_odds_l62]; exact p2_none
  | succ n ih =>
    intro x0 x1 x2 x3 x4 x5 h
    rw [fX13_odds_l62]
    repeat' first | assumption | with_reducible apply KL_sI | with_reducible apply KL_sL | with_reducible apply KL_aI | with_reducible exact p2_none | with_reducible apply p2_some | with_reducible apply p2_ite | with_reducible apply p2_pu | with_reducible apply p2_ck | with_reducible apply p2_zz | with_reducible apply p2_nz | with_reducible apply p2_ld | with_reducible apply p2_st | with_reducible apply p2_b1m | with_reducible apply p2_b1p | with_reducible apply p2_b2 | with_reducible apply ih | with_reducible apply pl_fX13_odds_b155 | with_reducible apply pl_fX13_odds_l98 | intro _
theorem pl_fX13_odds_b39 {g : Int64}  {M : Mem} {x1 : Int32} {x2 : Int32} {x3 : Int32} {s0 : Int32} (h : KL g M) : pm2 g (fX13_odds_b39 M x1 x2 x3 s0) := by
  unfold fX13_odds_b39
  repeat' first | assumption | with_reducible apply KL_sI | with_reducible apply KL_sL | with_reducible apply KL_aI | with_reducible exact p2_none | with_reducible apply p2_some | with_reducible apply p2_ite | with_reducible apply p2_pu | with_reducible apply p2_ck | with_reducible apply p2_zz | with_reducible apply p2_nz | with_reducible apply p2_ld | with_reducible apply p2_st | with_reducible apply p2_b1m | with_reducible apply p2_b1p | with_reducible apply p2_b2 | with_reducible apply pl_fX13_right | with_reducible apply pl_fX13_followers | with_reducible apply pl_fX13_odds_l62 | intro _
theorem pl_fX13_odds_b38 {g : Int64}  {M : Mem} {x1 : Int32} {x2 : Int32} {x3 : Int32} (h : KL g M) : pm2 g (fX13_odds_b38 M x1 x2 x3) := by
  unfold fX13_odds_b38
  repeat' first | assumption | with_reducible apply KL_sI | with_reducible apply KL_sL | with_reducible apply KL_aI | with_reducible exact p2_none | with_reducible apply p2_some | with_reducible apply p2_ite | with_reducible apply p2_pu | with_reducible apply p2_ck | with_reducible apply p2_zz | with_reducible apply p2_nz | with_reducible apply p2_ld | with_reducible apply p2_st | with_reducible apply p2_b1m | with_reducible apply p2_b1p | with_reducible apply p2_b2 | with_reducible apply pl_fX13_odds_b39 | intro _
theorem pl_fX13_odds {g : Int64}  {M : Mem} {x1 : Int32} {x2 : Int32} {x3 : Int32} (h : KL g M) : pm2 g (fX13_odds M x1 x2 x3) := by
  unfold fX13_odds
  repeat' first | assumption | with_reducible apply KL_sI | with_reducible apply KL_sL | with_reducible apply KL_aI | with_reducible exact p2_none | with_reducible apply p2_some | with_reducible apply p2_ite | with_reducible apply p2_pu | with_reducible apply p2_ck | with_reducible apply p2_zz | with_reducible apply p2_nz | with_reducible apply p2_ld | with_reducible apply p2_st | with_reducible apply p2_b1m | with_reducible apply p2_b1p | with_reducible apply p2_b2 | with_reducible apply pl_fX13_isBrother | with_reducible apply pl_fX13_odds_b38 | with_reducible apply pl_fX13_odds_b39 | intro _
theorem pl_fX13_parties_b57 {g : Int64} {a23 : Mem → Int32 → Int32 → Int32 → Int32 → Option (Int32 × Mem)} (ha23 : ∀ (y0 : Mem) (y1 : Int32) (y2 : Int32) (y3 : Int32) (y4 : Int32), KL g y0 → pm2 g (a23 y0 y1 y2 y3 y4)) {M : Mem} {x1 : Int32} {x2 : Int32} {x3 : Int32} {x4 : Int32} (h : KL g M) : pm2 g (fX13_parties_b57 a23 M x1 x2 x3 x4) := by
  unfold fX13_parties_b57
  repeat' first | assumption | with_reducible apply KL_sI | with_reducible apply KL_sL | with_reducible apply KL_aI | with_reducible exact p2_none | with_reducible apply p2_some | with_reducible apply p2_ite | with_reducible apply p2_pu | with_reducible apply p2_ck | with_reducible apply p2_zz | with_reducible apply p2_nz | with_reducible apply p2_ld | with_reducible apply p2_st | with_reducible apply p2_b1m | with_reducible apply p2_b1p | with_reducible apply p2_b2 | with_reducible apply ha23 | intro _
theorem pl_fX13_parties_l23 {g : Int64}  : ∀ (n : Nat) (x0 : Mem) (x1 : Int32) (x2 : Int32) (x3 : Int32) (x4 : Int32), KL g x0 → pm2 g (fX13_parties_l23 n x0 x1 x2 x3 x4) := by
  intro n
  induction n with
  | zero => intro x0 x1 x2 x3 x4 h; rw [fX13_parties_l23]; exact p2_none
  | succ n ih =>
    intro x0 x1 x2 x3 x4 h
    rw [fX13_parties_l23]
    repeat' first | assumption | with_reducible apply KL_sI | with_reducible apply KL_sL | with_reducible apply KL_aI | with_reducible exact p2_none | with_reducible apply p2_some | with_reducible apply p2_ite | with_reducible apply p2_pu | with_reducible apply p2_ck | with_reducible apply p2_zz | with_reducible apply p2_nz | with_reducible apply p2_ld | with_reducible apply p2_st | with_reducible apply p2_b1m | with_reducible apply p2_b1p | with_reducible apply p2_b2 | with_reducible apply ih | with_reducible apply pl_fX13_parties_b57 | intro _
theorem pl_fX13_parties {g : Int64}  {M : Mem} {x1 : Int32} (h : KL g M) : pm2 g (fX13_parties M x1) := by
  unfold fX13_parties
  repeat' first | assumption | with_reducible apply KL_sI | with_reducible apply KL_sL | with_reducible apply KL_aI | with_reducible exact p2_none | with_reducible apply p2_some | with_reducible apply p2_ite | with_reducible apply p2_pu | with_reducible apply p2_ck | with_reducible apply p2_zz | with_reducible apply p2_nz | with_reducible apply p2_ld | with_reducible apply p2_st | with_reducible apply p2_b1m | with_reducible apply p2_b1p | with_reducible apply p2_b2 | with_reducible apply pl_fX13_isWhat | with_reducible apply pl_fX13_parties_l23 | intro _
theorem pl_fX13_triesDeed_b56 {g : Int64}  {M : Mem} {x1 : Int32} {x2 : Int32} (h : KL g M) : pm2 g (fX13_triesDeed_b56 M x1 x2) := by
  unfold fX13_triesDeed_b56
  repeat' first | assumption | with_reducible apply KL_sI | with_reducible apply KL_sL | with_reducible apply KL_aI | with_reducible exact p2_none | with_reducible apply p2_some | with_reducible apply p2_ite | with_reducible apply p2_pu | with_reducible apply p2_ck | with_reducible apply p2_zz | with_reducible apply p2_nz | with_reducible apply p2_ld | with_reducible apply p2_st | with_reducible apply p2_b1m | with_reducible apply p2_b1p | with_reducible apply p2_b2 | with_reducible apply pl_fX13_does | with_reducible apply pl_fX13_ends | intro _
theorem pl_fX13_triesDeed {g : Int64}  {M : Mem} {x1 : Int32} {x2 : Int32} (h : KL g M) : pm2 g (fX13_triesDeed M x1 x2) := by
  unfold fX13_triesDeed
  repeat' first | assumption | with_reducible apply KL_sI | with_reducible apply KL_sL | with_reducible apply KL_aI | with_reducible exact p2_none | with_reducible apply p2_some | with_reducible apply p2_ite | with_reducible apply p2_pu | with_reducible apply p2_ck | with_reducible apply p2_zz | with_reducible apply p2_nz | with_reducible apply p2_ld | with_reducible apply p2_st | with_reducible apply p2_b1m | with_reducible apply p2_b1p | with_reducible apply p2_b2 | with_reducible apply pl_fX13_lays0 | with_reducible apply pl_fX13_gathers | with_reducible apply pl_fX13_triesDeed_b56 | intro _
theorem pl_fX13_planOne_b103 {g : Int64} {a9 : Mem → Int32 → Int32 → Int32 → Int32 → Int32 → Option (Int32 × Mem)} (ha9 : ∀ (y0 : Mem) (y1 : Int32) (y2 : Int32) (y3 : Int32) (y4 : Int32) (y5 : Int32), KL g y0 → pm2 g (a9 y0 y1 y2 y3 y4 y5)) {M : Mem} {x1 : Int32} {x2 : Int32} {x3 : Int32} {x4 : Int32} {x5 : Int32} (h : KL g M) : pm2 g (fX13_planOne_b103 a9 M x1 x2 x3 x4 x5) := by
  unfold fX13_planOne_b103
  repeat' first | assumption | with_reducible apply KL_sI | with_reducible apply KL_sL | with_reducible apply KL_aI | with_reducible exact p2_none | with_reducible apply p2_some | with_reducible apply p2_ite | with_reducible apply p2_pu | with_reducible apply p2_ck | with_reducible apply p2_zz | with_reducible apply p2_nz | with_reducible apply p2_ld | with_reducible apply p2_st | with_reducible apply p2_b1m | with_reducible apply p2_b1p | with_reducible apply p2_b2 | with_reducible apply ha9 | intro _
theorem pl_fX13_planOne_b96 {g : Int64} {a9 : Mem → Int32 → Int32 → Int32 → Int32 → Int32 → Option (Int32 × Mem)} (ha9 : ∀ (y0 : Mem) (y1 : Int32) (y2 : Int32) (y3 : Int32) (y4 : Int32) (y5 : Int32), KL g y0 → pm2 g (a9 y0 y1 y2 y3 y4 y5)) {M : Mem} {x1 : Int32} {x2 : Int32} {x5 : Int32} {x6 : Int32} {x7 : Int32} (h : KL g M) : pm2 g (fX13_planOne_b96 a9 M x1 x2 x5 x6 x7) := by
  unfold fX13_planOne_b96
  repeat' first | assumption | with_reducible apply KL_sI | with_reducible apply KL_sL | with_reducible apply KL_aI | with_reducible exact p2_none | with_reducible apply p2_some | with_reducible apply p2_ite | with_reducible apply p2_pu | with_reducible apply p2_ck | with_reducible apply p2_zz | with_reducible apply p2_nz | with_reducible apply p2_ld | with_reducible apply p2_st | with_reducible apply p2_b1m | with_reducible apply p2_b1p | with_reducible apply p2_b2 | with_reducible apply ha9 | with_reducible apply pl_fX13_planOne_b103 | intro _
theorem pl_fX13_planOne_b33 {g : Int64} {a9 : Mem → Int32 → Int32 → Int32 → Int32 → Int32 → Option (Int32 × Mem)} (ha9 : ∀ (y0 : Mem) (y1 : Int32) (y2 : Int32) (y3 : Int32) (y4 : Int32) (y5 : Int32), KL g y0 → pm2 g (a9 y0 y1 y2 y3 y4 y5)) {M : Mem} {x1 : Int32} {x2 : Int32} {x3 : Int32} {x4 : Int32} {x5 : Int32} {s0 : Int32} (h : KL g M) : pm2 g (fX13_planOne_b33 a9 M x1 x2 x3 x4 x5 s0) := by
  unfold fX13_planOne_b33
  repeat' first | assumption | with_reducible apply KL_sI | with_reducible apply KL_sL | with_reducible apply KL_aI | with_reducible exact p2_none | with_reducible apply p2_some | with_reducible apply p2_ite | with_reducible apply p2_pu | with_reducible apply p2_ck | with_reducible apply p2_zz | with_reducible apply p2_nz | with_reducible apply p2_ld | with_reducible apply p2_st | with_reducible apply p2_b1m | with_reducible apply p2_b1p | with_reducible apply p2_b2 | with_reducible apply ha9 | with_reducible apply pl_fX13_triesDeed | with_reducible apply pl_fX13_planOne_b103 | with_reducible apply pl_fX13_planOne_b96 | intro _
theorem pl_fX13_planOne_l9 {g : Int64}  : ∀ (n : Nat) (x0 : Mem) (x1 : Int32) (x2 : Int32) (x3 : Int32) (x4 : Int32) (x5 : Int32), KL g x0 → pm2 g (fX13_planOne_l9 n x0 x1 x2 x3 x4 x5) := by
  intro n
  induction n with
  | zero => intro x0 x1 x2 x3 x4 x5 h; rw [fX13_planOne_l9]; exact p2_none
  | succ n ih =>
    intro x0 x1 x2 x3 x4 x5 h
    rw [fX13_planOne_l9]
    repeat' first | assumption | with_reducible apply KL_sI | with_reducible apply KL_sL | with_reducible apply KL_aI | with_reducible exact p2_none | with_reducible apply p2_some | with_reducible apply p2_ite | with_reducible apply p2_pu | with_reducible apply p2_ck | with_reducible apply p2_zz | with_reducible apply p2_nz | with_reducible apply p2_ld | with_reducible apply p2_st | with_reducible apply p2_b1m | with_reducible apply p2_b1p | with_reducible apply p2_b2 | with_reducible apply ih | with_reducible apply pl_fX13_planOne_b33 | intro _
theorem pl_fX13_planOne {g : Int64}  {M : Mem} {x1 : Int32} {x2 : Int32} (h : KL g M) : pm2 g (fX13_planOne M x1 x2) := by
  unfold fX13_planOne
  repeat' first | assumption | with_reducible apply KL_sI | with_reducible apply KL_sL | with_reducible apply KL_aI | with_reducible exact p2_none | with_reducible apply p2_some | with_reducible apply p2_ite | with_reducible apply p2_pu | with_reducible apply p2_ck | with_reducible apply p2_zz | with_reducible apply p2_nz | with_reducible apply p2_ld | with_reducible apply p2_st | with_reducible apply p2_b1m | with_reducible apply p2_b1p | with_reducible apply p2_b2 | with_reducible apply pl_fX13_planOne_l9 | intro _
theorem pl_fX13_planTwo_b103 {g : Int64} {a9 : Mem → Int32 → Int32 → Int32 → Int32 → Int32 → Option (Int32 × Mem)} (ha9 : ∀ (y0 : Mem) (y1 : Int32) (y2 : Int32) (y3 : Int32) (y4 : Int32) (y5 : Int32), KL g y0 → pm2 g (a9 y0 y1 y2 y3 y4 y5)) {M : Mem} {x1 : Int32} {x2 : Int32} {x3 : Int32} {x4 : Int32} {x5 : Int32} (h : KL g M) : pm2 g (fX13_planTwo_b103 a9 M x1 x2 x3 x4 x5) := by
  unfold fX13_planTwo_b103
  repeat' first | assumption | with_reducible apply KL_sI | with_reducible apply KL_sL | with_reducible apply KL_aI | with_reducible exact p2_none | with_reducible apply p2_some | with_reducible apply p2_ite | with_reducible apply p2_pu | with_reducible apply p2_ck | with_reducible apply p2_zz | with_reducible apply p2_nz | with_reducible apply p2_ld | with_reducible apply p2_st | with_reducible apply p2_b1m | with_reducible apply p2_b1p | with_reducible apply p2_b2 | with_reducible apply ha9 | intro _
theorem pl_fX13_planTwo_b96 {g : Int64} {a9 : Mem → Int32 → Int32 → Int32 → Int32 → Int32 → Option (Int32 × Mem)} (ha9 : ∀ (y0 : Mem) (y1 : Int32) (y2 : Int32) (y3 : Int32) (y4 : Int32) (y5 : Int32), KL g y0 → pm2 g (a9 y0 y1 y2 y3 y4 y5)) {M : Mem} {x1 : Int32} {x2 : Int32} {x5 : Int32} {x6 : Int32} {x7 : Int32} (h : KL g M) : pm2 g (fX13_planTwo_b96 a9 M x1 x2 x5 x6 x7) := by
  unfold fX13_planTwo_b96
  repeat' first | assumption | with_reducible apply KL_sI | with_reducible apply KL_sL | with_reducible apply KL_aI | with_reducible exact p2_none | with_reducible apply p2_some | with_reducible apply p2_ite | with_reducible apply p2_pu | with_reducible apply p2_ck | with_reducible apply p2_zz | with_reducible apply p2_nz | with_reducible apply p2_ld | with_reducible apply p2_st | with_reducible apply p2_b1m | with_reducible apply p2_b1p | with_reducible apply p2_b2 | with_reducible apply ha9 | with_reducible apply pl_fX13_planTwo_b103 | intro _
theorem pl_fX13_planTwo_b33 {g : Int64} {a9 : Mem → Int32 → Int32 → Int32 → Int32 → Int32 → Option (Int32 × Mem)} (ha9 : ∀ (y0 : Mem) (y1 : Int32) (y2 : Int32) (y3 : Int32) (y4 : Int32) (y5 : Int32), KL g y0 → pm2 g (a9 y0 y1 y2 y3 y4 y5)) {M : Mem} {x1 : Int32} {x2 : Int32} {x3 : Int32} {x4 : Int32} {x5 : Int32} {s0 : Int32} (h : KL g M) : pm2 g (fX13_planTwo_b33 a9 M x1 x2 x3 x4 x5 s0) := by
  unfold fX13_planTwo_b33
  repeat' first | assumption | with_reducible apply KL_sI | with_reducible apply KL_sL | with_reducible apply KL_aI | with_reducible exact p2_none | with_reducible apply p2_some | with_reducible apply p2_ite | with_reducible apply p2_pu | with_reducible apply p2_ck | with_reducible apply p2_zz | with_reducible apply p2_nz | with_reducible apply p2_ld | with_reducible apply p2_st | with_reducible apply p2_b1m | with_reducible apply p2_b1p | with_reducible apply p2_b2 | with_reducible apply ha9 | with_reducible apply pl_fX13_triesDeed | with_reducible apply pl_fX13_planTwo_b103 | with_reducible apply pl_fX13_planOne | with_reducible apply pl_fX13_planTwo_b96 | intro _
theorem pl_fX13_planTwo_l9 {g : Int64}  : ∀ (n : Nat) (x0 : Mem) (x1 : Int32) (x2 : Int32) (x3 : Int32) (x4 : Int32) (x5 : Int32), KL g x0 → pm2 g (fX13_planTwo_l9 n x0 x1 x2 x3 x4 x5) := by
  intro n
  induction n with
  | zero => intro x0 x1 x2 x3 x4 x5 h; rw [fX13_planTwo_l9]; exact p2_none
  | succ n ih =>
    intro x0 x1 x2 x3 x4 x5 h
    rw [fX13_planTwo_l9]
    repeat' first | assumption | with_reducible apply KL_sI | with_reducible apply KL_sL | with_reducible apply KL_aI | with_reducible exact p2_none | with_reducible apply p2_some | with_reducible apply p2_ite | with_reducible apply p2_pu | with_reducible apply p2_ck | with_reducible apply p2_zz | with_reducible apply p2_nz | with_reducible apply p2_ld | with_reducible apply p2_st | with_reducible apply p2_b1m | with_reducible apply p2_b1p | with_reducible apply p2_b2 | with_reducible apply ih | with_reducible apply pl_fX13_planTwo_b33 | intro _
theorem pl_fX13_planTwo {g : Int64}  {M : Mem} {x1 : Int32} {x2 : Int32} (h : KL g M) : pm2 g (fX13_planTwo M x1 x2) := by
  unfold fX13_planTwo
  repeat' first | assumption | with_reducible apply KL_sI | with_reducible apply KL_sL | with_reducible apply KL_aI | with_reducible exact p2_none | with_reducible apply p2_some | with_reducible apply p2_ite | with_reducible apply p2_pu | with_reducible apply p2_ck | with_reducible apply p2_zz | with_reducible apply p2_nz | with_reducible apply p2_ld | with_reducible apply p2_st | with_reducible apply p2_b1m | with_reducible apply p2_b1p | with_reducible apply p2_b2 | with_reducible apply pl_fX13_planTwo_l9 | intro _
theorem pl_fX13_planThree_b103 {g : Int64} {a9 : Mem → Int32 → Int32 → Int32 → Int32 → Int32 → Option (Int32 × Mem)} (ha9 : ∀ (y0 : Mem) (y1 : Int32) (y2 : Int32) (y3 : Int32) (y4 : Int32) (y5 : Int32), KL g y0 → pm2 g (a9 y0 y1 y2 y3 y4 y5)) {M : Mem} {x1 : Int32} {x2 : Int32} {x3 : Int32} {x4 : Int32} {x5 : Int32} (h : KL g M) : pm2 g (fX13_planThree_b103 a9 M x1 x2 x3 x4 x5) := by
  unfold fX13_planThree_b103
  repeat' first | assumption | with_reducible apply KL_sI | with_reducible apply KL_sL | with_reducible apply KL_aI | with_reducible exact p2_none | with_reducible apply p2_some | with_reducible apply p2_ite | with_reducible apply p2_pu | with_reducible apply p2_ck | with_reducible apply p2_zz | with_reducible apply p2_nz | with_reducible apply p2_ld | with_reducible apply p2_st | with_reducible apply p2_b1m | with_reducible apply p2_b1p | with_reducible apply p2_b2 | with_reducible apply ha9 | intro _
theorem pl_fX13_planThree_b96 {g : Int64} {a9 : Mem → Int32 → Int32 → Int32 → Int32 → Int32 → Option (Int32 × Mem)} (ha9 : ∀ (y0 : Mem) (y1 : Int32) (y2 : Int32) (y3 : Int32) (y4 : Int32) (y5 : Int32), KL g y0 → pm2 g (a9 y0 y1 y2 y3 y4 y5)) {M : Mem} {x1 : Int32} {x2 : Int32} {x5 : Int32} {x6 : Int32} {x7 : Int32} (h : KL g M) : pm2 g (fX13_planThree_b96 a9 M x1 x2 x5 x6 x7) := by
  unfold fX13_planThree_b96
  repeat' first | assumption | with_reducible apply KL_sI | with_reducible apply KL_sL | with_reducible apply KL_aI | with_reducible exact p2_none | with_reducible apply p2_some | with_reducible apply p2_ite | with_reducible apply p2_pu | with_reducible apply p2_ck | with_reducible apply p2_zz | with_reducible apply p2_nz | with_reducible apply p2_ld | with_reducible apply p2_st | with_reducible apply p2_b1m | with_reducible apply p2_b1p | with_reducible apply p2_b2 | with_reducible apply ha9 | with_reducible apply pl_fX13_planThree_b103 | intro _
theorem pl_fX13_planThree_b33 {g : Int64} {a9 : Mem → Int32 → Int32 → Int32 → Int32 → Int32 → Option (Int32 × Mem)} (ha9 : ∀ (y0 : Mem) (y1 : Int32) (y2 : Int32) (y3 : Int32) (y4 : Int32) (y5 : Int32), KL g y0 → pm2 g (a9 y0 y1 y2 y3 y4 y5)) {M : Mem} {x1 : Int32} {x2 : Int32} {x3 : Int32} {x4 : Int32} {x5 : Int32} {s0 : Int32} (h : KL g M) : pm2 g (fX13_planThree_b33 a9 M x1 x2 x3 x4 x5 s0) := by
  unfold fX13_planThree_b33
  repeat' first | assumption | with_reducible apply KL_sI | with_reducible apply KL_sL | with_reducible apply KL_aI | with_reducible exact p2_none | with_reducible apply p2_some | with_reducible apply p2_ite | with_reducible apply p2_pu | with_reducible apply p2_ck | with_reducible apply p2_zz | with_reducible apply p2_nz | with_reducible apply p2_ld | with_reducible apply p2_st | with_reducible apply p2_b1m | with_reducible apply p2_b1p | with_reducible apply p2_b2 | with_reducible apply ha9 | with_reducible apply pl_fX13_triesDeed | with_reducible apply pl_fX13_planThree_b103 | with_reducible apply pl_fX13_planTwo | with_reducible apply pl_fX13_planThree_b96 | intro _
theorem pl_fX13_planThree_l9 {g : Int64}  : ∀ (n : Nat) (x0 : Mem) (x1 : Int32) (x2 : Int32) (x3 : Int32) (x4 : Int32) (x5 : Int32), KL g x0 → pm2 g (fX13_planThree_l9 n x0 x1 x2 x3 x4 x5) := by
  intro n
  induction n with
  | zero => intro x0 x1 x2 x3 x4 x5 h; rw [fX13_planThree_l9]; exact p2_none
  | succ n ih =>
    intro x0 x1 x2 x3 x4 x5 h
    rw [fX13_planThree_l9]
    repeat' first | assumption | with_reducible apply KL_sI | with_reducible apply KL_sL | with_reducible apply KL_aI | with_reducible exact p2_none | with_reducible apply p2_some | with_reducible apply p2_ite | with_reducible apply p2_pu | with_reducible apply p2_ck | with_reducible apply p2_zz | with_reducible apply p2_nz | with_reducible apply p2_ld | with_reducible apply p2_st | with_reducible apply p2_b1m | with_reducible apply p2_b1p | with_reducible apply p2_b2 | with_reducible apply ih | with_reducible apply pl_fX13_planThree_b33 | intro _
theorem pl_fX13_planThree {g : Int64}  {M : Mem} {x1 : Int32} {x2 : Int32} (h : KL g M) : pm2 g (fX13_planThree M x1 x2) := by
  unfold fX13_planThree
  repeat' first | assumption | with_reducible apply KL_sI | with_reducible apply KL_sL | with_reducible apply KL_aI | with_reducible exact p2_none | with_reducible apply p2_some | with_reducible apply p2_ite | with_reducible apply p2_pu | with_reducible apply p2_ck | with_reducible apply p2_zz | with_reducible apply p2_nz | with_reducible apply p2_ld | with_reducible apply p2_st | with_reducible apply p2_b1m | with_reducible apply p2_b1p | with_reducible apply p2_b2 | with_reducible apply pl_fX13_planThree_l9 | intro _
theorem pl_fX13_planFour_b103 {g : Int64} {a9 : Mem → Int32 → Int32 → Int32 → Int32 → Int32 → Option (Int32 × Mem)} (ha9 : ∀ (y0 : Mem) (y1 : Int32) (y2 : Int32) (y3 : Int32) (y4 : Int32) (y5 : Int32), KL g y0 → pm2 g (a9 y0 y1 y2 y3 y4 y5)) {M : Mem} {x1 : Int32} {x2 : Int32} {x3 : Int32} {x4 : Int32} {x5 : Int32} (h : KL g M) : pm2 g (fX13_planFour_b103 a9 M x1 x2 x3 x4 x5) := by
  unfold fX13_planFour_b103
  repeat' first | assumption | with_reducible apply KL_sI | with_reducible apply KL_sL | with_reducible apply KL_aI | with_reducible exact p2_none | with_reducible apply p2_some | with_reducible apply p2_ite | with_reducible apply p2_pu | with_reducible apply p2_ck | with_reducible apply p2_zz | with_reducible apply p2_nz | with_reducible apply p2_ld | with_reducible apply p2_st | with_reducible apply p2_b1m | with_reducible apply p2_b1p | with_reducible apply p2_b2 | with_reducible apply ha9 | intro _
theorem pl_fX13_planFour_b96 {g : Int64} {a9 : Mem → Int32 → Int32 → Int32 → Int32 → Int32 → Option (Int32 × Mem)} (ha9 : ∀ (y0 : Mem) (y1 : Int32) (y2 : Int32) (y3 : Int32) (y4 : Int32) (y5 : Int32), KL g y0 → pm2 g (a9 y0 y1 y2 y3 y4 y5)) {M : Mem} {x1 : Int32} {x2 : Int32} {x5 : Int32} {x6 : Int32} {x7 : Int32} (h : KL g M) : pm2 g (fX13_planFour_b96 a9 M x1 x2 x5 x6 x7) := by
  unfold fX13_planFour_b96
  repeat' first | assumption | with_reducible apply KL_sI | with_reducible apply KL_sL | with_reducible apply KL_aI | with_reducible exact p2_none | with_reducible apply p2_some | with_reducible apply p2_ite | with_reducible apply p2_pu | with_reducible apply p2_ck | with_reducible apply p2_zz | with_reducible apply p2_nz | with_reducible apply p2_ld | with_reducible apply p2_st | with_reducible apply p2_b1m | with_reducible apply p2_b1p | with_reducible apply p2_b2 | with_reducible apply ha9 | with_reducible apply pl_fX13_planFour_b103 | intro _
theorem pl_fX13_planFour_b33 {g : Int64} {a9 : Mem → Int32 → Int32 → Int32 → Int32 → Int32 → Option (Int32 × Mem)} (ha9 : ∀ (y0 : Mem) (y1 : Int32) (y2 : Int32) (y3 : Int32) (y4 : Int32) (y5 : Int32), KL g y0 → pm2 g (a9 y0 y1 y2 y3 y4 y5)) {M : Mem} {x1 : Int32} {x2 : Int32} {x3 : Int32} {x4 : Int32} {x5 : Int32} {s0 : Int32} (h : KL g M) : pm2 g (fX13_planFour_b33 a9 M x1 x2 x3 x4 x5 s0) := by
  unfold fX13_planFour_b33
  repeat' first | assumption | with_reducible apply KL_sI | with_reducible apply KL_sL | with_reducible apply KL_aI | with_reducible exact p2_none | with_reducible apply p2_some | with_reducible apply p2_ite | with_reducible apply p2_pu | with_reducible apply p2_ck | with_reducible apply p2_zz | with_reducible apply p2_nz | with_reducible apply p2_ld | with_reducible apply p2_st | with_reducible apply p2_b1m | with_reducible apply p2_b1p | with_reducible apply p2_b2 | with_reducible apply ha9 | with_reducible apply pl_fX13_triesDeed | with_reducible apply pl_fX13_planFour_b103 | with_reducible apply pl_fX13_planThree | with_reducible apply pl_fX13_planFour_b96 | intro _
theorem pl_fX13_planFour_l9 {g : Int64}  : ∀ (n : Nat) (x0 : Mem) (x1 : Int32) (x2 : Int32) (x3 : Int32) (x4 : Int32) (x5 : Int32), KL g x0 → pm2 g (fX13_planFour_l9 n x0 x1 x2 x3 x4 x5) := by
  intro n
  induction n with
  | zero => intro x0 x1 x2 x3 x4 x5 h; rw [fX13_planFour_l9]; exact p2_none
  | succ n ih =>
    intro x0 x1 x2 x3 x4 x5 h
    rw [fX13_planFour_l9]
    repeat' first | assumption | with_reducible apply KL_sI | with_reducible apply KL_sL | with_reducible apply KL_aI | with_reducible exact p2_none | with_reducible apply p2_some | with_reducible apply p2_ite | with_reducible apply p2_pu | with_reducible apply p2_ck | with_reducible apply p2_zz | with_reducible apply p2_nz | with_reducible apply p2_ld | with_reducible apply p2_st | with_reducible apply p2_b1m | with_reducible apply p2_b1p | with_reducible apply p2_b2 | with_reducible apply ih | with_reducible apply pl_fX13_planFour_b33 | intro _
theorem pl_fX13_planFour {g : Int64}  {M : Mem} {x1 : Int32} {x2 : Int32} (h : KL g M) : pm2 g (fX13_planFour M x1 x2) := by
  unfold fX13_planFour
  repeat' first | assumption | with_reducible apply KL_sI | with_reducible apply KL_sL | with_reducible apply KL_aI | with_reducible exact p2_none | with_reducible apply p2_some | with_reducible apply p2_ite | with_reducible apply p2_pu | with_reducible apply p2_ck | with_reducible apply p2_zz | with_reducible apply p2_nz | with_reducible apply p2_ld | with_reducible apply p2_st | with_reducible apply p2_b1m | with_reducible apply p2_b1p | with_reducible apply p2_b2 | with_reducible apply pl_fX13_planFour_l9 | intro _
theorem pl_fX13_plan_b85 {g : Int64}  {M : Mem} {x2 : Int32} {x3 : Int32} {s0 : Int32} (h : KL g M) : pm2 g (fX13_plan_b85 M x2 x3 s0) := by
  unfold fX13_plan_b85
  repeat' first | assumption | with_reducible apply KL_sI | with_reducible apply KL_sL | with_reducible apply KL_aI | with_reducible exact p2_none | with_reducible apply p2_some | with_reducible apply p2_ite | with_reducible apply p2_pu | with_reducible apply p2_ck | with_reducible apply p2_zz | with_reducible apply p2_nz | with_reducible apply p2_ld | with_reducible apply p2_st | with_reducible apply p2_b1m | with_reducible apply p2_b1p | with_reducible apply p2_b2 | intro _
theorem pl_fX13_plan {g : Int64}  {M : Mem} {x1 : Int32} {x2 : Int32} (h : KL g M) : pm2 g (fX13_plan M x1 x2) := by
  unfold fX13_plan
  repeat' first | assumption | with_reducible apply KL_sI | with_reducible apply KL_sL | with_reducible apply KL_aI | with_reducible exact p2_none | with_reducible apply p2_some | with_reducible apply p2_ite | with_reducible apply p2_pu | with_reducible apply p2_ck | with_reducible apply p2_zz | with_reducible apply p2_nz | with_reducible apply p2_ld | with_reducible apply p2_st | with_reducible apply p2_b1m | with_reducible apply p2_b1p | with_reducible apply p2_b2 | with_reducible apply pl_fX13_isWhat | with_reducible apply pl_fX13_right | with_reducible apply pl_fX13_planOne | with_reducible apply pl_fX13_plan_b85 | with_reducible apply pl_fX13_planTwo | with_reducible apply pl_fX13_planThree | with_reducible apply pl_fX13_planFour | intro _
theorem pl_fX13_restore_l32 {g : Int64}  : ∀ (n : Nat) (x0 : Mem) (x1 : Int32), KL g x0 → pm2 g (fX13_restore_l32 n x0 x1) := by
  intro n
  induction n with
  | zero => intro x0 x1 h; rw [fX13_restore_l32]; exact p2_none
  | succ n ih =>
    intro x0 x1 h
    rw [fX13_restore_l32]
    repeat' first | assumption | with_reducible apply KL_sI | with_reducible apply KL_sL | with_reducible apply KL_aI | with_reducible exact p2_none | with_reducible apply p2_some | with_reducible apply p2_ite | with_reducible apply p2_pu | with_reducible apply p2_ck | with_reducible apply p2_zz | with_reducible apply p2_nz | with_reducible apply p2_ld | with_reducible apply p2_st | with_reducible apply p2_b1m | with_reducible apply p2_b1p | with_reducible apply p2_b2 | with_reducible apply ih | with_reducible apply pl_fX13_copies | intro _
theorem pl_fX13_restore {g : Int64}  {M : Mem} (h : KL g M) : pm2 g (fX13_restore M) := by
  unfold fX13_restore
  repeat' first | assumption | with_reducible apply KL_sI | with_reducible apply KL_sL | with_reducible apply KL_aI | with_reducible exact p2_none | with_reducible apply p2_some | with_reducible apply p2_ite | with_reducible apply p2_pu | with_reducible apply p2_ck | with_reducible apply p2_zz | with_reducible apply p2_nz | with_reducible apply p2_ld | with_reducible apply p2_st | with_reducible apply p2_b1m | with_reducible apply p2_b1p | with_reducible apply p2_b2 | with_reducible apply pl_fX13_restore_l32 | intro _
theorem pl_fX13_ruin_l14 {g : Int64}  : ∀ (n : Nat) (x0 : Mem) (x1 : Int32), KL g x0 → pm2 g (fX13_ruin_l14 n x0 x1) := by
  intro n
  induction n with
  | zero => intro x0 x1 h; rw [fX13_ruin_l14]; exact p2_none
  | succ n ih =>
    intro x0 x1 h
    rw [fX13_ruin_l14]
    repeat' first | assumption | with_reducible apply KL_sI | with_reducible apply KL_sL | with_reducible apply KL_aI | with_reducible exact p2_none | with_reducible apply p2_some | with_reducible apply p2_ite | with_reducible apply p2_pu | with_reducible apply p2_ck | with_reducible apply p2_zz | with_reducible apply p2_nz | with_reducible apply p2_ld | with_reducible apply p2_st | with_reducible apply p2_b1m | with_reducible apply p2_b1p | with_reducible apply p2_b2 | with_reducible apply ih | with_reducible apply pl_fX13_goesBy | intro _
theorem pl_fX13_ruin {g : Int64}  {M : Mem} (h : KL g M) : pm2 g (fX13_ruin M) := by
  unfold fX13_ruin
  repeat' first | assumption | with_reducible apply KL_sI | with_reducible apply KL_sL | with_reducible apply KL_aI | with_reducible exact p2_none | with_reducible apply p2_some | with_reducible apply p2_ite | with_reducible apply p2_pu | with_reducible apply p2_ck | with_reducible apply p2_zz | with_reducible apply p2_nz | with_reducible apply p2_ld | with_reducible apply p2_st | with_reducible apply p2_b1m | with_reducible apply p2_b1p | with_reducible apply p2_b2 | with_reducible apply pl_fX13_lays0 | with_reducible apply pl_fX13_ruin_l14 | intro _
theorem pl_fX13_see_b35 {g : Int64}  {M : Mem} (h : KL g M) : pm2 g (fX13_see_b35 M) := by
  unfold fX13_see_b35
  repeat' first | assumption | with_reducible apply KL_sI | with_reducible apply KL_sL | with_reducible apply KL_aI | with_reducible exact p2_none | with_reducible apply p2_some | with_reducible apply p2_ite | with_reducible apply p2_pu | with_reducible apply p2_ck | with_reducible apply p2_zz | with_reducible apply p2_nz | with_reducible apply p2_ld | with_reducible apply p2_st | with_reducible apply p2_b1m | with_reducible apply p2_b1p | with_reducible apply p2_b2 | with_reducible apply pl_fX13_refuses | intro _
theorem pl_fX13_see {g : Int64}  {M : Mem} {x1 : Int32} {x2 : Int32} (h : KL g M) : pm2 g (fX13_see M x1 x2) := by
  unfold fX13_see
  repeat' first | assumption | with_reducible apply KL_sI | with_reducible apply KL_sL | with_reducible apply KL_aI | with_reducible exact p2_none | with_reducible apply p2_some | with_reducible apply p2_ite | with_reducible apply p2_pu | with_reducible apply p2_ck | with_reducible apply p2_zz | with_reducible apply p2_nz | with_reducible apply p2_ld | with_reducible apply p2_st | with_reducible apply p2_b1m | with_reducible apply p2_b1p | with_reducible apply p2_b2 | with_reducible apply pl_fX13_see_b35 | intro _
theorem pl_fX13_stays_l25 {g : Int64}  : ∀ (n : Nat) (x0 : Mem) (x1 : Int32) (x2 : Int32), KL g x0 → pm2 g (fX13_stays_l25 n x0 x1 x2) := by
  intro n
  induction n with
  | zero => intro x0 x1 x2 h; rw [fX13_stays_l25]; exact p2_none
  | succ n ih =>
    intro x0 x1 x2 h
    rw [fX13_stays_l25]
    repeat' first | assumption | with_reducible apply KL_sI | with_reducible apply KL_sL | with_reducible apply KL_aI | with_reducible exact p2_none | with_reducible apply p2_some | with_reducible apply p2_ite | with_reducible apply p2_pu | with_reducible apply p2_ck | with_reducible apply p2_zz | with_reducible apply p2_nz | with_reducible apply p2_ld | with_reducible apply p2_st | with_reducible apply p2_b1m | with_reducible apply p2_b1p | with_reducible apply p2_b2 | with_reducible apply ih | with_reducible apply pl_fX13_goesBy | intro _
theorem pl_fX13_stays {g : Int64}  {M : Mem} {x1 : Int32} (h : KL g M) : pm2 g (fX13_stays M x1) := by
  unfold fX13_stays
  repeat' first | assumption | with_reducible apply KL_sI | with_reducible apply KL_sL | with_reducible apply KL_aI | with_reducible exact p2_none | with_reducible apply p2_some | with_reducible apply p2_ite | with_reducible apply p2_pu | with_reducible apply p2_ck | with_reducible apply p2_zz | with_reducible apply p2_nz | with_reducible apply p2_ld | with_reducible apply p2_st | with_reducible apply p2_b1m | with_reducible apply p2_b1p | with_reducible apply p2_b2 | with_reducible apply pl_fX13_isWhat | with_reducible apply pl_fX13_lays0 | with_reducible apply pl_fX13_stays_l25 | intro _
theorem pl_fX13_swaps {g : Int64}  {M : Mem} {x1 : Int32} {x2 : Int32} (h : KL g M) : pm1 g (fX13_swaps M x1 x2) := by
  unfold fX13_swaps
  repeat' first | assumption | with_reducible apply KL_sI | with_reducible apply KL_sL | with_reducible apply KL_aI | with_reducible exact p1_none | with_reducible apply p1_some | with_reducible apply p1_ite | with_reducible apply p1_pu | with_reducible apply p1_ck | with_reducible apply p1_zz | with_reducible apply p1_nz | with_reducible apply p1_ld | with_reducible apply p1_st | with_reducible apply p1_b1m | with_reducible apply p1_b1p | with_reducible apply p1_b2 | intro _
theorem pl_fX13_swap_b119 {g : Int64} {a35 : Mem → Int32 → Int32 → Int32 → Int32 → Int32 → Option (Int32 × Mem)} {a52 : Mem → Int32 → Int32 → Int32 → Int32 → Int32 → Int32 → Option (Int32 × Mem)} (ha35 : ∀ (y0 : Mem) (y1 : Int32) (y2 : Int32) (y3 : Int32) (y4 : Int32) (y5 : Int32), KL g y0 → pm2 g (a35 y0 y1 y2 y3 y4 y5)) (ha52 : ∀ (y0 : Mem) (y1 : Int32) (y2 : Int32) (y3 : Int32) (y4 : Int32) (y5 : Int32) (y6 : Int32), KL g y0 → pm2 g (a52 y0 y1 y2 y3 y4 y5 y6)) {M : Mem} {x1 : Int32} {x2 : Int32} {x3 : Int32} {x4 : Int32} {x5 : Int32} {x6 : Int32} (h : KL g M) : pm2 g (fX13_swap_b119 a35 a52 M x1 x2 x3 x4 x5 x6) := by
  unfold fX13_swap_b119
  repeat' first | assumption | with_reducible apply KL_sI | with_reducible apply KL_sL | with_reducible apply KL_aI | with_reducible exact p2_none | with_reducible apply p2_some | with_reducible apply p2_ite | with_reducible apply p2_pu | with_reducible apply p2_ck | with_reducible apply p2_zz | with_reducible apply p2_nz | with_reducible apply p2_ld | with_reducible apply p2_st | with_reducible apply p2_b1m | with_reducible apply p2_b1p | with_reducible apply p2_b2 | with_reducible apply ha35 | with_reducible apply ha52 | intro _
theorem pl_fX13_swap_l52 {g : Int64} {a35 : Mem → Int32 → Int32 → Int32 → Int32 → Int32 → Option (Int32 × Mem)} (ha35 : ∀ (y0 : Mem) (y1 : Int32) (y2 : Int32) (y3 : Int32) (y4 : Int32) (y5 : Int32), KL g y0 → pm2 g (a35 y0 y1 y2 y3 y4 y5)) : ∀ (n : Nat) (x0 : Mem) (x1 : Int32) (x2 : Int32) (x3 : Int32) (x4 : Int32) (x5 : Int32) (x6 : Int32), KL g x0 → pm2 g (fX13_swap_l52 a35 n x0 x1 x2 x3 x4 x5 x6) := by
  intro n
  induction n with
  | zero => intro x0 x1 x2 x3 x4 x5 x6 h; rw [fX13_swap_l52]; exact p2_none
  | succ n ih =>
    intro x0 x1 x2 x3 x4 x5 x6 h
    rw [fX13_swap_l52]
    repeat' first | assumption | with_reducible apply KL_sI | with_reducible apply KL_sL | with_reducible apply KL_aI | with_reducible exact p2_none | with_reducible apply p2_some | with_reducible apply p2_ite | with_reducible apply p2_pu | with_reducible apply p2_ck | with_reducible apply p2_zz | with_reducible apply p2_nz | with_reducible apply p2_ld | with_reducible apply p2_st | with_reducible apply p2_b1m | with_reducible apply p2_b1p | with_reducible apply p2_b2 | with_reducible apply ha35 | with_reducible apply ih | with_reducible apply pl_fX13_swaps | with_reducible apply pl_fX13_gloryIn | with_reducible apply pl_fX13_swap_b119 | intro _
theorem pl_fX13_swap_l35 {g : Int64}  : ∀ (n : Nat) (x0 : Mem) (x1 : Int32) (x2 : Int32) (x3 : Int32) (x4 : Int32) (x5 : Int32), KL g x0 → pm2 g (fX13_swap_l35 n x0 x1 x2 x3 x4 x5) := by
  intro n
  induction n with
  | zero => intro x0 x1 x2 x3 x4 x5 h; rw [fX13_swap_l35]; exact p2_none
  | succ n ih =>
    intro x0 x1 x2 x3 x4 x5 h
    rw [fX13_swap_l35]
    repeat' first | assumption | with_reducible apply KL_sI | with_reducible apply KL_sL | with_reducible apply KL_aI | with_reducible exact p2_none | with_reducible apply p2_some | with_reducible apply p2_ite | with_reducible apply p2_pu | with_reducible apply p2_ck | with_reducible apply p2_zz | with_reducible apply p2_nz | with_reducible apply p2_ld | with_reducible apply p2_st | with_reducible apply p2_b1m | with_reducible apply p2_b1p | with_reducible apply p2_b2 | with_reducible apply ih | with_reducible apply pl_fX13_swap_l52 | intro _
theorem pl_fX13_swap {g : Int64}  {M : Mem} {x1 : Int32} (h : KL g M) : pm2 g (fX13_swap M x1) := by
  unfold fX13_swap
  repeat' first | assumption | with_reducible apply KL_sI | with_reducible apply KL_sL | with_reducible apply KL_aI | with_reducible exact p2_none | with_reducible apply p2_some | with_reducible apply p2_ite | with_reducible apply p2_pu | with_reducible apply p2_ck | with_reducible apply p2_zz | with_reducible apply p2_nz | with_reducible apply p2_ld | with_reducible apply p2_st | with_reducible apply p2_b1m | with_reducible apply p2_b1p | with_reducible apply p2_b2 | with_reducible apply pl_fX13_isBrother | with_reducible apply pl_fX13_gloryIn | with_reducible apply pl_fX13_swap_l35 | intro _
theorem pl_fX13_term {g : Int64}  {M : Mem} {x1 : Int32} (h : KL g M) : pm2 g (fX13_term M x1) := by
  unfold fX13_term
  repeat' first | assumption | with_reducible apply KL_sI | with_reducible apply KL_sL | with_reducible apply KL_aI | with_reducible exact p2_none | with_reducible apply p2_some | with_reducible apply p2_ite | with_reducible apply p2_pu | with_reducible apply p2_ck | with_reducible apply p2_zz | with_reducible apply p2_nz | with_reducible apply p2_ld | with_reducible apply p2_st | with_reducible apply p2_b1m | with_reducible apply p2_b1p | with_reducible apply p2_b2 | with_reducible apply pl_fX13_refuses | with_reducible apply pl_fX13_keeps | intro _
theorem pl_fX13_then {g : Int64}  {M : Mem} {x1 : Int32} {x2 : Int32} (h : KL g M) : pm2 g (fX13_then M x1 x2) := by
  unfold fX13_then
  repeat' first | assumption | with_reducible apply KL_sI | with_reducible apply KL_sL | with_reducible apply KL_aI | with_reducible exact p2_none | with_reducible apply p2_some | with_reducible apply p2_ite | with_reducible apply p2_pu | with_reducible apply p2_ck | with_reducible apply p2_zz | with_reducible apply p2_nz | with_reducible apply p2_ld | with_reducible apply p2_st | with_reducible apply p2_b1m | with_reducible apply p2_b1p | with_reducible apply p2_b2 | with_reducible apply pl_fX13_isWhat | with_reducible apply pl_fX13_right | with_reducible apply pl_fX13_lays0 | with_reducible apply pl_fX13_goesYears | intro _
theorem pl_fX13_undo_l26 {g : Int64}  : ∀ (n : Nat) (x0 : Mem) (x1 : Int32), KL g x0 → pm2 g (fX13_undo_l26 n x0 x1) := by
  intro n
  induction n with
  | zero => intro x0 x1 h; rw [fX13_undo_l26]; exact p2_none
  | succ n ih =>
    intro x0 x1 h
    rw [fX13_undo_l26]
    repeat' first | assumption | with_reducible apply KL_sI | with_reducible apply KL_sL | with_reducible apply KL_aI | with_reducible exact p2_none | with_reducible apply p2_some | with_reducible apply p2_ite | with_reducible apply p2_pu | with_reducible apply p2_ck | with_reducible apply p2_zz | with_reducible apply p2_nz | with_reducible apply p2_ld | with_reducible apply p2_st | with_reducible apply p2_b1m | with_reducible apply p2_b1p | with_reducible apply p2_b2 | with_reducible apply ih | intro _
theorem pl_fX13_undo {g : Int64}  {M : Mem} (h : KL g M) : pm2 g (fX13_undo M) := by
  unfold fX13_undo
  repeat' first | assumption | with_reducible apply KL_sI | with_reducible apply KL_sL | with_reducible apply KL_aI | with_reducible exact p2_none | with_reducible apply p2_some | with_reducible apply p2_ite | with_reducible apply p2_pu | with_reducible apply p2_ck | with_reducible apply p2_zz | with_reducible apply p2_nz | with_reducible apply p2_ld | with_reducible apply p2_st | with_reducible apply p2_b1m | with_reducible apply p2_b1p | with_reducible apply p2_b2 | with_reducible apply pl_fX13_undo_l26 | intro _
theorem pl_fX13_way_b33 {g : Int64}  {M : Mem} {x1 : Int32} {x2 : Int32} {s0 : Int32} (h : KL g M) : pm2 g (fX13_way_b33 M x1 x2 s0) := by
  unfold fX13_way_b33
  repeat' first | assumption | with_reducible apply KL_sI | with_reducible apply KL_sL | with_reducible apply KL_aI | with_reducible exact p2_none | with_reducible apply p2_some | with_reducible apply p2_ite | with_reducible apply p2_pu | with_reducible apply p2_ck | with_reducible apply p2_zz | with_reducible apply p2_nz | with_reducible apply p2_ld | with_reducible apply p2_st | with_reducible apply p2_b1m | with_reducible apply p2_b1p | with_reducible apply p2_b2 | with_reducible apply pl_fX13_right | intro _
theorem pl_fX13_way_b32 {g : Int64}  {M : Mem} {x1 : Int32} {x2 : Int32} (h : KL g M) : pm2 g (fX13_way_b32 M x1 x2) := by
  unfold fX13_way_b32
  repeat' first | assumption | with_reducible apply KL_sI | with_reducible apply KL_sL | with_reducible apply KL_aI | with_reducible exact p2_none | with_reducible apply p2_some | with_reducible apply p2_ite | with_reducible apply p2_pu | with_reducible apply p2_ck | with_reducible apply p2_zz | with_reducible apply p2_nz | with_reducible apply p2_ld | with_reducible apply p2_st | with_reducible apply p2_b1m | with_reducible apply p2_b1p | with_reducible apply p2_b2 | with_reducible apply pl_fX13_way_b33 | intro _
theorem pl_fX13_way {g : Int64}  {M : Mem} {x1 : Int32} {x2 : Int32} (h : KL g M) : pm2 g (fX13_way M x1 x2) := by
  unfold fX13_way
  repeat' first | assumption | with_reducible apply KL_sI | with_reducible apply KL_sL | with_reducible apply KL_aI | with_reducible exact p2_none | with_reducible apply p2_some | with_reducible apply p2_ite | with_reducible apply p2_pu | with_reducible apply p2_ck | with_reducible apply p2_zz | with_reducible apply p2_nz | with_reducible apply p2_ld | with_reducible apply p2_st | with_reducible apply p2_b1m | with_reducible apply p2_b1p | with_reducible apply p2_b2 | with_reducible apply pl_fX13_isBrother | with_reducible apply pl_fX13_way_b32 | with_reducible apply pl_fX13_way_b33 | intro _
theorem pl_fX13_wins_b35 {g : Int64}  {M : Mem} {x1 : Int32} {x2 : Int32} {s0 : Int32} (h : KL g M) : pm2 g (fX13_wins_b35 M x1 x2 s0) := by
  unfold fX13_wins_b35
  repeat' first | assumption | with_reducible apply KL_sI | with_reducible apply KL_sL | with_reducible apply KL_aI | with_reducible exact p2_none | with_reducible apply p2_some | with_reducible apply p2_ite | with_reducible apply p2_pu | with_reducible apply p2_ck | with_reducible apply p2_zz | with_reducible apply p2_nz | with_reducible apply p2_ld | with_reducible apply p2_st | with_reducible apply p2_b1m | with_reducible apply p2_b1p | with_reducible apply p2_b2 | with_reducible apply pl_fX13_right | intro _
theorem pl_fX13_wins_b34 {g : Int64}  {M : Mem} {x1 : Int32} {x2 : Int32} (h : KL g M) : pm2 g (fX13_wins_b34 M x1 x2) := by
  unfold fX13_wins_b34
  repeat' first | assumption | with_reducible apply KL_sI | with_reducible apply KL_sL | with_reducible apply KL_aI | with_reducible exact p2_none | with_reducible apply p2_some | with_reducible apply p2_ite | with_reducible apply p2_pu | with_reducible apply p2_ck | with_reducible apply p2_zz | with_reducible apply p2_nz | with_reducible apply p2_ld | with_reducible apply p2_st | with_reducible apply p2_b1m | with_reducible apply p2_b1p | with_reducible apply p2_b2 | with_reducible apply pl_fX13_wins_b35 | intro _
theorem pl_fX13_wins {g : Int64}  {M : Mem} {x1 : Int32} {x2 : Int32} (h : KL g M) : pm2 g (fX13_wins M x1 x2) := by
  unfold fX13_wins
  repeat' first | assumption | with_reducible apply KL_sI | with_reducible apply KL_sL | with_reducible apply KL_aI | with_reducible exact p2_none | with_reducible apply p2_some | with_reducible apply p2_ite | with_reducible apply p2_pu | with_reducible apply p2_ck | with_reducible apply p2_zz | with_reducible apply p2_nz | with_reducible apply p2_ld | with_reducible apply p2_st | with_reducible apply p2_b1m | with_reducible apply p2_b1p | with_reducible apply p2_b2 | with_reducible apply pl_fX13_wins_b34 | with_reducible apply pl_fX13_wins_b35 | intro _
theorem pl_fX13_years_b29 {g : Int64}  {M : Mem} (h : KL g M) : pm2 g (fX13_years_b29 M) := by
  unfold fX13_years_b29
  repeat' first | assumption | with_reducible apply KL_sI | with_reducible apply KL_sL | with_reducible apply KL_aI | with_reducible exact p2_none | with_reducible apply p2_some | with_reducible apply p2_ite | with_reducible apply p2_pu | with_reducible apply p2_ck | with_reducible apply p2_zz | with_reducible apply p2_nz | with_reducible apply p2_ld | with_reducible apply p2_st | with_reducible apply p2_b1m | with_reducible apply p2_b1p | with_reducible apply p2_b2 | with_reducible apply pl_fX13_refuses | intro _
theorem pl_fX13_years {g : Int64}  {M : Mem} {x1 : Int32} (h : KL g M) : pm2 g (fX13_years M x1) := by
  unfold fX13_years
  repeat' first | assumption | with_reducible apply KL_sI | with_reducible apply KL_sL | with_reducible apply KL_aI | with_reducible exact p2_none | with_reducible apply p2_some | with_reducible apply p2_ite | with_reducible apply p2_pu | with_reducible apply p2_ck | with_reducible apply p2_zz | with_reducible apply p2_nz | with_reducible apply p2_ld | with_reducible apply p2_st | with_reducible apply p2_b1m | with_reducible apply p2_b1p | with_reducible apply p2_b2 | with_reducible apply pl_fX13_years_b29 | with_reducible apply pl_fX13_keeps | with_reducible apply pl_fX13_goesYears | intro _
