abbrev Mem : Type := (Nat → Nat → Int32) × (Nat → Nat → Int64) × (Nat → Nat → Nat)
def gI (M : Mem) (a j : Nat) : Int32 := M.1 a j
def gL (M : Mem) (a j : Nat) : Int64 := M.2.1 a j
def gR (M : Mem) (a j : Nat) : Nat := M.2.2 a j
def aI (M : Mem) (a : Nat) (f : Nat → Int32) : Mem := (va_up M.1 a f, M.2.1, M.2.2)
def aL (M : Mem) (a : Nat) (f : Nat → Int64) : Mem := (M.1, va_up M.2.1 a f, M.2.2)
def aR (M : Mem) (a : Nat) (f : Nat → Nat) : Mem := (M.1, M.2.1, va_up M.2.2 a f)
def sI (M : Mem) (a j : Nat) (v : Int32) : Mem := aI M a (upd (M.1 a) j v)
def sL (M : Mem) (a j : Nat) (v : Int64) : Mem := aL M a (vp_updL (M.2.1 a) j v)
def sR (M : Mem) (a j : Nat) (v : Nat) : Mem := aR M a (va_up (M.2.2 a) j v)

def KN : Nat := 145
def kdT : List Nat := [10, 21, 20, 5, 4, 20, 20, 20, 20, 20, 20, 20, 3, 20, 20, 3, 20, 20, 20, 7, 7, 2, 20, 20, 20, 20, 20, 9, 6, 4, 20, 20, 20, 20, 20, 20, 20, 3, 20, 20, 3, 20, 20, 20, 7, 7, 20, 20, 20, 1, 2, 20, 20, 20, 20, 24, 20, 22, 20, 20, 20, 2, 20, 20, 20, 20, 2, 20, 20, 20, 20, 2, 20, 20, 20, 20, 2, 20, 20, 20, 20, 2, 20, 20, 20, 20, 2, 20, 20, 20, 20, 0, 20, 8, 20, 20, 20, 0, 20, 8, 20, 20, 20, 11, 20, 20, 20, 20, 20, 20, 20, 20, 20, 20, 20, 20, 20, 20, 20, 20, 20, 20, 20, 20, 20, 20, 20, 20, 20, 20, 20, 20, 23, 20, 20, 20, 20, 20, 20, 20, 20, 20, 20, 20, 22]
def lnT : List Nat := [0, 700, 3, 0, 0, 7, 7, 7, 7, 2, 10, 6, 0, 7, 7, 0, 7, 7, 700, 0, 0, 0, 2, 2, 12, 6, 4, 0, 0, 0, 7, 7, 7, 7, 2, 10, 6, 0, 7, 7, 0, 7, 7, 700, 0, 0, 6, 6, 40, 0, 0, 2, 2, 12, 6, 4, 30, 480, 30, 4, 4, 0, 2, 2, 12, 6, 0, 2, 2, 12, 6, 0, 2, 2, 12, 6, 0, 2, 2, 12, 6, 0, 2, 2, 12, 6, 0, 2, 2, 12, 6, 0, 1240, 0, 8, 8, 31, 0, 1240, 0, 8, 8, 128, 0, 7, 7, 7, 7, 2, 10, 6, 7, 7, 7, 7, 1400, 700, 3, 7, 7, 7, 7, 2, 10, 6, 7, 7, 7, 7, 31, 1400, 950, 9, 186, 1240, 8, 950, 1024, 16, 30, 2520, 31, 1240, 16, 1]
def kd (k : Nat) : Nat := kdT.getD k 99
def ln (k : Nat) : Nat := lnT.getD k 0
/-- the row of code of a Rule -/
def rcT (k : Nat) : Nat := if k < 40 then 18 else 43
theorem kd_lt {k : Nat} (h : kd k < 50) : k < KN := by
  rcases Nat.lt_or_ge k KN with q | q
  · exact q
  · exact absurd h (by unfold kd; rw [List.getD_eq_getElem?_getD, List.getElem?_eq_none q]; decide)
/-- the start of the world; the constants' addresses; the tables of classes; the classes of arrays -/
abbrev WX : Type := Nat × (Nat → Nat) × va_G × (Nat → ClassId)
def adr (w : WX) (i : Nat) : Nat := if i < 1000 then w.1 + i else w.2.1 (i - 1000)
def rv (w : WX) (i : Nat) : Value := .ref (adr w i)
theorem adr_lt {w : WX} {i : Nat} (h : i < KN) : adr w i = w.1 + i := if_pos (Nat.lt_trans h (by decide))
theorem rv_lt {w : WX} {i : Nat} (h : i < KN) : rv w i = .ref (w.1 + i) := by unfold rv; rw [adr_lt h]
def entK (w : WX) (k : Nat) (fI : Nat → Int32) (fL : Nat → Int64) (fR : Nat → Nat) : va_E := match kd k with
  | 0 => .inr (0, (.int (fI 0)) :: (rv w (k + 1)) :: [])
  | 1 => .inr (1, (rv w 28) :: (rv w 50) :: (rv w 55) :: (.int (fI 3)) :: (rv w 56) :: (rv w 57) :: (rv w 58) :: (rv w 59) :: (rv w 60) :: [])
  | 2 => .inr (2, (.int (fI 0)) :: (.int (fI 1)) :: (.int (fI 2)) :: (.int (fI 3)) :: (.int (fI 4)) :: (.int (fI 5)) :: (.int (fI 6)) :: (.int (fI 7)) :: (.int (fI 8)) :: (rv w (k + 1)) :: (rv w (k + 2)) :: (rv w (k + 3)) :: (rv w (k + 4)) :: [])
  | 3 => .inr (3, (.int (fI 0)) :: (rv w (k + 1)) :: (rv w (k + 2)) :: [])
  | 4 => .inr (4, (.int (fI 0)) :: (rv w (k + 1)) :: (rv w (k + 2)) :: (rv w (k + 3)) :: (rv w (k + 4)) :: (rv w (k + 5)) :: (.int (fI 6)) :: (rv w (k + 6)) :: (.int (fI 8)) :: (rv w (k + 7)) :: (rv w (k + 8)) :: (rv w (k + 11)) :: (rv w (k + 15)) :: (rv w (k + 16)) :: [])
  | 5 => .inr (5, (rv w 27) :: (rv w (fR 1)) :: (rv w 21) :: (.int (fI 3)) :: (.int (fI 4)) :: (.int (fI 5)) :: (rv w 26) :: (rv w (fR 7)) :: [])
  | 6 => .inr (6, (rv w (fR 0)) :: (rv w 46) :: (rv w 47) :: (rv w 48) :: [])
  | 7 => .inr (7, (rv w (rcT k)) :: (.int (fI 1)) :: (.int (fI 2)) :: (.int (fI 3)) :: [])
  | 8 => .inr (8, (.int (fI 0)) :: (rv w (k + 1)) :: (rv w (k + 2)) :: [])
  | 9 => .inr (9, (rv w 1) :: (.int (fI 1)) :: (.int (fI 2)) :: (.int (fI 3)) :: (.int (fI 4)) :: (.int (fI 5)) :: (rv w (fR 6)) :: [])
  | 10 => .inr (10, (rv w 1) :: (.int (fI 1)) :: (.int (fI 2)) :: (rv w 2) :: (rv w 3) :: (rv w 28) :: (rv w 49) :: (rv w 81) :: (rv w 86) :: (rv w 91) :: (rv w 93) :: (.int (fI 11)) :: (rv w 96) :: (rv w 97) :: (rv w 99) :: (rv w 102) :: [])
  | 11 => .inr (11, (.int (fI 0)) :: (.int (fI 1)) :: (.int (fI 2)) :: (.int (fI 3)) :: (.int (fI 4)) :: (.int (fI 5)) :: (.int (fI 6)) :: (.int (fI 7)) :: (rv w 104) :: (rv w 105) :: (rv w 106) :: (rv w 107) :: (rv w 108) :: (rv w 109) :: (rv w 110) :: (rv w 111) :: (rv w 112) :: (rv w 113) :: (rv w 114) :: (rv w 115) :: (rv w 116) :: (.int (fI 21)) :: (.int (fI 22)) :: (.int (fI 23)) :: (rv w 117) :: (.int (fI 25)) :: (.int (fI 26)) :: (.int (fI 27)) :: (.int (fI 28)) :: (.int (fI 29)) :: (.int (fI 30)) :: (.int (fI 31)) :: (.long (fL 32)) :: (.int (fI 33)) :: (.int (fI 34)) :: (.int (fI 35)) :: (.int (fI 36)) :: (.int (fI 37)) :: (.int (fI 38)) :: (.int (fI 39)) :: (.int (fI 40)) :: (.int (fI 41)) :: (.int (fI 42)) :: (.int (fI 43)) :: (.int (fI 44)) :: (.int (fI 45)) :: (.int (fI 46)) :: (rv w 118) :: (rv w 119) :: (rv w 120) :: (rv w 121) :: (rv w 122) :: (rv w 123) :: (rv w 124) :: (rv w 125) :: (rv w 126) :: (rv w 127) :: (rv w 128) :: (rv w 129) :: (rv w 130) :: (rv w 131) :: (rv w 132) :: (rv w 133) :: (rv w 134) :: (.int (fI 64)) :: (rv w 135) :: (rv w 136) :: (.int (fI 67)) :: (rv w 137) :: (.int (fI 69)) :: (rv w 138) :: (rv w 139) :: (rv w 140) :: (.int (fI 73)) :: (.int (fI 74)) :: (.int (fI 75)) :: (.int (fI 76)) :: (rv w 141) :: (rv w 142) :: (rv w 143) :: [])
  | 20 => .inl (w.2.2.2 0, ln k, .inl fI)
  | 21 => .inl (w.2.2.2 1, ln k, .inl fI)
  | 22 => .inl (w.2.2.2 2, ln k, .inr (.inl fL))
  | 23 => .inl (w.2.2.2 3, ln k, .inl fI)
  | _ => .inl (w.2.2.2 4, ln k, .inr (.inr (.inr (.inr fun j => some (w.1 + (61 + 5 * j))))))
def ent (w : WX) (M : Mem) (k : Nat) : va_E := entK w k (M.1 k) (M.2.1 k) (M.2.2 k)
def WL (w : WX) (M : Mem) : va_W := (List.range KN).map fun k => (w.1 + k, ent w M k)
def Wd (w : WX) (M : Mem) (H : Heap) : Prop := va_P w.2.2.1 vwCl (WL w M) H
def AA (w : WX) : Nat → Prop := fun q => w.1 ≤ q
theorem WL_at {w : WX} {M : Mem} {k : Nat} (h : k < KN) : (WL w M)[k]? = some (w.1 + k, ent w M k) := by
  unfold WL
  rw [List.getElem?_map, List.getElem?_range h]
  rfl
theorem WL_get {w : WX} {M : Mem} {k : Nat} {q : Nat × va_E} (h : (WL w M)[k]? = some q) : q.1 = w.1 + k := by
  unfold WL at h
  rw [List.getElem?_map] at h
  rcases Nat.lt_or_ge k KN with z | z
  · rw [List.getElem?_range z] at h
    cases h
    rfl
  · rw [List.getElem?_eq_none (by rw [List.length_range]; exact z)] at h
    cases h
theorem WL_D (w : WX) (M : Mem) : va_D (AA w) (WL w M) := by
  refine ⟨fun i j p q hi hj e => ?_, fun k q h => ?_⟩
  · have h1 := WL_get hi
    have h2 := WL_get hj
    omega
  · have h1 := WL_get h
    show w.1 ≤ q.1
    omega
theorem WL_set {w : WX} {M M' : Mem} {k : Nat} {e : va_E} (h : k < KN) (he : ent w M' k = e) (ho : ∀ j, j ≠ k → ent w M' j = ent w M j) : (WL w M).set k (w.1 + k, e) = WL w M' := by
  refine List.ext_getElem? fun j => ?_
  rw [List.getElem?_set]
  by_cases hj : k = j
  · subst hj
    rw [if_pos rfl, WL_at h, he, if_pos (by unfold WL; rw [List.length_map, List.length_range]; exact h)]
  · rw [if_neg hj]
    unfold WL
    rw [List.getElem?_map, List.getElem?_map]
    rcases Nat.lt_or_ge j KN with z | z
    · rw [List.getElem?_range z]
      show some (w.1 + j, ent w M j) = some (w.1 + j, ent w M' j)
      rw [ho j (fun q => hj q.symm)]
    · rw [List.getElem?_eq_none (by rw [List.length_range]; exact z)]
      rfl
theorem ent_aI {w : WX} {M : Mem} {a k : Nat} {f : Nat → Int32} (h : k ≠ a) : ent w (aI M a f) k = ent w M k := by
  show entK w k (va_up M.1 a f k) (M.2.1 k) (M.2.2 k) = _
  rw [va_up_ne _ _ h]
  rfl
theorem ent_aL {w : WX} {M : Mem} {a k : Nat} {f : Nat → Int64} (h : k ≠ a) : ent w (aL M a f) k = ent w M k := by
  show entK w k (M.1 k) (va_up M.2.1 a f k) (M.2.2 k) = _
  rw [va_up_ne _ _ h]
  rfl
theorem ent_aR {w : WX} {M : Mem} {a k : Nat} {f : Nat → Nat} (h : k ≠ a) : ent w (aR M a f) k = ent w M k := by
  show entK w k (M.1 k) (M.2.1 k) (va_up M.2.2 a f k) = _
  rw [va_up_ne _ _ h]
  rfl
theorem ent_aI_s {w : WX} {M : Mem} {a : Nat} {f : Nat → Int32} : ent w (aI M a f) a = entK w a f (M.2.1 a) (M.2.2 a) := by
  show entK w a (va_up M.1 a f a) (M.2.1 a) (M.2.2 a) = _
  rw [va_up_self]
theorem ent_aL_s {w : WX} {M : Mem} {a : Nat} {f : Nat → Int64} : ent w (aL M a f) a = entK w a (M.1 a) f (M.2.2 a) := by
  show entK w a (M.1 a) (va_up M.2.1 a f a) (M.2.2 a) = _
  rw [va_up_self]
theorem ent_aR_s {w : WX} {M : Mem} {a : Nat} {f : Nat → Nat} : ent w (aR M a f) a = entK w a (M.1 a) (M.2.1 a) f := by
  show entK w a (M.1 a) (M.2.1 a) (va_up M.2.2 a f a) = _
  rw [va_up_self]
