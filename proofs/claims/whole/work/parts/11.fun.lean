-- X1_become
def fX1_become (M : Mem) (x0 : Nat) (x1 : Nat) : Option Mem :=
  ck (kd x0 = 0) <| ck (kd x1 = 0) <| pu (gI M x1 0) fun v1 =>
  pu (sI M x0 0 (v1)) fun M2 =>
  pu (gI M2 x0 0) fun v3 =>
  cpI M2 (x1 + 1) 1240 (0) (x0 + 1) 1240 (0) (v3 * 31) fun M4 =>
  some M4

-- X3_write
def fX3_write (M : Mem) (x0 : Nat) (x1 : Nat) (x2 : Int32) : Option Mem :=
  ck (kd x0 = 2) <| ck (kd x1 = 20) <| if x2 < 0 then
    some M
  else
    if Int32.ofNat (ln x1) < x2 + 31 then
      some M
    else
      pu (gI M x0 0) fun v1 =>
      stI M x1 (ln x1) (x2) (v1) fun M2 =>
      pu (gI M2 x0 1) fun v3 =>
      stI M2 x1 (ln x1) (x2 + 1) (v3) fun M4 =>
      pu (gI M4 x0 2) fun v5 =>
      stI M4 x1 (ln x1) (x2 + 2) (v5) fun M6 =>
      pu (gI M6 x0 3) fun v7 =>
      stI M6 x1 (ln x1) (x2 + 3) (v7) fun M8 =>
      pu (gI M8 x0 4) fun v9 =>
      stI M8 x1 (ln x1) (x2 + 4) (v9) fun M10 =>
      pu (gI M10 x0 5) fun v11 =>
      stI M10 x1 (ln x1) (x2 + 5) (v11) fun M12 =>
      pu (gI M12 x0 6) fun v13 =>
      stI M12 x1 (ln x1) (x2 + 6) (v13) fun M14 =>
      pu (gI M14 x0 7) fun v15 =>
      stI M14 x1 (ln x1) (x2 + 7) (v15) fun M16 =>
      pu (gI M16 x0 8) fun v17 =>
      stI M16 x1 (ln x1) (x2 + 8) (v17) fun M18 =>
      cpI M18 (x0 + 1) 2 (0) x1 (ln x1) (x2 + 9) (2) fun M19 =>
      cpI M19 (x0 + 2) 2 (0) x1 (ln x1) (x2 + 11) (2) fun M20 =>
      cpI M20 (x0 + 3) 12 (0) x1 (ln x1) (x2 + 13) (12) fun M21 =>
      cpI M21 (x0 + 4) 6 (0) x1 (ln x1) ((x2 + 13) + 12) (6) fun M22 =>
      some M22

-- X1_keep
def fX1_keep_b32 (M : Mem) (x0 : Nat) (x1 : Nat) : Option Mem :=
  ck (kd x0 = 0) <| ck (kd x1 = 2) <| pu (gI M x0 0) fun v2 =>
  b1 (fX3_write M x1 (x0 + 1) (v2 * 31)) fun M3 =>
  pu (gI M3 x0 0) fun v4 =>
  pu (sI M3 x0 0 (v4 + 1)) fun M5 =>
  some M5

def fX1_keep (M : Mem) (x0 : Nat) (x1 : Nat) : Option Mem :=
  ck (kd x0 = 0) <| ck (kd x1 = 2) <| pu (gI M x0 0) fun v1 =>
  if v1 < 40 then
    fX1_keep_b32 M x0 x1
  else
    cpI M (x0 + 1) 1240 (31) (x0 + 1) 1240 (0) (1209) fun M6 =>
    pu (sI M6 x0 0 (39)) fun M7 =>
    fX1_keep_b32 M7 x0 x1

-- X3_read
def fX3_read (M : Mem) (x0 : Nat) (x1 : Nat) (x2 : Int32) : Option Mem :=
  ck (kd x0 = 2) <| ck (kd x1 = 20) <| if x2 < 0 then
    some M
  else
    if Int32.ofNat (ln x1) < x2 + 31 then
      some M
    else
      ldI M x1 (ln x1) (x2) fun v1 =>
      pu (sI M x0 0 (v1)) fun M2 =>
      ldI M2 x1 (ln x1) (x2 + 1) fun v3 =>
      pu (sI M2 x0 1 (v3)) fun M4 =>
      ldI M4 x1 (ln x1) (x2 + 2) fun v5 =>
      pu (sI M4 x0 2 (v5)) fun M6 =>
      ldI M6 x1 (ln x1) (x2 + 3) fun v7 =>
      pu (sI M6 x0 3 (v7)) fun M8 =>
      ldI M8 x1 (ln x1) (x2 + 4) fun v9 =>
      pu (sI M8 x0 4 (v9)) fun M10 =>
      ldI M10 x1 (ln x1) (x2 + 5) fun v11 =>
      pu (sI M10 x0 5 (v11)) fun M12 =>
      ldI M12 x1 (ln x1) (x2 + 6) fun v13 =>
      pu (sI M12 x0 6 (v13)) fun M14 =>
      ldI M14 x1 (ln x1) (x2 + 7) fun v15 =>
      pu (sI M14 x0 7 (v15)) fun M16 =>
      ldI M16 x1 (ln x1) (x2 + 8) fun v17 =>
      pu (sI M16 x0 8 (v17)) fun M18 =>
      cpI M18 x1 (ln x1) (x2 + 9) (x0 + 1) 2 (0) (2) fun M19 =>
      cpI M19 x1 (ln x1) (x2 + 11) (x0 + 2) 2 (0) (2) fun M20 =>
      cpI M20 x1 (ln x1) (x2 + 13) (x0 + 3) 12 (0) (12) fun M21 =>
      cpI M21 x1 (ln x1) ((x2 + 13) + 12) (x0 + 4) 6 (0) (6) fun M22 =>
      some M22

-- X1_takeBack
def fX1_takeBack (M : Mem) (x0 : Nat) (x1 : Nat) : Option (Int32 × Mem) :=
  ck (kd x0 = 0) <| ck (kd x1 = 2) <| pu (gI M x0 0) fun v1 =>
  if v1 = 0 then
    some (0, M)
  else
    pu (gI M x0 0) fun v2 =>
    pu (sI M x0 0 (v2 - 1)) fun M3 =>
    pu (gI M3 x0 0) fun v4 =>
    b1 (fX3_read M3 x1 (x0 + 1) (v4 * 31)) fun M5 =>
    some (1, M5)

-- X7_harvestOf
def fX7_harvestOf (M : Mem) (x1 : Int32) : Option Int32 :=
  pu (gR M 28 0) fun o1 =>
  ck (kd o1 = 4) <|
  pu (gI M o1 6) fun v2 =>
  if v2 = 0 then
    some (20)
  else
    if x1 < 0 then
      some (20)
    else
      pu (gR M 28 0) fun o3 =>
      ck (kd o3 = 4) <|
      pu (gR M 28 0) fun o4 =>
      ck (kd o4 = 4) <|
      pu (gI M o4 6) fun v5 =>
      nz (v5) <|
      ldI M (o3 + 6) 10 (x1 - x1 / v5 * v5) fun v6 =>
      some (v6)

-- X7_reap
def fX7_reap (M : Mem) (x1 : Nat) (x2 : Int32) : Option Mem :=
  ck (kd x1 = 2) <| pu (gI M x1 0) fun v1 =>
  pu (if v1 + x2 < 999 then v1 + x2 else 999) fun v2 =>
  pu (sI M x1 0 (v2)) fun M3 =>
  pu (gI M3 x1 2) fun v4 =>
  pu (gI M3 x1 2) fun v5 =>
  pu (if v4 + (v5 / 10) < 999 then v4 + (v5 / 10) else 999) fun v6 =>
  pu (sI M3 x1 2 (v6)) fun M7 =>
  some M7

-- X3_become
def fX3_become (M : Mem) (x0 : Nat) (x1 : Nat) : Option Mem :=
  ck (kd x0 = 2) <| ck (kd x1 = 2) <| pu (gI M x1 0) fun v1 =>
  pu (sI M x0 0 (v1)) fun M2 =>
  pu (gI M2 x1 1) fun v3 =>
  pu (sI M2 x0 1 (v3)) fun M4 =>
  pu (gI M4 x1 2) fun v5 =>
  pu (sI M4 x0 2 (v5)) fun M6 =>
  pu (gI M6 x1 3) fun v7 =>
  pu (sI M6 x0 3 (v7)) fun M8 =>
  pu (gI M8 x1 4) fun v9 =>
  pu (sI M8 x0 4 (v9)) fun M10 =>
  pu (gI M10 x1 5) fun v11 =>
  pu (sI M10 x0 5 (v11)) fun M12 =>
  pu (gI M12 x1 6) fun v13 =>
  pu (sI M12 x0 6 (v13)) fun M14 =>
  pu (gI M14 x1 7) fun v15 =>
  pu (sI M14 x0 7 (v15)) fun M16 =>
  pu (gI M16 x1 8) fun v17 =>
  pu (sI M16 x0 8 (v17)) fun M18 =>
  cpI M18 (x1 + 1) 2 (0) (x0 + 1) 2 (0) (2) fun M19 =>
  cpI M19 (x1 + 2) 2 (0) (x0 + 2) 2 (0) (2) fun M20 =>
  cpI M20 (x1 + 3) 12 (0) (x0 + 3) 12 (0) (12) fun M21 =>
  cpI M21 (x1 + 4) 6 (0) (x0 + 4) 6 (0) (6) fun M22 =>
  some M22

-- X7_perform
def fX7_perform (M : Mem) (x1 : Nat) (x2 : Int32) : Option (Int32 × Mem) :=
  ck (kd x1 = 2) <| if x2 < 0 then
    some (0, M)
  else
    pu (gR M 28 0) fun o1 =>
    ck (kd o1 = 4) <|
    pu (gI M o1 0) fun v2 =>
    if x2 < v2 then
      pu (gR M 28 0) fun o3 =>
      ck (kd o3 = 4) <|
      ldI M (o3 + 1) 7 (x2) fun v4 =>
      pu (gI M x1 0) fun v5 =>
      if v5 < v4 then
        pu (gI M x1 6) fun v27 =>
        pu (sI M x1 6 (v27 + 1)) fun M28 =>
        some (0, M28)
      else
        pu (gI M x1 0) fun v6 =>
        pu (gR M 28 0) fun o7 =>
        ck (kd o7 = 4) <|
        ldI M (o7 + 1) 7 (x2) fun v8 =>
        pu (sI M x1 0 (v6 - v8)) fun M9 =>
        pu (gI M9 x1 1) fun v10 =>
        pu (gR M9 28 0) fun o11 =>
        ck (kd o11 = 4) <|
        ldI M9 (o11 + 2) 7 (x2) fun v12 =>
        pu (if v10 + v12 < 99 then v10 + v12 else 99) fun v13 =>
        pu (if 0 < v13 then v13 else 0) fun v14 =>
        pu (sI M9 x1 1 (v14)) fun M15 =>
        pu (gI M15 x1 2) fun v16 =>
        pu (gR M15 28 0) fun o17 =>
        ck (kd o17 = 4) <|
        ldI M15 (o17 + 3) 7 (x2) fun v18 =>
        pu (if v16 + v18 < 999 then v16 + v18 else 999) fun v19 =>
        pu (if 0 < v19 then v19 else 0) fun v20 =>
        pu (sI M15 x1 2 (v20)) fun M21 =>
        pu (gI M21 x1 4) fun v22 =>
        ldI M21 (x1 + 2) 2 (v22) fun v23 =>
        pu (gR M21 28 0) fun o24 =>
        ck (kd o24 = 4) <|
        ldI M21 (o24 + 4) 7 (x2) fun v25 =>
        stI M21 (x1 + 2) 2 (v22) (v23 + v25) fun M26 =>
        some (1, M26)
    else
      some (0, M)

-- X7_age
def fX7_age (M : Mem) (x1 : Nat) : Option Mem :=
  ck (kd x1 = 2) <| pu (gI M x1 3) fun v1 =>
  pu (sI M x1 3 (v1 + 1)) fun M2 =>
  pu (gI M2 x1 4) fun v3 =>
  ldI M2 (x1 + 1) 2 (v3) fun v4 =>
  stI M2 (x1 + 1) 2 (v3) (v4 + 1) fun M5 =>
  pu (gI M5 x1 5) fun v6 =>
  pu (sI M5 x1 5 (v6 + 1)) fun M7 =>
  some M7

-- X8_isTold
def fX8_isTold (M : Mem) (x0 : Nat) : Option Int32 :=
  ck (kd x0 = 7) <| pu (gI M x0 2) fun v1 =>
  pu (gI M x0 1) fun v2 =>
  if v2 < v1 then
    some (1)
  else
    some (0)

-- X8_evaluate
def fX8_evaluate_b299 (a8 : Mem → Nat → Nat → Nat → Int32 → Int32 → Option (Int32 × Mem)) (M : Mem) (x0 : Nat) (x1 : Nat) (x2 : Nat) (x3 : Int32) (x4 : Int32) : Option (Int32 × Mem) :=
  ck (kd x0 = 7) <| ck (kd x1 = 20) <| ck (kd x2 = 20) <| pu (x4 + 1) fun v10 =>
  a8 M x0 x1 x2 x3 v10

def fX8_evaluate_b292 (a8 : Mem → Nat → Nat → Nat → Int32 → Int32 → Option (Int32 × Mem)) (M : Mem) (x0 : Nat) (x1 : Nat) (x2 : Nat) (x3 : Int32) (x4 : Int32) (x8 : Int32) : Option (Int32 × Mem) :=
  ck (kd x0 = 7) <| ck (kd x1 = 20) <| ck (kd x2 = 20) <| stI M x2 (ln x2) (x3 - 1) (x8) fun M9 =>
  fX8_evaluate_b299 a8 M9 x0 x1 x2 x3 x4

def fX8_evaluate_b241 (a8 : Mem → Nat → Nat → Nat → Int32 → Int32 → Option (Int32 × Mem)) (M : Mem) (x0 : Nat) (x1 : Nat) (x2 : Nat) (x3 : Int32) (x4 : Int32) (s0 : Int32) : Option (Int32 × Mem) :=
  ck (kd x0 = 7) <| ck (kd x1 = 20) <| ck (kd x2 = 20) <| fX8_evaluate_b292 a8 M x0 x1 x2 x3 x4 s0

def fX8_evaluate_b224 (a8 : Mem → Nat → Nat → Nat → Int32 → Int32 → Option (Int32 × Mem)) (M : Mem) (x0 : Nat) (x1 : Nat) (x2 : Nat) (x3 : Int32) (x4 : Int32) (s0 : Int32) : Option (Int32 × Mem) :=
  ck (kd x0 = 7) <| ck (kd x1 = 20) <| ck (kd x2 = 20) <| fX8_evaluate_b292 a8 M x0 x1 x2 x3 x4 s0

def fX8_evaluate_b207 (a8 : Mem → Nat → Nat → Nat → Int32 → Int32 → Option (Int32 × Mem)) (M : Mem) (x0 : Nat) (x1 : Nat) (x2 : Nat) (x3 : Int32) (x4 : Int32) (s0 : Int32) : Option (Int32 × Mem) :=
  ck (kd x0 = 7) <| ck (kd x1 = 20) <| ck (kd x2 = 20) <| fX8_evaluate_b292 a8 M x0 x1 x2 x3 x4 s0

def fX8_evaluate_b206 (a8 : Mem → Nat → Nat → Nat → Int32 → Int32 → Option (Int32 × Mem)) (M : Mem) (x0 : Nat) (x1 : Nat) (x2 : Nat) (x3 : Int32) (x4 : Int32) : Option (Int32 × Mem) :=
  ck (kd x0 = 7) <| ck (kd x1 = 20) <| ck (kd x2 = 20) <| fX8_evaluate_b207 a8 M x0 x1 x2 x3 x4 0

def fX8_evaluate_b187 (a8 : Mem → Nat → Nat → Nat → Int32 → Int32 → Option (Int32 × Mem)) (M : Mem) (x0 : Nat) (x1 : Nat) (x2 : Nat) (x3 : Int32) (x4 : Int32) (s0 : Int32) : Option (Int32 × Mem) :=
  ck (kd x0 = 7) <| ck (kd x1 = 20) <| ck (kd x2 = 20) <| fX8_evaluate_b292 a8 M x0 x1 x2 x3 x4 s0

def fX8_evaluate_b182 (a8 : Mem → Nat → Nat → Nat → Int32 → Int32 → Option (Int32 × Mem)) (M : Mem) (x0 : Nat) (x1 : Nat) (x2 : Nat) (x3 : Int32) (x4 : Int32) : Option (Int32 × Mem) :=
  ck (kd x0 = 7) <| ck (kd x1 = 20) <| ck (kd x2 = 20) <| fX8_evaluate_b187 a8 M x0 x1 x2 x3 x4 1

def fX8_evaluate_b290 (a8 : Mem → Nat → Nat → Nat → Int32 → Int32 → Option (Int32 × Mem)) (M : Mem) (x0 : Nat) (x1 : Nat) (x2 : Nat) (x3 : Int32) (x4 : Int32) (s0 : Int32) : Option (Int32 × Mem) :=
  ck (kd x0 = 7) <| ck (kd x1 = 20) <| ck (kd x2 = 20) <| fX8_evaluate_b292 a8 M x0 x1 x2 x3 x4 s0

def fX8_evaluate_b97 (a8 : Mem → Nat → Nat → Nat → Int32 → Int32 → Option (Int32 × Mem)) (M : Mem) (x0 : Nat) (x1 : Nat) (x2 : Nat) (x3 : Int32) (x4 : Int32) (s0 : Int32) (s1 : Int32) (s2 : Nat) : Option (Int32 × Mem) :=
  ck (kd x0 = 7) <| ck (kd x1 = 20) <| ck (kd x2 = 20) <| ck (kd s2 = 20) <| stI M s2 (ln s2) (s1) (s0) fun M14 =>
  fX8_evaluate_b299 a8 M14 x0 x1 x2 x3 x4

def fX8_evaluate_b59 (a8 : Mem → Nat → Nat → Nat → Int32 → Int32 → Option (Int32 × Mem)) (M : Mem) (x0 : Nat) (x1 : Nat) (x2 : Nat) (x3 : Int32) (x4 : Int32) (s0 : Int32) (s1 : Int32) (s2 : Nat) : Option (Int32 × Mem) :=
  ck (kd x0 = 7) <| ck (kd x1 = 20) <| ck (kd x2 = 20) <| ck (kd s2 = 20) <| stI M s2 (ln s2) (s1) (s0) fun M16 =>
  pu (x3 + 1) fun v17 =>
  fX8_evaluate_b299 a8 M16 x0 x1 x2 v17 x4

def fX8_evaluate_l8 : Nat → Mem → Nat → Nat → Nat → Int32 → Int32 → Option (Int32 × Mem)
  | 0, _, _, _, _, _, _ => none
  | n + 1, M, x0, x1, x2, x3, x4 =>
    ck (kd x0 = 7) <| ck (kd x1 = 20) <| ck (kd x2 = 20) <| pu (gI M x0 2) fun v2 =>
    if x4 < v2 then
      ldI M (rcT x0) 700 (x4) fun v4 =>
      if v4 < (-6) then
        if v4 = (-7) then
          if x3 < 1 then
            some (0, M)
          else
            ldI M x2 (ln x2) (x3 - 1) fun v13 =>
            if v13 = 0 then
              fX8_evaluate_b97 (fX8_evaluate_l8 n) M x0 x1 x2 x3 x4 1 (x3 - 1) x2
            else
              fX8_evaluate_b97 (fX8_evaluate_l8 n) M x0 x1 x2 x3 x4 0 (x3 - 1) x2
        else
          if x3 < 2 then
            some (0, M)
          else
            pu (x3 + (-1)) fun v5 =>
            ldI M x2 (ln x2) (v5 - 1) fun v6 =>
            ldI M x2 (ln x2) (v5) fun v7 =>
            if v4 = (-14) then
              pu (v6 * v7) fun v8 =>
              fX8_evaluate_b292 (fX8_evaluate_l8 n) M x0 x1 x2 v5 x4 v8
            else if v4 = (-13) then
              pu (v6 - v7) fun v11 =>
              fX8_evaluate_b292 (fX8_evaluate_l8 n) M x0 x1 x2 v5 x4 v11
            else if v4 = (-12) then
              pu (v6 + v7) fun v12 =>
              fX8_evaluate_b292 (fX8_evaluate_l8 n) M x0 x1 x2 v5 x4 v12
            else if v4 = (-11) then
              if v6 = v7 then
                fX8_evaluate_b241 (fX8_evaluate_l8 n) M x0 x1 x2 v5 x4 1
              else
                fX8_evaluate_b241 (fX8_evaluate_l8 n) M x0 x1 x2 v5 x4 0
            else if v4 = (-10) then
              if v6 < v7 then
                fX8_evaluate_b224 (fX8_evaluate_l8 n) M x0 x1 x2 v5 x4 1
              else
                fX8_evaluate_b224 (fX8_evaluate_l8 n) M x0 x1 x2 v5 x4 0
            else if v4 = (-9) then
              if v6 = 0 then
                fX8_evaluate_b206 (fX8_evaluate_l8 n) M x0 x1 x2 v5 x4
              else
                if v7 = 0 then
                  fX8_evaluate_b206 (fX8_evaluate_l8 n) M x0 x1 x2 v5 x4
                else
                  fX8_evaluate_b207 (fX8_evaluate_l8 n) M x0 x1 x2 v5 x4 1
            else if v4 = (-8) then
              if v6 = 0 then
                if v7 = 0 then
                  fX8_evaluate_b187 (fX8_evaluate_l8 n) M x0 x1 x2 v5 x4 0
                else
                  fX8_evaluate_b182 (fX8_evaluate_l8 n) M x0 x1 x2 v5 x4
              else
                fX8_evaluate_b182 (fX8_evaluate_l8 n) M x0 x1 x2 v5 x4
            else 
              if v7 = 0 then
                fX8_evaluate_b290 (fX8_evaluate_l8 n) M x0 x1 x2 v5 x4 0
              else
                nz (v7) <|
                fX8_evaluate_b290 (fX8_evaluate_l8 n) M x0 x1 x2 v5 x4 (v6 / v7)
      else
        if x3 < Int32.ofNat (ln x2) then
          if v4 < 0 then
            ldI M x1 (ln x1) ((-1) - v4) fun v15 =>
            fX8_evaluate_b59 (fX8_evaluate_l8 n) M x0 x1 x2 x3 x4 v15 x3 x2
          else
            fX8_evaluate_b59 (fX8_evaluate_l8 n) M x0 x1 x2 x3 x4 v4 x3 x2
        else
          some (0, M)
    else
      if 0 < x3 then
        ldI M x2 (ln x2) (0) fun v3 =>
        some (v3, M)
      else
        some (0, M)

def fX8_evaluate (M : Mem) (x0 : Nat) (x1 : Nat) (x2 : Nat) : Option (Int32 × Mem) :=
  ck (kd x0 = 7) <| ck (kd x1 = 20) <| ck (kd x2 = 20) <| pu (gI M x0 1) fun v1 =>
  fX8_evaluate_l8 FU M x0 x1 x2 0 v1

-- X7_liking
def fX7_liking_b56 (M : Mem) (x1 : Nat) (s0 : Int32) (s1 : Int32) : Option (Int32 × Mem) :=
  ck (kd x1 = 2) <| stI M 47 6 (s1) (s0) fun M6 =>
  pu (gI M6 x1 0) fun v7 =>
  stI M6 47 6 (3) (v7) fun M8 =>
  pu (gI M8 x1 2) fun v9 =>
  stI M8 47 6 (4) (v9) fun M10 =>
  pu (gR M10 28 0) fun o11 =>
  ck (kd o11 = 4) <|
  b2 (fX8_evaluate M10 (o11 + 16) 47 48) fun v12 M13 =>
  some (v12, M13)

def fX7_liking_b30 (M : Mem) (x1 : Nat) (x2 : Int32) (x3 : Int32) (s0 : Int32) (s1 : Int32) : Option (Int32 × Mem) :=
  ck (kd x1 = 2) <| stI M 47 6 (s1) (s0) fun M4 =>
  if x3 = 0 then
    ldI M4 (x1 + 4) 6 (x2) fun v14 =>
    fX7_liking_b56 M4 x1 (-v14) 2
  else
    ldI M4 (x1 + 4) 6 (x2) fun v5 =>
    fX7_liking_b56 M4 x1 v5 2

def fX7_liking (M : Mem) (x1 : Nat) (x2 : Int32) (x3 : Int32) : Option (Int32 × Mem) :=
  ck (kd x1 = 2) <| ldI M (x1 + 2) 2 (x3) fun v1 =>
  stI M 47 6 (0) (v1) fun M2 =>
  pu (gI M2 x1 4) fun v3 =>
  if v3 = x3 then
    fX7_liking_b30 M2 x1 x2 x3 1 1
  else
    fX7_liking_b30 M2 x1 x2 x3 0 1

-- X7_followers
def fX7_followers_b96 (a5 : Mem → Nat → Int32 → Int32 → Int32 → Option (Int32 × Mem)) (M : Mem) (x1 : Nat) (x2 : Int32) (x3 : Int32) (x4 : Int32) : Option (Int32 × Mem) :=
  ck (kd x1 = 2) <| pu (x4 + 1) fun v6 =>
  a5 M x1 x2 x3 v6

def fX7_followers_b86 (a5 : Mem → Nat → Int32 → Int32 → Int32 → Option (Int32 × Mem)) (M : Mem) (x1 : Nat) (x2 : Int32) (x3 : Int32) (x4 : Int32) (s0 : Int32) (s1 : Int32) : Option (Int32 × Mem) :=
  ck (kd x1 = 2) <| if s1 = s0 then
    pu (x3 ||| (1 <<< (x4 &&& 31))) fun v7 =>
    fX7_followers_b96 a5 M x1 x2 v7 x4
  else
    fX7_followers_b96 a5 M x1 x2 x3 x4

def fX7_followers_b72 (a5 : Mem → Nat → Int32 → Int32 → Int32 → Option (Int32 × Mem)) (M : Mem) (x1 : Nat) (x2 : Int32) (x3 : Int32) (x4 : Int32) (s0 : Int32) : Option (Int32 × Mem) :=
  ck (kd x1 = 2) <| if x2 = 1 then
    fX7_followers_b86 a5 M x1 x2 x3 x4 1 s0
  else
    fX7_followers_b86 a5 M x1 x2 x3 x4 0 s0

def fX7_followers_l5 : Nat → Mem → Nat → Int32 → Int32 → Int32 → Option (Int32 × Mem)
  | 0, _, _, _, _, _ => none
  | n + 1, M, x1, x2, x3, x4 =>
    ck (kd x1 = 2) <| pu (gR M 28 0) fun o1 =>
    ck (kd o1 = 4) <|
    pu (gI M o1 8) fun v2 =>
    if x4 < v2 then
      pu (gR M 28 0) fun o3 =>
      ck (kd o3 = 4) <|
      b1 (fX8_isTold M (o3 + 16)) fun v4 =>
      if v4 = 0 then
        ldI M (x1 + 4) 6 (x4) fun v5 =>
        if 0 < v5 then
          fX7_followers_b72 (fX7_followers_l5 n) M x1 x2 x3 x4 1
        else
          fX7_followers_b72 (fX7_followers_l5 n) M x1 x2 x3 x4 0
      else
        b2 (fX7_liking M x1 x4 1) fun v8 M9 =>
        b2 (fX7_liking M9 x1 x4 0) fun v10 M11 =>
        if v10 < v8 then
          fX7_followers_b72 (fX7_followers_l5 n) M11 x1 x2 x3 x4 1
        else
          fX7_followers_b72 (fX7_followers_l5 n) M11 x1 x2 x3 x4 0
    else
      some (x3, M)

def fX7_followers (M : Mem) (x1 : Nat) (x2 : Int32) : Option (Int32 × Mem) :=
  ck (kd x1 = 2) <| fX7_followers_l5 FU M x1 x2 0 0

-- X7_menOf
def fX7_menOf_b35 (a4 : Mem → Int32 → Int32 → Int32 → Option Int32) (M : Mem) (x1 : Int32) (x2 : Int32) (x3 : Int32) : Option Int32 :=
  pu (x3 + 1) fun v3 =>
  a4 M x1 x2 v3

def fX7_menOf_l4 : Nat → Mem → Int32 → Int32 → Int32 → Option Int32
  | 0, _, _, _, _ => none
  | n + 1, M, x1, x2, x3 =>
    pu (gR M 28 0) fun o1 =>
    ck (kd o1 = 4) <|
    pu (gI M o1 8) fun v2 =>
    if x3 < v2 then
      if (x1 >>> (x3 &&& 31)) &&& 1 = 0 then
        fX7_menOf_b35 (fX7_menOf_l4 n) M x1 x2 x3
      else
        pu (gR M 28 0) fun o4 =>
        ck (kd o4 = 4) <|
        ldI M (o4 + 7) 6 (x3) fun v5 =>
        pu (x2 + v5) fun v6 =>
        fX7_menOf_b35 (fX7_menOf_l4 n) M x1 v6 x3
    else
      some (x2)

def fX7_menOf (M : Mem) (x1 : Int32) : Option Int32 :=
  fX7_menOf_l4 FU M x1 0 0

-- X3_handOver
def fX3_handOver (M : Mem) (x0 : Nat) : Option Mem :=
  ck (kd x0 = 2) <| pu (gI M x0 4) fun v1 =>
  pu (sI M x0 4 (1 - v1)) fun M2 =>
  pu (sI M2 x0 5 (0)) fun M3 =>
  some M3

-- X7_turn
def fX7_turn_b148 (M : Mem) (x1 : Nat) : Option Mem :=
  ck (kd x1 = 2) <| b1 (fX3_handOver M x1) fun M5 =>
  some M5

def fX7_turn_b115 (M : Mem) (x1 : Nat) (s0 : Int32) (s1 : Int32) : Option Mem :=
  ck (kd x1 = 2) <| stI M 46 6 (s1) (s0) fun M19 =>
  pu (gR M19 28 0) fun o20 =>
  ck (kd o20 = 4) <|
  b2 (fX8_evaluate M19 (o20 + 15) 46 48) fun v21 M22 =>
  if 0 < v21 then
    pu (gI M22 x1 7) fun v23 =>
    pu (sI M22 x1 7 (v23 + 1)) fun M24 =>
    some M24
  else
    fX7_turn_b148 M22 x1

def fX7_turn (M : Mem) (x1 : Nat) : Option Mem :=
  ck (kd x1 = 2) <| pu (gI M x1 5) fun v1 =>
  pu (gI M x1 8) fun v2 =>
  if v1 < v2 then
    some M
  else
    pu (gR M 28 0) fun o3 =>
    ck (kd o3 = 4) <|
    b1 (fX8_isTold M (o3 + 15)) fun v4 =>
    if v4 = 0 then
      fX7_turn_b148 M x1
    else
      pu (gI M x1 0) fun v6 =>
      stI M 46 6 (0) (v6) fun M7 =>
      pu (gI M7 x1 1) fun v8 =>
      stI M7 46 6 (1) (v8) fun M9 =>
      pu (gI M9 x1 2) fun v10 =>
      stI M9 46 6 (2) (v10) fun M11 =>
      pu (gI M11 x1 4) fun v12 =>
      ldI M11 (x1 + 2) 2 (v12) fun v13 =>
      stI M11 46 6 (3) (v13) fun M14 =>
      pu (gI M14 x1 3) fun v15 =>
      stI M14 46 6 (4) (v15) fun M16 =>
      pu (gR M16 28 0) fun o17 =>
      ck (kd o17 = 4) <|
      pu (gI M16 (o17 + 15) 3) fun v18 =>
      if v18 = 0 then
        fX7_turn_b115 M16 x1 0 5
      else
        pu (gI M16 x1 4) fun v25 =>
        b2 (fX7_followers M16 x1 v25) fun v26 M27 =>
        b1 (fX7_menOf M27 v26) fun v28 =>
        fX7_turn_b115 M27 x1 v28 5

-- X7_wayDeed
def fX7_wayDeed (M : Mem) (x1 : Nat) (x2 : Int32) : Option Int32 :=
  ck (kd x1 = 2) <| pu (gR M 28 0) fun o1 =>
  ck (kd o1 = 4) <|
  ldI M (o1 + 5) 2 (x2) fun v2 =>
  if v2 = 0 then
    some ((-1))
  else
    ldI M (x1 + 1) 2 (x2) fun v3 =>
    nz (v2) <|
    ldI M (x1 + 3) 12 ((x2 * 6) + (v3 - v3 / v2 * v2)) fun v4 =>
    some (v4)

-- X7_live
def fX7_live (M : Mem) (x1 : Nat) (x2 : Int32) (x3 : Int32) : Option (Int32 × Mem) :=
  ck (kd x1 = 2) <| b1 (fX7_reap M x1 x2) fun M1 =>
  b2 (fX7_perform M1 x1 x3) fun v2 M3 =>
  b1 (fX7_age M3 x1) fun M4 =>
  b1 (fX7_turn M4 x1) fun M5 =>
  zz (v2) <|
  some (v2, M5)

-- X9_allows
def fX9_allows_b32 (a2 : Mem → Nat → Int32 → Int32 → Int32 → Option Int32) (M : Mem) (x0 : Nat) (x1 : Int32) (x2 : Int32) (x3 : Int32) : Option Int32 :=
  ck (kd x0 = 8) <| pu (x3 + 1) fun v3 =>
  a2 M x0 x1 x2 v3

def fX9_allows_l2 : Nat → Mem → Nat → Int32 → Int32 → Int32 → Option Int32
  | 0, _, _, _, _, _ => none
  | n + 1, M, x0, x1, x2, x3 =>
    ck (kd x0 = 8) <| pu (gI M x0 0) fun v1 =>
    if x3 < v1 then
      ldI M (x0 + 1) 8 (x3) fun v2 =>
      if v2 = x1 then
        ldI M (x0 + 2) 8 (x3) fun v4 =>
        if v4 = x2 then
          fX9_allows_b32 (fX9_allows_l2 n) M x0 x1 x2 x3
        else
          some (0)
      else
        fX9_allows_b32 (fX9_allows_l2 n) M x0 x1 x2 x3
    else
      some (1)

def fX9_allows (M : Mem) (x0 : Nat) (x1 : Int32) (x2 : Int32) : Option Int32 :=
  ck (kd x0 = 8) <| fX9_allows_l2 FU M x0 x1 x2 0

-- X2_fits
def fX2_fits_b54 (a11 : Mem → Nat → Int32 → Int32 → Int32 → Int32 → Option (Int32 × Mem)) (M : Mem) (x2 : Nat) (x3 : Int32) (x4 : Int32) (x5 : Int32) (x6 : Int32) (s0 : Int32) : Option (Int32 × Mem) :=
  ck (kd x2 = 8) <| pu (gI M 50 3) fun v4 =>
  b1 (fX7_harvestOf M v4) fun v5 =>
  b2 (fX7_live M 50 v5 s0) fun v6 M7 =>
  pu (gI M7 50 0) fun v8 =>
  b1 (fX9_allows M7 x2 x6 v8) fun v9 =>
  if v9 = 0 then
    some (0, M7)
  else
    pu (gI M7 50 0) fun v10 =>
    stI M7 56 30 (x6 - 1) (v10) fun M11 =>
    pu (x6 + 1) fun v12 =>
    a11 M11 x2 x3 x4 x5 v12

def fX2_fits_l11 : Nat → Mem → Nat → Int32 → Int32 → Int32 → Int32 → Option (Int32 × Mem)
  | 0, _, _, _, _, _, _ => none
  | n + 1, M, x2, x3, x4, x5, x6 =>
    ck (kd x2 = 8) <| if x5 < x6 then
      some (1, M)
    else
      if 30 < x6 then
        some (1, M)
      else
        if x6 = x3 then
          fX2_fits_b54 (fX2_fits_l11 n) M x2 x3 x4 x5 x6 x4
        else
          pu (gI M 50 4) fun v2 =>
          b1 (fX7_wayDeed M 50 v2) fun v3 =>
          fX2_fits_b54 (fX2_fits_l11 n) M x2 x3 x4 x5 x6 v3

def fX2_fits (M : Mem) (x1 : Nat) (x2 : Nat) (x3 : Int32) (x4 : Int32) (x5 : Int32) : Option (Int32 × Mem) :=
  ck (kd x1 = 2) <| ck (kd x2 = 8) <| b1 (fX3_become M 50 x1) fun M1 =>
  fX2_fits_l11 FU M1 x2 x3 x4 x5 1

-- X3_clearRow
def fX3_clearRow_l2 : Nat → Mem → Nat → Int32 → Option Mem
  | 0, _, _, _ => none
  | n + 1, M, x0, x1 =>
    ck (kd x0 = 20) <| if x1 < Int32.ofNat (ln x0) then
      stI M x0 (ln x0) (x1) (0) fun M1 =>
      pu (x1 + 1) fun v2 =>
      fX3_clearRow_l2 n M1 x0 v2
    else
      some M

def fX3_clearRow (M : Mem) (x0 : Nat) : Option Mem :=
  ck (kd x0 = 20) <| fX3_clearRow_l2 FU M x0 0

-- X3_found
def fX3_found (M : Mem) (x0 : Nat) : Option Mem :=
  ck (kd x0 = 2) <| pu (sI M x0 0 (50)) fun M1 =>
  pu (sI M1 x0 1 (20)) fun M2 =>
  pu (sI M2 x0 2 (0)) fun M3 =>
  pu (sI M3 x0 3 (0)) fun M4 =>
  pu (sI M4 x0 4 (0)) fun M5 =>
  pu (sI M5 x0 5 (0)) fun M6 =>
  pu (sI M6 x0 6 (0)) fun M7 =>
  pu (sI M7 x0 7 (0)) fun M8 =>
  pu (sI M8 x0 8 (1)) fun M9 =>
  b1 (fX3_clearRow M9 (x0 + 1)) fun M10 =>
  b1 (fX3_clearRow M10 (x0 + 2)) fun M11 =>
  b1 (fX3_clearRow M11 (x0 + 3)) fun M12 =>
  b1 (fX3_clearRow M12 (x0 + 4)) fun M13 =>
  some M13

-- X2_isAtRest
def fX2_isAtRest (M : Mem) (x1 : Int32) : Option Int32 :=
  ldI M 59 4 (x1) fun v1 =>
  ldI M 59 4 (x1 ^^^ 2) fun v2 =>
  if v1 < v2 then
    some (0)
  else
    ldI M 60 4 (x1) fun v3 =>
    ldI M 60 4 (x1 ^^^ 1) fun v4 =>
    if v3 < v4 then
      some (0)
    else
      some (1)

-- X2_markStores
def fX2_markStores_b81 (a2 : Mem → Int32 → Option Mem) (M : Mem) (x1 : Int32) : Option Mem :=
  pu (x1 + 1) fun v4 =>
  a2 M v4

def fX2_markStores_l2 : Nat → Mem → Int32 → Option Mem
  | 0, _, _ => none
  | n + 1, M, x1 =>
    if x1 < 30 then
      ldI M 56 30 (x1) fun v1 =>
      pu ((x1 * 16) + (v1 / 64)) fun v2 =>
      pu (1 <<< (Int32.toInt64 (v1 - v1 / 64 * 64) &&& 63)) fun v3 =>
      if v1 < 0 then
        fX2_markStores_b81 (fX2_markStores_l2 n) M x1
      else
        if v2 < 480 then
          ldL M 57 480 (v2) fun v5 =>
          if lg_cmp (v5 &&& v3) (0) = 0 then
            ldL M 57 480 (v2) fun v6 =>
            stL M 57 480 (v2) (v6 ||| v3) fun M7 =>
            ldI M7 58 30 (x1) fun v8 =>
            stI M7 58 30 (x1) (v8 + 1) fun M9 =>
            fX2_markStores_b81 (fX2_markStores_l2 n) M9 x1
          else
            fX2_markStores_b81 (fX2_markStores_l2 n) M x1
        else
          fX2_markStores_b81 (fX2_markStores_l2 n) M x1
    else
      some M

def fX2_markStores (M : Mem) : Option Mem :=
  fX2_markStores_l2 FU M 0

-- X2_playOut
def fX2_playOut_b175 (a12 : Mem → Nat → Int32 → Int32 → Nat → Int32 → Option Mem) (M : Mem) (x1 : Nat) (x2 : Int32) (x3 : Int32) (x4 : Nat) (x5 : Int32) (x8 : Int32) (s0 : Int32) (s1 : Int32) : Option Mem :=
  ck (kd x1 = 2) <| ck (kd x4 = 4) <| stI M 60 4 (s1) (s0 - x8) fun M12 =>
  pu (x5 + 1) fun v13 =>
  a12 M12 x1 x2 x3 x4 v13

def fX2_playOut_b119 (a12 : Mem → Nat → Int32 → Int32 → Nat → Int32 → Option Mem) (M : Mem) (x1 : Nat) (x2 : Int32) (x3 : Int32) (x4 : Nat) (x5 : Int32) (x7 : Int32) (x8 : Int32) (s0 : Int32) (s1 : Int32) : Option Mem :=
  ck (kd x1 = 2) <| ck (kd x4 = 4) <| stI M 59 4 (s1) (s0 - x8) fun M7 =>
  pu (gI M7 50 3) fun v8 =>
  b1 (fX7_harvestOf M7 v8) fun v9 =>
  b2 (fX7_live M7 50 v9 x7) fun v10 M11 =>
  if v10 = 0 then
    fX2_playOut_b175 a12 M11 x1 x2 x3 x4 x5 x8 0 x5
  else
    ldI M11 (x4 + 4) 7 (x7) fun v14 =>
    fX2_playOut_b175 a12 M11 x1 x2 x3 x4 x5 x8 v14 x5

def fX2_playOut_b57 (a12 : Mem → Nat → Int32 → Int32 → Nat → Int32 → Option Mem) (M : Mem) (x1 : Nat) (x2 : Int32) (x3 : Int32) (x4 : Nat) (x5 : Int32) (x6 : Int32) (x7 : Int32) (s0 : Int32) : Option Mem :=
  ck (kd x1 = 2) <| ck (kd x4 = 4) <| b1 (fX3_become M 50 x1) fun M2 =>
  pu (gI M2 50 3) fun v3 =>
  b1 (fX7_harvestOf M2 v3) fun v4 =>
  b2 (fX7_live M2 50 v4 x6) fun v5 M6 =>
  if v5 = 0 then
    fX2_playOut_b119 a12 M6 x1 x2 x3 x4 x5 x7 s0 0 x5
  else
    ldI M6 (x4 + 4) 7 (x6) fun v15 =>
    fX2_playOut_b119 a12 M6 x1 x2 x3 x4 x5 x7 s0 v15 x5

def fX2_playOut_b43 (a12 : Mem → Nat → Int32 → Int32 → Nat → Int32 → Option Mem) (M : Mem) (x1 : Nat) (x2 : Int32) (x3 : Int32) (x4 : Nat) (x5 : Int32) (x6 : Int32) (s0 : Int32) : Option Mem :=
  ck (kd x1 = 2) <| ck (kd x4 = 4) <| if x6 = s0 then
    fX2_playOut_b57 a12 M x1 x2 x3 x4 x5 x6 s0 3
  else
    fX2_playOut_b57 a12 M x1 x2 x3 x4 x5 x6 s0 0

def fX2_playOut_b29 (a12 : Mem → Nat → Int32 → Int32 → Nat → Int32 → Option Mem) (M : Mem) (x1 : Nat) (x2 : Int32) (x3 : Int32) (x4 : Nat) (x5 : Int32) (s0 : Int32) : Option Mem :=
  ck (kd x1 = 2) <| ck (kd x4 = 4) <| if x5 - x5 / 2 * 2 = 0 then
    fX2_playOut_b43 a12 M x1 x2 x3 x4 x5 s0 x2
  else
    fX2_playOut_b43 a12 M x1 x2 x3 x4 x5 s0 x3

def fX2_playOut_l12 : Nat → Mem → Nat → Int32 → Int32 → Nat → Int32 → Option Mem
  | 0, _, _, _, _, _, _ => none
  | n + 1, M, x1, x2, x3, x4, x5 =>
    ck (kd x1 = 2) <| ck (kd x4 = 4) <| if x5 < 4 then
      if x5 < 2 then
        fX2_playOut_b29 (fX2_playOut_l12 n) M x1 x2 x3 x4 x5 x2
      else
        fX2_playOut_b29 (fX2_playOut_l12 n) M x1 x2 x3 x4 x5 x3
    else
      some M

def fX2_playOut (M : Mem) (x1 : Nat) (x2 : Int32) (x3 : Int32) : Option Mem :=
  ck (kd x1 = 2) <| pu (gR M 28 0) fun o1 =>
  ck (kd o1 = 4) <|
  fX2_playOut_l12 FU M x1 x2 x3 o1 0

-- X2_survey
def fX2_survey_b92 (a50 : Mem → Nat → Nat → Int32 → Option Mem) (a59 : Mem → Nat → Nat → Int32 → Int32 → Option Mem) (M : Mem) (x1 : Nat) (x2 : Nat) (x3 : Int32) (x4 : Int32) : Option Mem :=
  ck (kd x1 = 2) <| ck (kd x2 = 8) <| pu (x4 + 1) fun v6 =>
  a59 M x1 x2 x3 v6

def fX2_survey_l59 (a50 : Mem → Nat → Nat → Int32 → Option Mem) : Nat → Mem → Nat → Nat → Int32 → Int32 → Option Mem
  | 0, _, _, _, _, _ => none
  | n + 1, M, x1, x2, x3, x4 =>
    ck (kd x1 = 2) <| ck (kd x2 = 8) <| pu (gR M 28 0) fun o1 =>
    ck (kd o1 = 4) <|
    pu (gI M o1 0) fun v2 =>
    if x4 < v2 then
      b2 (fX2_fits M x1 x2 x3 x4 30) fun v4 M5 =>
      if v4 = 0 then
        fX2_survey_b92 a50 (fX2_survey_l59 a50 n) M5 x1 x2 x3 x4
      else
        b1 (fX2_markStores M5) fun M7 =>
        fX2_survey_b92 a50 (fX2_survey_l59 a50 n) M7 x1 x2 x3 x4
    else
      pu (x3 + 1) fun v3 =>
      a50 M x1 x2 v3

def fX2_survey_l50 : Nat → Mem → Nat → Nat → Int32 → Option Mem
  | 0, _, _, _, _ => none
  | n + 1, M, x1, x2, x3 =>
    ck (kd x1 = 2) <| ck (kd x2 = 8) <| if 12 < x3 then
      some M
    else
      fX2_survey_l59 (fX2_survey_l50 n) FU M x1 x2 x3 0

def fX2_survey_l26 : Nat → Mem → Nat → Nat → Int32 → Option Mem
  | 0, _, _, _, _ => none
  | n + 1, M, x1, x2, x3 =>
    ck (kd x1 = 2) <| ck (kd x2 = 8) <| if x3 < 30 then
      stI M 58 30 (x3) (0) fun M8 =>
      pu (x3 + 1) fun v9 =>
      fX2_survey_l26 n M8 x1 x2 v9
    else
      fX2_survey_l50 FU M x1 x2 1

def fX2_survey_l2 : Nat → Mem → Nat → Nat → Int32 → Option Mem
  | 0, _, _, _, _ => none
  | n + 1, M, x1, x2, x3 =>
    ck (kd x1 = 2) <| ck (kd x2 = 8) <| if x3 < 480 then
      stL M 57 480 (x3) (0) fun M10 =>
      pu (x3 + 1) fun v11 =>
      fX2_survey_l2 n M10 x1 x2 v11
    else
      fX2_survey_l26 FU M x1 x2 0

def fX2_survey (M : Mem) (x1 : Nat) (x2 : Nat) : Option Mem :=
  ck (kd x1 = 2) <| ck (kd x2 = 8) <| fX2_survey_l2 FU M x1 x2 0

-- X3_wealth
def fX3_wealth (M : Mem) (x0 : Nat) : Option Int32 :=
  ck (kd x0 = 2) <| pu (gI M x0 0) fun v1 =>
  pu (gI M x0 2) fun v2 =>
  some (v1 - v2)

-- X8_begin
def fX8_begin (M : Mem) (x0 : Nat) (x1 : Int32) : Option Mem :=
  ck (kd x0 = 7) <| pu (sI M x0 1 (x1)) fun M1 =>
  pu (sI M1 x0 2 (x1)) fun M2 =>
  pu (sI M2 x0 3 (0)) fun M3 =>
  some M3

-- X5_clear
def fX5_clear (M : Mem) (x0 : Nat) : Option Mem :=
  ck (kd x0 = 4) <| pu (sI M x0 0 (0)) fun M1 =>
  stI M1 (x0 + 5) 2 (0) (0) fun M2 =>
  stI M2 (x0 + 5) 2 (1) (0) fun M3 =>
  pu (sI M3 x0 6 (0)) fun M4 =>
  pu (sI M4 x0 8 (0)) fun M5 =>
  pu (sI M5 (x0 + 8) 0 (0)) fun M6 =>
  pu (sI M6 (x0 + 11) 0 (0)) fun M7 =>
  b1 (fX8_begin M7 (x0 + 15) 0) fun M8 =>
  b1 (fX8_begin M8 (x0 + 16) 0) fun M9 =>
  some M9

-- X6_refuse
def fX6_refuse (M : Mem) (x1 : Int32) : Option (Int32 × Mem) :=
  pu (sI M 3 3 (x1)) fun M1 =>
  pu (gI M1 27 3) fun v2 =>
  pu (sI M1 3 4 (v2)) fun M3 =>
  some (0, M3)

-- X10_isLetter
def fX10_isLetter (x0 : Int32) : Option Int32 :=
  if x0 < 97 then
    some (0)
  else
    if 122 < x0 then
      some (0)
    else
      some (1)

-- X10_isDigit
def fX10_isDigit (x0 : Int32) : Option Int32 :=
  if x0 < 48 then
    some (0)
  else
    if 57 < x0 then
      some (0)
    else
      some (1)

-- X10_isSign
def fX10_isSign (x0 : Int32) : Option Int32 :=
  if x0 = 59 then
    some (1)
  else
    if x0 = 60 then
      some (1)
    else
      if x0 = 61 then
        some (1)
      else
        if x0 = 47 then
          some (1)
        else
          if x0 < 40 then
            some (0)
          else
            if 45 < x0 then
              some (0)
            else
              if x0 = 44 then
                some (0)
              else
                some (1)

-- X8_append
def fX8_append (M : Mem) (x0 : Nat) (x1 : Int32) : Option Mem :=
  ck (kd x0 = 7) <| pu (gI M x0 2) fun v1 =>
  if v1 < 700 then
    pu (gI M x0 2) fun v2 =>
    stI M (rcT x0) 700 (v2) (x1) fun M3 =>
    pu (gI M3 x0 2) fun v4 =>
    pu (sI M3 x0 2 (v4 + 1)) fun M5 =>
    some M5
  else
    some M

-- X7_passAlone
def fX7_passAlone (M : Mem) (x1 : Nat) : Option Mem :=
  ck (kd x1 = 2) <| pu (gI M x1 3) fun v1 =>
  b1 (fX7_harvestOf M v1) fun v2 =>
  b1 (fX7_reap M x1 v2) fun M3 =>
  pu (gI M3 x1 4) fun v4 =>
  b1 (fX7_wayDeed M3 x1 v4) fun v5 =>
  b2 (fX7_perform M3 x1 v5) fun v6 M7 =>
  b1 (fX7_age M7 x1) fun M8 =>
  some M8

-- X7_passMany
def fX7_passMany_l2 : Nat → Mem → Nat → Int32 → Int32 → Option Mem
  | 0, _, _, _, _ => none
  | n + 1, M, x1, x2, x3 =>
    ck (kd x1 = 2) <| if x3 < x2 then
      pu (gI M x1 3) fun v1 =>
      b1 (fX7_harvestOf M v1) fun v2 =>
      pu (gI M x1 4) fun v3 =>
      b1 (fX7_wayDeed M x1 v3) fun v4 =>
      b2 (fX7_live M x1 v2 v4) fun v5 M6 =>
      pu (x3 + 1) fun v7 =>
      fX7_passMany_l2 n M6 x1 x2 v7
    else
      some M

def fX7_passMany (M : Mem) (x1 : Nat) (x2 : Int32) : Option Mem :=
  ck (kd x1 = 2) <| fX7_passMany_l2 FU M x1 x2 0

-- X9_add
def fX9_add (M : Mem) (x0 : Nat) (x1 : Int32) (x2 : Int32) : Option (Int32 × Mem) :=
  ck (kd x0 = 8) <| pu (gI M x0 0) fun v1 =>
  if v1 < 8 then
    pu (gI M x0 0) fun v2 =>
    stI M (x0 + 1) 8 (v2) (x1) fun M3 =>
    pu (gI M3 x0 0) fun v4 =>
    stI M3 (x0 + 2) 8 (v4) (x2) fun M5 =>
    pu (gI M5 x0 0) fun v6 =>
    pu (sI M5 x0 0 (v6 + 1)) fun M7 =>
    some (1, M7)
  else
    some (0, M)

-- X9_become
def fX9_become (M : Mem) (x0 : Nat) (x1 : Nat) : Option Mem :=
  ck (kd x0 = 8) <| ck (kd x1 = 8) <| pu (gI M x1 0) fun v1 =>
  pu (sI M x0 0 (v1)) fun M2 =>
  cpI M2 (x1 + 1) 8 (0) (x0 + 1) 8 (0) (8) fun M3 =>
  cpI M3 (x1 + 2) 8 (0) (x0 + 2) 8 (0) (8) fun M4 =>
  some M4

-- X9_last
def fX9_last_l4 : Nat → Mem → Nat → Int32 → Int32 → Option Int32
  | 0, _, _, _, _ => none
  | n + 1, M, x0, x1, x2 =>
    ck (kd x0 = 8) <| pu (gI M x0 0) fun v1 =>
    if x2 < v1 then
      ldI M (x0 + 1) 8 (x2) fun v2 =>
      pu (if x1 < v2 then v2 else x1) fun v3 =>
      pu (x2 + 1) fun v4 =>
      fX9_last_l4 n M x0 v3 v4
    else
      some (x1)

def fX9_last (M : Mem) (x0 : Nat) : Option Int32 :=
  ck (kd x0 = 8) <| fX9_last_l4 FU M x0 0 0

-- X12_chances
def fX12_chances_b44 (a6 : Int32 → Int32 → Int32 → Int32 → Int32 → Option Int32) (x1 : Int32) (x2 : Int32) (x3 : Int32) (x4 : Int32) (x5 : Int32) : Option Int32 :=
  pu (x5 + 1) fun v1 =>
  a6 x1 x2 x3 x4 v1

def fX12_chances_b41 (a6 : Int32 → Int32 → Int32 → Int32 → Int32 → Option Int32) (x1 : Int32) (x2 : Int32) (x3 : Int32) (x5 : Int32) (s0 : Int32) (s1 : Int32) : Option Int32 :=
  pu (s1 * s0) fun v2 =>
  fX12_chances_b44 a6 x1 x2 x3 v2 x5

def fX12_chances_l6 : Nat → Int32 → Int32 → Int32 → Int32 → Int32 → Option Int32
  | 0, _, _, _, _, _ => none
  | n + 1, x1, x2, x3, x4, x5 =>
    if x5 < 6 then
      if (x1 >>> (x5 &&& 31)) &&& 1 = 0 then
        fX12_chances_b44 (fX12_chances_l6 n) x1 x2 x3 x4 x5
      else
        if (x2 >>> (x5 &&& 31)) &&& 1 = 0 then
          fX12_chances_b41 (fX12_chances_l6 n) x1 x2 x3 x5 (10 - x3) x4
        else
          fX12_chances_b41 (fX12_chances_l6 n) x1 x2 x3 x5 x3 x4
    else
      some (x4)

def fX12_chances (x1 : Int32) (x2 : Int32) (x3 : Int32) : Option Int32 :=
  fX12_chances_l6 FU x1 x2 x3 1 0

-- X12_hasPlace
def fX12_hasPlace (M : Mem) (x1 : Int32) (x2 : Int32) : Option Int32 :=
  if x2 < 0 then
    some (0)
  else
    pu (gR M 28 0) fun o1 =>
    ck (kd o1 = 4) <|
    ldI M (o1 + 5) 2 (x1) fun v2 =>
    if x2 < v2 then
      some (1)
    else
      some (0)

-- X12_refuse
def fX12_refuse (M : Mem) (x1 : Int32) : Option (Int32 × Mem) :=
  ldI M 2 3 (x1) fun v1 =>
  stI M 2 3 (x1) (v1 + 1) fun M2 =>
  some ((-1), M2)

-- X12_followingSeed
def fX12_followingSeed (x0 : Int32) : Option Int32 :=
  some ((x0 * 1103515245) + 12345)

-- X12_passWithTerm
def fX12_passWithTerm (M : Mem) (x1 : Int32) : Option Mem :=
  b1 (fX3_become M 86 81) fun M1 =>
  pu (sI M1 86 8 (x1)) fun M2 =>
  b1 (fX7_passMany M2 86 30) fun M3 =>
  some M3

-- X12_fair
def fX12_fair_l2 : Nat → Mem → Int32 → Option (Int32 × Mem)
  | 0, _, _ => none
  | n + 1, M, x1 =>
    if 5 < x1 then
      some ((-1), M)
    else
      b1 (fX12_passWithTerm M x1) fun M1 =>
      pu (gI M1 86 7) fun v2 =>
      pu (gI M1 81 7) fun v3 =>
      if v2 = v3 then
        some (x1, M1)
      else
        pu (x1 + 1) fun v4 =>
        fX12_fair_l2 n M1 v4

def fX12_fair (M : Mem) : Option (Int32 × Mem) :=
  fX12_fair_l2 FU M 1

-- X12_fault
def fX12_fault (M : Mem) : Option Int32 :=
  pu (gI M 0 2) fun v1 =>
  some (v1)

-- X12_tapeNumber
def fX12_tapeNumber_b42 (a3 : Mem → Int32 → Int32 → Option Mem) (M : Mem) (x1 : Int32) (x2 : Int32) : Option Mem :=
  pu (x2 + (-8)) fun v2 =>
  a3 M x1 v2

def fX12_tapeNumber_l3 : Nat → Mem → Int32 → Int32 → Option Mem
  | 0, _, _, _ => none
  | n + 1, M, x1, x2 =>
    if x2 < 0 then
      some M
    else
      pu (gI M 0 1) fun v1 =>
      if v1 < 700 then
        pu (gI M 0 1) fun v3 =>
        stI M 1 700 (v3) (vp_nar .byte ((Int32.toInt8 (x1 >>> (x2 &&& 31))).toInt32)) fun M4 =>
        pu (gI M4 0 1) fun v5 =>
        pu (sI M4 0 1 (v5 + 1)) fun M6 =>
        fX12_tapeNumber_b42 (fX12_tapeNumber_l3 n) M6 x1 x2
      else
        fX12_tapeNumber_b42 (fX12_tapeNumber_l3 n) M x1 x2

def fX12_tapeNumber (M : Mem) (x1 : Int32) : Option Mem :=
  fX12_tapeNumber_l3 FU M x1 24

-- X12_feed
def fX12_feed (M : Mem) (x1 : Int32) (x2 : Int32) (x3 : Int32) (x4 : Int32) (x5 : Int32) : Option (Int32 × Mem) :=
  pu (gI M 0 1) fun v1 =>
  if 700 < v1 + 20 then
    some ((-1), M)
  else
    b1 (fX12_tapeNumber M x1) fun M2 =>
    b1 (fX12_tapeNumber M2 x2) fun M3 =>
    b1 (fX12_tapeNumber M3 x3) fun M4 =>
    b1 (fX12_tapeNumber M4 x4) fun M5 =>
    b1 (fX12_tapeNumber M5 x5) fun M6 =>
    pu (gI M6 0 1) fun v7 =>
    some (v7, M6)

-- X12_forget
def fX12_forget (M : Mem) : Option Mem :=
  pu (sI M 93 0 (0)) fun M1 =>
  some M1

-- X12_gloryWithSwap
def fX12_gloryWithSwap (M : Mem) (x1 : Int32) (x2 : Int32) (x3 : Int32) : Option (Int32 × Mem) :=
  b1 (fX3_become M 86 81) fun M1 =>
  pu (x1 * 6) fun v2 =>
  ldI M1 84 12 (v2 + x3) fun v3 =>
  stI M1 89 12 (v2 + x2) (v3) fun M4 =>
  ldI M4 84 12 (v2 + x2) fun v5 =>
  stI M4 89 12 (v2 + x3) (v5) fun M6 =>
  b1 (fX7_passMany M6 86 30) fun M7 =>
  ldI M7 88 2 (x1) fun v8 =>
  some (v8, M7)

-- X12_image
def fX12_image (M : Mem) : Option Mem :=
  b1 (fX3_write M 81 96 0) fun M1 =>
  b1 (fX1_become M1 97 91) fun M2 =>
  b1 (fX9_become M2 99 93) fun M3 =>
  pu (sI M3 0 11 (1)) fun M4 =>
  some M4

-- X12_least
def fX12_least_b42 (a6 : Mem → Int32 → Int32 → Int32 → Option (Int32 × Mem)) (M : Mem) (x1 : Int32) (x2 : Int32) (x3 : Int32) : Option (Int32 × Mem) :=
  pu (x3 + 1) fun v3 =>
  a6 M x1 x2 v3

def fX12_least_b32 (a6 : Mem → Int32 → Int32 → Int32 → Option (Int32 × Mem)) (M : Mem) (x3 : Int32) : Option (Int32 × Mem) :=
  pu (gI M 86 6) fun v2 =>
  fX12_least_b42 a6 M x3 v2 x3

def fX12_least_l6 : Nat → Mem → Int32 → Int32 → Int32 → Option (Int32 × Mem)
  | 0, _, _, _, _ => none
  | n + 1, M, x1, x2, x3 =>
    if 5 < x3 then
      some (x1, M)
    else
      b1 (fX12_passWithTerm M x3) fun M1 =>
      if x3 = 1 then
        fX12_least_b32 (fX12_least_l6 n) M1 x3
      else
        pu (gI M1 86 6) fun v4 =>
        if v4 < x2 then
          fX12_least_b32 (fX12_least_l6 n) M1 x3
        else
          fX12_least_b42 (fX12_least_l6 n) M1 x1 x2 x3

def fX12_least (M : Mem) : Option (Int32 × Mem) :=
  fX12_least_l6 FU M 1 0 1

-- X12_loan
def fX12_loan_b11 (M : Mem) : Option (Int32 × Mem) :=
  b2 (fX12_refuse M 1) fun v1 M2 =>
  some (v1, M2)

def fX12_loan (M : Mem) (x1 : Int32) : Option (Int32 × Mem) :=
  if x1 < 1 then
    fX12_loan_b11 M
  else
    if 99 < x1 then
      fX12_loan_b11 M
    else
      b1 (fX1_keep M 91 81) fun M3 =>
      pu (gI M3 81 0) fun v4 =>
      pu (if v4 + x1 < 999 then v4 + x1 else 999) fun v5 =>
      pu (sI M3 81 0 (v5)) fun M6 =>
      pu (gI M6 81 2) fun v7 =>
      pu (if v7 + x1 < 999 then v7 + x1 else 999) fun v8 =>
      pu (sI M6 81 2 (v8)) fun M9 =>
      pu (gI M9 81 0) fun v10 =>
      some (v10, M9)

-- X12_restore
def fX12_restore (M : Mem) : Option (Int32 × Mem) :=
  pu (gI M 0 11) fun v1 =>
  if v1 = 0 then
    some (0, M)
  else
    b1 (fX3_read M 81 96 0) fun M2 =>
    b1 (fX1_become M2 91 97) fun M3 =>
    b1 (fX9_become M3 93 99) fun M4 =>
    some (1, M4)

-- X12_ruin
def fX12_ruin_l13 : Nat → Mem → Int32 → Option (Int32 × Mem)
  | 0, _, _ => none
  | n + 1, M, x1 =>
    if 60 < x1 then
      some ((-1), M)
    else
      pu (gI M 86 2) fun v2 =>
      pu (gI M 86 0) fun v3 =>
      if v3 < v2 then
        some (x1, M)
      else
        b1 (fX7_passMany M 86 1) fun M4 =>
        pu (x1 + 1) fun v5 =>
        fX12_ruin_l13 n M4 v5

def fX12_ruin (M : Mem) : Option (Int32 × Mem) :=
  b1 (fX3_become M 86 81) fun M1 =>
  fX12_ruin_l13 FU M1 0

-- X12_see
def fX12_see_b34 (M : Mem) : Option (Int32 × Mem) :=
  b2 (fX12_refuse M 2) fun v1 M2 =>
  some (v1, M2)

def fX12_see (M : Mem) (x1 : Int32) (x2 : Int32) : Option (Int32 × Mem) :=
  if x1 < 1 then
    fX12_see_b34 M
  else
    if 30 < x1 then
      fX12_see_b34 M
    else
      if x2 < 0 then
        fX12_see_b34 M
      else
        if 999 < x2 then
          fX12_see_b34 M
        else
          b2 (fX9_add M 93 x1 x2) fun v3 M4 =>
          if v3 = 0 then
            fX12_see_b34 M4
          else
            pu (gI M4 93 0) fun v5 =>
            some (v5, M4)

-- X12_term
def fX12_term_b10 (M : Mem) : Option (Int32 × Mem) :=
  b2 (fX12_refuse M 1) fun v1 M2 =>
  some (v1, M2)

def fX12_term (M : Mem) (x1 : Int32) : Option (Int32 × Mem) :=
  if x1 < 1 then
    fX12_term_b10 M
  else
    if 5 < x1 then
      fX12_term_b10 M
    else
      b1 (fX1_keep M 91 81) fun M3 =>
      pu (gI M3 81 8) fun v4 =>
      pu (sI M3 81 8 (x1)) fun M5 =>
      some (v4, M5)

-- X12_undo
def fX12_undo (M : Mem) : Option (Int32 × Mem) :=
  b2 (fX1_takeBack M 91 81) fun v1 M2 =>
  if v1 = 0 then
    some ((-1), M2)
  else
    pu (gI M2 91 0) fun v3 =>
    some (v3, M2)

-- X12_years
def fX12_years_b26 (M : Mem) : Option (Int32 × Mem) :=
  b2 (fX12_refuse M 1) fun v1 M2 =>
  some (v1, M2)

def fX12_years (M : Mem) (x1 : Int32) : Option (Int32 × Mem) :=
  if x1 < 1 then
    fX12_years_b26 M
  else
    if 20 < x1 then
      fX12_years_b26 M
    else
      pu (gI M 81 3) fun v3 =>
      if 999 < v3 + x1 then
        fX12_years_b26 M
      else
        b1 (fX1_keep M 91 81) fun M4 =>
        b1 (fX7_passMany M4 81 x1) fun M5 =>
        pu (gI M5 81 3) fun v6 =>
        some (v6, M5)

-- X13_ahead0
def fX13_ahead0 (M : Mem) (x1 : Int32) (x2 : Int32) : Option Int32 :=
  ldI M 133 186 ((x1 + 6) + x2) fun v1 =>
  ldI M 133 186 (((x1 + 6) + 1) - x2) fun v2 =>
  some (v1 - v2)

-- X13_isGood
def fX13_isGood (M : Mem) : Option Int32 :=
  pu (gI M 103 22) fun v1 =>
  if v1 = 0 then
    some (1)
  else
    some (0)

-- X13_wrong
def fX13_wrong (M : Mem) (x1 : Int32) : Option Mem :=
  pu (gI M 103 22) fun v1 =>
  if v1 = 0 then
    pu (sI M 103 22 (x1)) fun M2 =>
    pu (gI M2 103 28) fun v3 =>
    pu (sI M2 103 23 (v3)) fun M4 =>
    some M4
  else
    some M

-- X13_byteAt
def fX13_byteAt (M : Mem) (x1 : Int32) : Option Int32 :=
  pu (gI M 103 25) fun v1 =>
  if x1 < v1 then
    ldI M 116 700 (x1) fun v2 =>
    some (v2)
  else
    some (0)

-- X13_isLetter
def fX13_isLetter (x0 : Int32) : Option Int32 :=
  if x0 < 97 then
    some (0)
  else
    if 122 < x0 then
      some (0)
    else
      some (1)

-- X13_isDigit
def fX13_isDigit (x0 : Int32) : Option Int32 :=
  if x0 < 48 then
    some (0)
  else
    if 57 < x0 then
      some (0)
    else
      some (1)

-- X13_within
def fX13_within (x0 : Int32) (x1 : Int32) (x2 : Int32) : Option Int32 :=
  if x0 < x1 then
    some (0)
  else
    if x2 < x0 then
      some (0)
    else
      some (1)

-- X13_right
def fX13_right_b16 (M : Mem) : Option (Int32 × Mem) :=
  pu (gI M 103 0) fun v2 =>
  if v2 = 0 then
    some (1, M)
  else
    some (0, M)

def fX13_right (M : Mem) (x1 : Int32) (x2 : Int32) : Option (Int32 × Mem) :=
  pu (gI M 103 0) fun v1 =>
  if v1 = 0 then
    if x1 = 0 then
      pu (sI M 103 0 (x2)) fun M3 =>
      fX13_right_b16 M3
    else
      fX13_right_b16 M
  else
    fX13_right_b16 M

-- X13_isWhat
def fX13_isWhat (M : Mem) (x1 : Int32) (x2 : Int32) : Option (Int32 × Mem) :=
  b1 (fX13_within x1 0 x2) fun v1 =>
  b2 (fX13_right M v1 1) fun v2 M3 =>
  zz (v2) <|
  some (v2, M3)

-- X13_lays0
def fX13_lays0_l2 : Nat → Mem → Int32 → Int32 → Int32 → Option Mem
  | 0, _, _, _, _ => none
  | n + 1, M, x1, x2, x3 =>
    if x3 < 31 then
      ldI M 133 186 (x1 + x3) fun v1 =>
      stI M 133 186 (x2 + x3) (v1) fun M2 =>
      pu (x3 + 1) fun v3 =>
      fX13_lays0_l2 n M2 x1 x2 v3
    else
      some M

def fX13_lays0 (M : Mem) (x1 : Int32) (x2 : Int32) : Option Mem :=
  fX13_lays0_l2 FU M x1 x2 0

-- X13_harvestOf
def fX13_harvestOf (M : Mem) (x1 : Int32) : Option Int32 :=
  pu (gI M 103 2) fun v1 =>
  if v1 = 0 then
    some (20)
  else
    pu (gI M 103 2) fun v2 =>
    nz (v2) <|
    ldI M 109 10 (x1 - x1 / v2 * v2) fun v3 =>
    some (v3)

-- X13_kept
def fX13_kept (x0 : Int32) (x1 : Int32) (x2 : Int32) : Option Int32 :=
  if x0 < x1 then
    some (x1)
  else
    if x2 < x0 then
      some (x2)
    else
      some (x0)

-- X13_gathers
def fX13_gathers (M : Mem) (x1 : Int32) (x2 : Int32) : Option Mem :=
  ldI M 133 186 (x1 + 0) fun v1 =>
  b1 (fX13_kept (v1 + x2) 0 999) fun v2 =>
  stI M 133 186 (x1 + 0) (v2) fun M3 =>
  ldI M3 133 186 (x1 + 2) fun v4 =>
  ldI M3 133 186 (x1 + 2) fun v5 =>
  b1 (fX13_kept (v4 + (v5 / 10)) 0 999) fun v6 =>
  stI M3 133 186 (x1 + 2) (v6) fun M7 =>
  some M7

-- X13_wayOf
def fX13_wayOf (M : Mem) (x1 : Int32) (x2 : Int32) : Option Int32 :=
  ldI M 108 2 (x2) fun v1 =>
  if v1 = 0 then
    some ((-1))
  else
    ldI M 133 186 ((x1 + 10) + x2) fun v2 =>
    ldI M 108 2 (x2) fun v3 =>
    nz (v3) <|
    ldI M 133 186 (((x1 + 13) + (6 * x2)) + (v2 - v2 / v3 * v3)) fun v4 =>
    some (v4)

-- X13_does
def fX13_does (M : Mem) (x1 : Int32) (x2 : Int32) : Option (Int32 × Mem) :=
  if x2 = (-1) then
    some (0, M)
  else
    ldI M 104 7 (x2) fun v1 =>
    ldI M 133 186 (x1 + 0) fun v2 =>
    if v2 < v1 then
      pu (x1 + 8) fun v20 =>
      ldI M 133 186 (v20) fun v21 =>
      stI M 133 186 (v20) (v21 + 1) fun M22 =>
      some (0, M22)
    else
      pu (x1 + 0) fun v3 =>
      ldI M 133 186 (v3) fun v4 =>
      ldI M 104 7 (x2) fun v5 =>
      stI M 133 186 (v3) (v4 - v5) fun M6 =>
      ldI M6 133 186 (x1 + 1) fun v7 =>
      ldI M6 105 7 (x2) fun v8 =>
      b1 (fX13_kept (v7 + v8) 0 99) fun v9 =>
      stI M6 133 186 (x1 + 1) (v9) fun M10 =>
      ldI M10 133 186 (x1 + 2) fun v11 =>
      ldI M10 106 7 (x2) fun v12 =>
      b1 (fX13_kept (v11 + v12) 0 999) fun v13 =>
      stI M10 133 186 (x1 + 2) (v13) fun M14 =>
      ldI M14 133 186 (x1 + 4) fun v15 =>
      pu ((x1 + 6) + v15) fun v16 =>
      ldI M14 133 186 (v16) fun v17 =>
      ldI M14 107 7 (x2) fun v18 =>
      stI M14 133 186 (v16) (v17 + v18) fun M19 =>
      some (1, M19)

-- X13_works
def fX13_works (x0 : Int32) (x1 : Int32) (x2 : Int32) : Option Int32 :=
  if x0 = 4 then
    if x1 = 0 then
      some (0)
    else
      if x2 = 0 then
        some (0)
      else
        some (1)
  else if x0 = 5 then
    if x1 = 0 then
      if x2 = 0 then
        some (0)
      else
        some (1)
    else
      some (1)
  else if x0 = 6 then
    if x1 < x2 then
      some (1)
    else
      some (0)
  else if x0 = 7 then
    if x1 = x2 then
      some (1)
    else
      some (0)
  else if x0 = 8 then
    some (x1 + x2)
  else if x0 = 9 then
    some (x1 - x2)
  else if x0 = 10 then
    some (x1 * x2)
  else 
    if x2 = 0 then
      some (0)
    else
      nz (x2) <|
      some (x1 / x2)

-- X13_reckons
def fX13_reckons_b140 (a4 : Mem → Int32 → Int32 → Option (Int32 × Mem)) (M : Mem) (x2 : Int32) (x3 : Int32) : Option (Int32 × Mem) :=
  a4 M x2 x3

def fX13_reckons_b67 (a4 : Mem → Int32 → Int32 → Option (Int32 × Mem)) (M : Mem) (x2 : Int32) (x3 : Int32) (s0 : Int32) (s1 : Int32) : Option (Int32 × Mem) :=
  stI M 136 950 (s1) (s0) fun M7 =>
  pu (x3 + 1) fun v8 =>
  pu (x2 + 1) fun v9 =>
  fX13_reckons_b140 a4 M7 v9 v8

def fX13_reckons_b36 (a4 : Mem → Int32 → Int32 → Option (Int32 × Mem)) (M : Mem) (x2 : Int32) (x3 : Int32) (x4 : Int32) : Option (Int32 × Mem) :=
  if x4 = 1 then
    ldI M 115 1400 (x3) fun v10 =>
    fX13_reckons_b67 a4 M x2 x3 v10 x2
  else
    ldI M 115 1400 (x3) fun v5 =>
    ldI M 135 8 (v5) fun v6 =>
    fX13_reckons_b67 a4 M x2 x3 v6 x2

def fX13_reckons_b106 (a4 : Mem → Int32 → Int32 → Option (Int32 × Mem)) (M : Mem) (x2 : Int32) (x3 : Int32) (s0 : Int32) (s1 : Int32) : Option (Int32 × Mem) :=
  stI M 136 950 (s1) (s0) fun M17 =>
  fX13_reckons_b140 a4 M17 x2 x3

def fX13_reckons_l4 : Nat → Mem → Int32 → Int32 → Option (Int32 × Mem)
  | 0, _, _, _ => none
  | n + 1, M, x2, x3 =>
    ldI M 115 1400 (x3) fun v1 =>
    if v1 = 0 then
      ldI M 136 950 (0) fun v2 =>
      some (v2, M)
    else
      ldI M 115 1400 (x3) fun v3 =>
      pu (x3 + 1) fun v4 =>
      if v3 = 1 then
        fX13_reckons_b36 (fX13_reckons_l4 n) M x2 v4 v3
      else
        if v3 = 2 then
          fX13_reckons_b36 (fX13_reckons_l4 n) M x2 v4 v3
        else
          if v3 = 3 then
            ldI M 136 950 (x2 - 1) fun v16 =>
            if v16 = 0 then
              fX13_reckons_b106 (fX13_reckons_l4 n) M x2 v4 1 (x2 - 1)
            else
              fX13_reckons_b106 (fX13_reckons_l4 n) M x2 v4 0 (x2 - 1)
          else
            pu (x2 + (-1)) fun v11 =>
            ldI M 136 950 (v11 - 1) fun v12 =>
            ldI M 136 950 (v11) fun v13 =>
            b1 (fX13_works v3 v12 v13) fun v14 =>
            stI M 136 950 (v11 - 1) (v14) fun M15 =>
            fX13_reckons_b140 (fX13_reckons_l4 n) M15 v11 v4

def fX13_reckons (M : Mem) (x1 : Int32) : Option (Int32 × Mem) :=
  fX13_reckons_l4 FU M 0 x1

-- X13_likeOf
def fX13_likeOf_b104 (M : Mem) (s0 : Int32) (s1 : Int32) : Option (Int32 × Mem) :=
  stI M 135 8 (s1) (s0) fun M10 =>
  pu (gI M10 103 7) fun v11 =>
  b2 (fX13_reckons M10 v11) fun v12 M13 =>
  some (v12, M13)

def fX13_likeOf_b84 (M : Mem) (x3 : Int32) (x5 : Int32) (s0 : Int32) (s1 : Int32) : Option (Int32 × Mem) :=
  stI M 135 8 (s1) (s0) fun M9 =>
  if x3 = 0 then
    fX13_likeOf_b104 M9 (0 - x5) 7
  else
    fX13_likeOf_b104 M9 x5 7

def fX13_likeOf (M : Mem) (x1 : Int32) (x2 : Int32) (x3 : Int32) (x4 : Int32) : Option (Int32 × Mem) :=
  ldI M 133 186 ((x1 + 25) + x2) fun v1 =>
  ldI M 133 186 (x1 + 0) fun v2 =>
  stI M 135 8 (3) (v2) fun M3 =>
  ldI M3 133 186 (x1 + 2) fun v4 =>
  stI M3 135 8 (4) (v4) fun M5 =>
  ldI M5 133 186 ((x1 + 6) + x3) fun v6 =>
  stI M5 135 8 (5) (v6 + x4) fun M7 =>
  ldI M7 133 186 (x1 + 4) fun v8 =>
  if v8 = x3 then
    fX13_likeOf_b84 M7 x3 v1 1 6
  else
    fX13_likeOf_b84 M7 x3 v1 0 6

-- X13_follows
def fX13_follows_b62 (M : Mem) (x5 : Int32) (s0 : Int32) (s1 : Int32) (s2 : Int32) (s3 : Int32) : Option (Int32 × Mem) :=
  b2 (fX13_likeOf M s3 s2 s1 s0) fun v4 M5 =>
  if x5 < v4 then
    some (1, M5)
  else
    some (0, M5)

def fX13_follows_b42 (M : Mem) (x1 : Int32) (x2 : Int32) (x3 : Int32) (x4 : Int32) (s0 : Int32) (s1 : Int32) (s2 : Int32) (s3 : Int32) : Option (Int32 × Mem) :=
  b2 (fX13_likeOf M s3 s2 s1 s0) fun v2 M3 =>
  if x3 = 1 then
    fX13_follows_b62 M3 v2 x4 1 x2 x1
  else
    fX13_follows_b62 M3 v2 0 1 x2 x1

def fX13_follows (M : Mem) (x1 : Int32) (x2 : Int32) (x3 : Int32) (x4 : Int32) : Option (Int32 × Mem) :=
  pu (gI M 103 7) fun v1 =>
  if v1 = (-1) then
    ldI M 133 186 ((x1 + 25) + x2) fun v6 =>
    if 0 < v6 then
      some (1, M)
    else
      some (0, M)
  else
    if x3 = 0 then
      fX13_follows_b42 M x1 x2 x3 x4 x4 0 x2 x1
    else
      fX13_follows_b42 M x1 x2 x3 x4 0 0 x2 x1

-- X13_followers
def fX13_followers_b36 (a5 : Mem → Int32 → Int32 → Int32 → Int32 → Option (Int32 × Mem)) (M : Mem) (x1 : Int32) (x2 : Int32) (x4 : Int32) (s0 : Int32) (s1 : Int32) : Option (Int32 × Mem) :=
  pu (s1 ||| s0) fun v4 =>
  pu (x4 + 1) fun v5 =>
  a5 M x1 x2 v4 v5

def fX13_followers_l5 : Nat → Mem → Int32 → Int32 → Int32 → Int32 → Option (Int32 × Mem)
  | 0, _, _, _, _, _ => none
  | n + 1, M, x1, x2, x3, x4 =>
    pu (gI M 103 3) fun v1 =>
    if x4 < v1 then
      b2 (fX13_follows M x1 x4 0 0) fun v2 M3 =>
      if v2 = x2 then
        fX13_followers_b36 (fX13_followers_l5 n) M3 x1 x2 x4 (1 <<< (x4 &&& 31)) x3
      else
        fX13_followers_b36 (fX13_followers_l5 n) M3 x1 x2 x4 0 x3
    else
      some (x3, M)

def fX13_followers (M : Mem) (x1 : Int32) (x2 : Int32) : Option (Int32 × Mem) :=
  fX13_followers_l5 FU M x1 x2 0 0

-- X13_menOf
def fX13_menOf_b32 (a4 : Mem → Int32 → Int32 → Int32 → Option Int32) (M : Mem) (x1 : Int32) (x3 : Int32) (s0 : Int32) (s1 : Int32) : Option Int32 :=
  pu (s1 + s0) fun v2 =>
  pu (x3 + 1) fun v3 =>
  a4 M x1 v2 v3

def fX13_menOf_l4 : Nat → Mem → Int32 → Int32 → Int32 → Option Int32
  | 0, _, _, _, _ => none
  | n + 1, M, x1, x2, x3 =>
    pu (gI M 103 3) fun v1 =>
    if x3 < v1 then
      if (x1 >>> (x3 &&& 31)) &&& 1 = 1 then
        ldI M 110 6 (x3) fun v4 =>
        fX13_menOf_b32 (fX13_menOf_l4 n) M x1 x3 v4 x2
      else
        fX13_menOf_b32 (fX13_menOf_l4 n) M x1 x3 0 x2
    else
      some (x2)

def fX13_menOf (M : Mem) (x1 : Int32) : Option Int32 :=
  fX13_menOf_l4 FU M x1 0 0

-- X13_isStaying
def fX13_isStaying (M : Mem) (x1 : Int32) : Option (Int32 × Mem) :=
  pu (gI M 103 6) fun v1 =>
  if v1 = (-1) then
    some (0, M)
  else
    ldI M 133 186 (x1 + 4) fun v2 =>
    b2 (fX13_followers M x1 v2) fun v3 M4 =>
    b1 (fX13_menOf M4 v3) fun v5 =>
    ldI M4 133 186 (x1 + 1) fun v6 =>
    stI M4 135 8 (0) (v6) fun M7 =>
    ldI M7 133 186 (x1 + 3) fun v8 =>
    stI M7 135 8 (1) (v8) fun M9 =>
    stI M9 135 8 (2) (v5) fun M10 =>
    ldI M10 133 186 (x1 + 0) fun v11 =>
    stI M10 135 8 (3) (v11) fun M12 =>
    ldI M12 133 186 (x1 + 2) fun v13 =>
    stI M12 135 8 (4) (v13) fun M14 =>
    ldI M14 133 186 ((x1 + 6) + v2) fun v15 =>
    stI M14 135 8 (5) (v15) fun M16 =>
    pu (gI M16 103 6) fun v17 =>
    b2 (fX13_reckons M16 v17) fun v18 M19 =>
    if 0 < v18 then
      some (1, M19)
    else
      some (0, M19)

-- X13_ends
def fX13_ends (M : Mem) (x1 : Int32) (x2 : Int32) : Option Mem :=
  pu (x1 + 3) fun v1 =>
  ldI M 133 186 (v1) fun v2 =>
  stI M 133 186 (v1) (v2 + 1) fun M3 =>
  ldI M3 133 186 (x1 + 4) fun v4 =>
  pu ((x1 + 10) + v4) fun v5 =>
  ldI M3 133 186 (v5) fun v6 =>
  stI M3 133 186 (v5) (v6 + 1) fun M7 =>
  pu (x1 + 5) fun v8 =>
  ldI M7 133 186 (v8) fun v9 =>
  stI M7 133 186 (v8) (v9 + 1) fun M10 =>
  if x2 = 0 then
    some M10
  else
    ldI M10 133 186 (x1 + 5) fun v11 =>
    ldI M10 133 186 (x1 + 12) fun v12 =>
    if v11 < v12 then
      some M10
    else
      b2 (fX13_isStaying M10 x1) fun v13 M14 =>
      if v13 = 0 then
        ldI M14 133 186 (x1 + 4) fun v15 =>
        stI M14 133 186 (x1 + 4) (1 - v15) fun M16 =>
        stI M16 133 186 (x1 + 5) (0) fun M17 =>
        some M17
      else
        pu (x1 + 9) fun v18 =>
        ldI M14 133 186 (v18) fun v19 =>
        stI M14 133 186 (v18) (v19 + 1) fun M20 =>
        some M20

-- X13_goesBy
def fX13_goesBy_b42 (M : Mem) (x1 : Int32) (s0 : Int32) (s1 : Int32) : Option Mem :=
  b2 (fX13_does M s1 s0) fun v4 M5 =>
  b1 (fX13_ends M5 x1 1) fun M6 =>
  some M6

def fX13_goesBy (M : Mem) (x1 : Int32) (x2 : Int32) : Option Mem :=
  ldI M 133 186 (x1 + 3) fun v1 =>
  b1 (fX13_harvestOf M v1) fun v2 =>
  b1 (fX13_gathers M x1 v2) fun M3 =>
  if x2 = (-2) then
    ldI M3 133 186 (x1 + 4) fun v7 =>
    b1 (fX13_wayOf M3 x1 v7) fun v8 =>
    fX13_goesBy_b42 M3 x1 v8 x1
  else
    fX13_goesBy_b42 M3 x1 x2 x1

-- X13_isSeen
def fX13_isSeen_l55 : Nat → Mem → Int32 → Option (Int32 × Mem)
  | 0, _, _ => none
  | n + 1, M, x3 =>
    pu (gI M 103 69) fun v2 =>
    if x3 < v2 then
      ldI M 138 16 (2 * x3) fun v3 =>
      ldI M 139 30 (v3 - 1) fun v4 =>
      ldI M 138 16 ((2 * x3) + 1) fun v5 =>
      if v4 = v5 then
        pu (x3 + 1) fun v6 =>
        fX13_isSeen_l55 n M v6
      else
        some (0, M)
    else
      some (1, M)

def fX13_isSeen_b29 (a9 : Mem → Int32 → Int32 → Int32 → Option (Int32 × Mem)) (M : Mem) (x1 : Int32) (x2 : Int32) (x3 : Int32) (s0 : Int32) (s1 : Int32) : Option (Int32 × Mem) :=
  b1 (fX13_goesBy M s1 s0) fun M7 =>
  ldI M7 133 186 (31) fun v8 =>
  stI M7 139 30 (x3 - 1) (v8) fun M9 =>
  pu (x3 + 1) fun v10 =>
  a9 M9 x1 x2 v10

def fX13_isSeen_l9 : Nat → Mem → Int32 → Int32 → Int32 → Option (Int32 × Mem)
  | 0, _, _, _, _ => none
  | n + 1, M, x1, x2, x3 =>
    if 30 < x3 then
      fX13_isSeen_l55 FU M 0
    else
      if x3 = x1 then
        fX13_isSeen_b29 (fX13_isSeen_l9 n) M x1 x2 x3 x2 31
      else
        fX13_isSeen_b29 (fX13_isSeen_l9 n) M x1 x2 x3 (-2) 31

def fX13_isSeen (M : Mem) (x1 : Int32) (x2 : Int32) : Option (Int32 × Mem) :=
  b1 (fX13_lays0 M 0 31) fun M1 =>
  fX13_isSeen_l9 FU M1 x1 x2 1

-- X13_another
def fX13_another_b93 (a43 : Mem → Int32 → Int32 → Int32 → Int32 → Option (Int32 × Mem)) (a53 : Mem → Int32 → Int32 → Int32 → Int32 → Int32 → Option (Int32 × Mem)) (M : Mem) (x1 : Int32) (x2 : Int32) (x3 : Int32) (x4 : Int32) (x5 : Int32) : Option (Int32 × Mem) :=
  pu (x5 + 1) fun v9 =>
  a53 M x1 x2 x3 x4 v9

def fX13_another_l53 (a43 : Mem → Int32 → Int32 → Int32 → Int32 → Option (Int32 × Mem)) : Nat → Mem → Int32 → Int32 → Int32 → Int32 → Int32 → Option (Int32 × Mem)
  | 0, _, _, _, _, _, _ => none
  | n + 1, M, x1, x2, x3, x4, x5 =>
    pu (gI M 103 1) fun v4 =>
    if x5 < v4 then
      b2 (fX13_isSeen M x4 x5) fun v6 M7 =>
      if v6 = 0 then
        fX13_another_b93 a43 (fX13_another_l53 a43 n) M7 x1 x2 x3 x4 x5
      else
        pu (x2 + 1) fun v8 =>
        if x3 = (-1) then
          pu ((10 * x4) + x5) fun v10 =>
          fX13_another_b93 a43 (fX13_another_l53 a43 n) M7 x1 v8 v10 x4 x5
        else
          fX13_another_b93 a43 (fX13_another_l53 a43 n) M7 x1 v8 x3 x4 x5
    else
      pu (x4 + 1) fun v5 =>
      a43 M x1 x2 x3 v5

def fX13_another_l43 : Nat → Mem → Int32 → Int32 → Int32 → Int32 → Option (Int32 × Mem)
  | 0, _, _, _, _, _ => none
  | n + 1, M, x1, x2, x3, x4 =>
    if 12 < x4 then
      if x1 = 0 then
        some (x2, M)
      else
        some (x3, M)
    else
      fX13_another_l53 (fX13_another_l43 n) FU M x1 x2 x3 x4 0

def fX13_another (M : Mem) (x1 : Int32) : Option (Int32 × Mem) :=
  pu (sI M 103 0 (0)) fun M1 =>
  b2 (fX13_isWhat M1 x1 2) fun v2 M3 =>
  if v2 = 0 then
    some (0, M3)
  else
    if x1 = 2 then
      b2 (fX13_isSeen M3 0 (-1)) fun v11 M12 =>
      if v11 = 0 then
        some (0, M12)
      else
        some (1, M12)
    else
      fX13_another_l43 FU M3 x1 0 (-1) 1

-- X13_mostOf
def fX13_mostOf (M : Mem) (x1 : Int32) (x2 : Int32) : Option Int32 :=
  pu (gI M 103 4) fun v1 =>
  if x1 = v1 then
    some (0)
  else
    ldI M 137 1024 ((128 * x1) + x2) fun v2 =>
    some (v2)

-- X13_isWin
def fX13_isWin_b26 (M : Mem) (x2 : Int32) (s0 : Int32) (s1 : Int32) : Option Int32 :=
  ldI M 113 7 (x2) fun v4 =>
  ldI M 133 186 (1) fun v5 =>
  if v4 + (v5 / 10) < s1 + s0 then
    some (1)
  else
    some (0)

def fX13_isWin (M : Mem) (x1 : Int32) (x2 : Int32) : Option Int32 :=
  ldI M 111 7 (x1) fun v1 =>
  ldI M 112 7 (x1) fun v2 =>
  ldI M 114 7 (x2) fun v3 =>
  if v2 = v3 then
    fX13_isWin_b26 M x2 5 v1
  else
    fX13_isWin_b26 M x2 0 v1

-- X13_assault
def fX13_assault_b272 (a185 : Mem → Int32 → Int32 → Int32 → Int32 → Option (Int32 × Mem)) (M : Mem) (x1 : Int32) (x2 : Int32) (x3 : Int32) (x4 : Int32) : Option (Int32 × Mem) :=
  pu (x4 + 1) fun v8 =>
  a185 M x1 x2 x3 v8

def fX13_assault_b255 (a185 : Mem → Int32 → Int32 → Int32 → Int32 → Option (Int32 × Mem)) (a201 : Mem → Int32 → Int32 → Int32 → Int32 → Int32 → Option (Int32 × Mem)) (M : Mem) (x1 : Int32) (x2 : Int32) (x3 : Int32) (x4 : Int32) (x5 : Int32) : Option (Int32 × Mem) :=
  pu (x5 + (-1)) fun v10 =>
  a201 M x1 x2 x3 x4 v10

def fX13_assault_l201 (a185 : Mem → Int32 → Int32 → Int32 → Int32 → Option (Int32 × Mem)) : Nat → Mem → Int32 → Int32 → Int32 → Int32 → Int32 → Option (Int32 × Mem)
  | 0, _, _, _, _, _, _ => none
  | n + 1, M, x1, x2, x3, x4, x5 =>
    if x5 < 0 then
      if x3 = (-1) then
        fX13_assault_b272 a185 M x1 x2 x3 x4
      else
        pu (x2 ||| (1 <<< (x3 &&& 31))) fun v9 =>
        fX13_assault_b272 a185 M x1 v9 x3 x4
    else
      if (x2 >>> (x5 &&& 31)) &&& 1 = 0 then
        b1 (fX13_isWin M x4 x5) fun v11 =>
        if v11 = 0 then
          fX13_assault_b255 a185 (fX13_assault_l201 a185 n) M x1 x2 x3 x4 x5
        else
          b1 (fX13_mostOf M (x4 + 1) (x2 ||| (1 <<< (x5 &&& 31)))) fun v12 =>
          b1 (fX13_mostOf M x4 x2) fun v13 =>
          if 1 + v12 = v13 then
            fX13_assault_b255 a185 (fX13_assault_l201 a185 n) M x1 x2 x5 x4 x5
          else
            fX13_assault_b255 a185 (fX13_assault_l201 a185 n) M x1 x2 x3 x4 x5
      else
        fX13_assault_b255 a185 (fX13_assault_l201 a185 n) M x1 x2 x3 x4 x5

def fX13_assault_l185 : Nat → Mem → Int32 → Int32 → Int32 → Int32 → Option (Int32 × Mem)
  | 0, _, _, _, _, _ => none
  | n + 1, M, x1, x2, x3, x4 =>
    if x1 < x4 then
      some (x3, M)
    else
      pu (gI M 103 5) fun v6 =>
      pu (v6 - 1) fun v7 =>
      fX13_assault_l201 (fX13_assault_l185 n) FU M x1 x2 (-1) x4 v7

def fX13_assault_b134 (a40 : Mem → Int32 → Int32 → Option (Int32 × Mem)) (a46 : Mem → Int32 → Int32 → Int32 → Option (Int32 × Mem)) (a69 : Mem → Int32 → Int32 → Int32 → Int32 → Int32 → Option (Int32 × Mem)) (M : Mem) (x1 : Int32) (x2 : Int32) (x3 : Int32) (x4 : Int32) (x5 : Int32) : Option (Int32 × Mem) :=
  pu (x5 + 1) fun v21 =>
  a69 M x1 x2 x3 x4 v21

def fX13_assault_l69 (a40 : Mem → Int32 → Int32 → Option (Int32 × Mem)) (a46 : Mem → Int32 → Int32 → Int32 → Option (Int32 × Mem)) : Nat → Mem → Int32 → Int32 → Int32 → Int32 → Int32 → Option (Int32 × Mem)
  | 0, _, _, _, _, _, _ => none
  | n + 1, M, x1, x2, x3, x4, x5 =>
    pu (gI M 103 5) fun v18 =>
    if x5 < v18 then
      if (x3 >>> (x5 &&& 31)) &&& 1 = 0 then
        b1 (fX13_isWin M x2 x5) fun v22 =>
        if v22 = 0 then
          fX13_assault_b134 a40 a46 (fX13_assault_l69 a40 a46 n) M x1 x2 x3 x4 x5
        else
          b1 (fX13_mostOf M (x2 + 1) (x3 ||| (1 <<< (x5 &&& 31)))) fun v23 =>
          if x4 < 1 + v23 then
            b1 (fX13_mostOf M (x2 + 1) (x3 ||| (1 <<< (x5 &&& 31)))) fun v24 =>
            pu (1 + v24) fun v25 =>
            fX13_assault_b134 a40 a46 (fX13_assault_l69 a40 a46 n) M x1 x2 x3 v25 x5
          else
            fX13_assault_b134 a40 a46 (fX13_assault_l69 a40 a46 n) M x1 x2 x3 x4 x5
      else
        fX13_assault_b134 a40 a46 (fX13_assault_l69 a40 a46 n) M x1 x2 x3 x4 x5
    else
      stI M 137 1024 ((128 * x2) + x3) (x4) fun M19 =>
      pu (x3 + 1) fun v20 =>
      a46 M19 x1 x2 v20

def fX13_assault_l46 (a40 : Mem → Int32 → Int32 → Option (Int32 × Mem)) : Nat → Mem → Int32 → Int32 → Int32 → Option (Int32 × Mem)
  | 0, _, _, _, _ => none
  | n + 1, M, x1, x2, x3 =>
    pu (gI M 103 5) fun v15 =>
    if x3 < 1 <<< (v15 &&& 31) then
      b1 (fX13_mostOf M (x2 + 1) x3) fun v17 =>
      fX13_assault_l69 a40 (fX13_assault_l46 a40 n) FU M x1 x2 x3 v17 0
    else
      pu (x2 + (-1)) fun v16 =>
      a40 M x1 v16

def fX13_assault_l40 : Nat → Mem → Int32 → Int32 → Option (Int32 × Mem)
  | 0, _, _, _ => none
  | n + 1, M, x1, x2 =>
    if x2 < 0 then
      if x1 = (-1) then
        b1 (fX13_mostOf M 0 0) fun v14 =>
        some (v14, M)
      else
        fX13_assault_l185 FU M x1 0 (-1) 0
    else
      fX13_assault_l46 (fX13_assault_l40 n) FU M x1 x2 0

def fX13_assault_b24 (M : Mem) (x1 : Int32) (s0 : Int32) : Option (Int32 × Mem) :=
  b2 (fX13_right M s0 1) fun v2 M3 =>
  if v2 = 0 then
    some (0, M3)
  else
    pu (gI M3 103 4) fun v4 =>
    pu (v4 - 1) fun v5 =>
    fX13_assault_l40 FU M3 x1 v5

def fX13_assault_b23 (M : Mem) (x1 : Int32) : Option (Int32 × Mem) :=
  fX13_assault_b24 M x1 0

def fX13_assault (M : Mem) (x1 : Int32) : Option (Int32 × Mem) :=
  pu (sI M 103 0 (0)) fun M1 =>
  if x1 < (-1) then
    fX13_assault_b23 M1 x1
  else
    pu (gI M1 103 4) fun v26 =>
    if x1 < v26 then
      fX13_assault_b24 M1 x1 1
    else
      fX13_assault_b23 M1 x1

-- X13_better
def fX13_better_b103 (a27 : Mem → Int32 → Int32 → Int32 → Option (Int32 × Mem)) (M : Mem) (x1 : Int32) (x3 : Int32) (s0 : Int32) (s1 : Int32) : Option (Int32 × Mem) :=
  pu (s1 + s0) fun v13 =>
  pu (x3 + 1) fun v14 =>
  a27 M x1 v13 v14

def fX13_better_l27 : Nat → Mem → Int32 → Int32 → Int32 → Option (Int32 × Mem)
  | 0, _, _, _, _ => none
  | n + 1, M, x1, x2, x3 =>
    if x3 < 60 then
      ldI M 133 186 (35) fun v5 =>
      ldI M 133 186 (31) fun v6 =>
      ldI M 133 186 (33) fun v7 =>
      pu (v6 - v7) fun v8 =>
      b1 (fX13_goesBy M 31 (-2)) fun M9 =>
      ldI M9 133 186 (31) fun v10 =>
      ldI M9 133 186 (33) fun v11 =>
      pu ((v10 - v11) - v8) fun v12 =>
      if v5 = 1 then
        fX13_better_b103 (fX13_better_l27 n) M9 x1 x3 v12 x2
      else
        fX13_better_b103 (fX13_better_l27 n) M9 x1 x3 (0 - v12) x2
    else
      if x1 = 0 then
        if 0 < x2 then
          some (1, M)
        else
          some (0, M)
      else
        if 0 < x2 then
          some (x2, M)
        else
          some (0 - x2, M)

def fX13_better (M : Mem) (x1 : Int32) : Option (Int32 × Mem) :=
  pu (sI M 103 0 (0)) fun M1 =>
  b2 (fX13_isWhat M1 x1 1) fun v2 M3 =>
  if v2 = 0 then
    some (0, M3)
  else
    b1 (fX13_lays0 M3 0 31) fun M4 =>
    fX13_better_l27 FU M4 x1 0 0

-- X13_bits
def fX13_bits_l4 : Nat → Int32 → Int32 → Int32 → Option Int32
  | 0, _, _, _ => none
  | n + 1, x0, x1, x2 =>
    if x2 < 14 then
      pu (x1 + ((x0 >>> (x2 &&& 31)) &&& 1)) fun v1 =>
      pu (x2 + 1) fun v2 =>
      fX13_bits_l4 n x0 v1 v2
    else
      some (x1)

def fX13_bits (x0 : Int32) : Option Int32 :=
  fX13_bits_l4 FU x0 0 0

-- X13_isBought
def fX13_isBought_b50 (a2 : Mem → Int32 → Int32 → Option Int32) (a12 : Mem → Int32 → Int32 → Int32 → Option Int32) (M : Mem) (x1 : Int32) (x2 : Int32) (x3 : Int32) : Option Int32 :=
  pu (x3 + 1) fun v4 =>
  a12 M x1 x2 v4

def fX13_isBought_l12 (a2 : Mem → Int32 → Int32 → Option Int32) : Nat → Mem → Int32 → Int32 → Int32 → Option Int32
  | 0, _, _, _, _ => none
  | n + 1, M, x1, x2, x3 =>
    pu (gI M 103 5) fun v2 =>
    if x3 < v2 then
      if (x1 >>> (x2 &&& 31)) &&& 1 = 0 then
        if (x1 >>> ((7 + x3) &&& 31)) &&& 1 = 0 then
          b1 (fX13_isWin M x2 x3) fun v5 =>
          if v5 = 0 then
            fX13_isBought_b50 a2 (fX13_isBought_l12 a2 n) M x1 x2 x3
          else
            some (0)
        else
          fX13_isBought_b50 a2 (fX13_isBought_l12 a2 n) M x1 x2 x3
      else
        fX13_isBought_b50 a2 (fX13_isBought_l12 a2 n) M x1 x2 x3
    else
      pu (x2 + 1) fun v3 =>
      a2 M x1 v3

def fX13_isBought_l2 : Nat → Mem → Int32 → Int32 → Option Int32
  | 0, _, _, _ => none
  | n + 1, M, x1, x2 =>
    pu (gI M 103 4) fun v1 =>
    if x2 < v1 then
      fX13_isBought_l12 (fX13_isBought_l2 n) FU M x1 x2 0
    else
      some (1)

def fX13_isBought (M : Mem) (x1 : Int32) : Option Int32 :=
  fX13_isBought_l2 FU M x1 0

-- X13_bought
def fX13_bought_b86 (a42 : Mem → Int32 → Int32 → Int32 → Int32 → Option (Int32 × Mem)) (M : Mem) (x1 : Int32) (x2 : Int32) (x3 : Int32) (x4 : Int32) : Option (Int32 × Mem) :=
  pu (x4 + 1) fun v8 =>
  a42 M x1 x2 x3 v8

def fX13_bought_b74 (a42 : Mem → Int32 → Int32 → Int32 → Int32 → Option (Int32 × Mem)) (M : Mem) (x1 : Int32) (x2 : Int32) (x3 : Int32) (x4 : Int32) : Option (Int32 × Mem) :=
  b1 (fX13_isBought M x4) fun v9 =>
  if v9 = 0 then
    fX13_bought_b86 a42 M x1 x2 x3 x4
  else
    fX13_bought_b86 a42 M x1 x2 x4 x4

def fX13_bought_l42 : Nat → Mem → Int32 → Int32 → Int32 → Int32 → Option (Int32 × Mem)
  | 0, _, _, _, _, _ => none
  | n + 1, M, x1, x2, x3, x4 =>
    if x2 < x4 then
      if x1 = 0 then
        b1 (fX13_bits x3) fun v7 =>
        some (v7, M)
      else
        some (x3, M)
    else
      if x4 &&& (x2 ^^^ (-1)) = 0 then
        if x3 = (-1) then
          fX13_bought_b74 (fX13_bought_l42 n) M x1 x2 x3 x4
        else
          b1 (fX13_bits x4) fun v10 =>
          b1 (fX13_bits x3) fun v11 =>
          if v10 < v11 then
            fX13_bought_b74 (fX13_bought_l42 n) M x1 x2 x3 x4
          else
            fX13_bought_b86 (fX13_bought_l42 n) M x1 x2 x3 x4
      else
        fX13_bought_b86 (fX13_bought_l42 n) M x1 x2 x3 x4

def fX13_bought (M : Mem) (x1 : Int32) : Option (Int32 × Mem) :=
  pu (sI M 103 0 (0)) fun M1 =>
  b2 (fX13_isWhat M1 x1 1) fun v2 M3 =>
  if v2 = 0 then
    some (0, M3)
  else
    pu (gI M3 103 4) fun v4 =>
    pu (gI M3 103 5) fun v5 =>
    pu (((1 <<< (v4 &&& 31)) - 1) ||| (((1 <<< (v5 &&& 31)) - 1) <<< (7 &&& 31))) fun v6 =>
    fX13_bought_l42 FU M3 x1 v6 (-1) 0

-- X13_isBrother
def fX13_isBrother (M : Mem) (x1 : Int32) : Option (Int32 × Mem) :=
  b1 (fX13_within x1 0 1) fun v1 =>
  b2 (fX13_right M v1 1) fun v2 M3 =>
  zz (v2) <|
  some (v2, M3)

-- X13_brother
def fX13_brother (M : Mem) (x1 : Int32) (x2 : Int32) : Option (Int32 × Mem) :=
  pu (sI M 103 0 (0)) fun M1 =>
  b2 (fX13_isBrother M1 x1) fun v2 M3 =>
  if v2 = 0 then
    some (0, M3)
  else
    b2 (fX13_isWhat M3 x2 5) fun v4 M5 =>
    if v4 = 0 then
      some (0, M5)
    else
      if x2 = 0 then
        ldI M5 133 186 (6 + x1) fun v6 =>
        some (v6, M5)
      else if x2 = 1 then
        ldI M5 133 186 (10 + x1) fun v7 =>
        some (v7, M5)
      else if x2 = 2 then
        ldI M5 108 2 (x1) fun v8 =>
        some (v8, M5)
      else if x2 = 3 then
        b2 (fX13_followers M5 0 x1) fun v9 M10 =>
        some (v9, M10)
      else if x2 = 4 then
        b2 (fX13_followers M5 0 x1) fun v11 M12 =>
        b1 (fX13_menOf M12 v11) fun v13 =>
        some (v13, M12)
      else 
        b1 (fX13_wayOf M5 0 x1) fun v14 =>
        some (v14, M5)

-- X13_isDeed
def fX13_isDeed_b18 (M : Mem) (s0 : Int32) : Option (Int32 × Mem) :=
  b2 (fX13_right M s0 1) fun v1 M2 =>
  zz (v1) <|
  some (v1, M2)

def fX13_isDeed_b17 (M : Mem) : Option (Int32 × Mem) :=
  fX13_isDeed_b18 M 0

def fX13_isDeed (M : Mem) (x1 : Int32) : Option (Int32 × Mem) :=
  if x1 < 0 then
    fX13_isDeed_b17 M
  else
    pu (gI M 103 1) fun v3 =>
    if x1 < v3 then
      fX13_isDeed_b18 M 1
    else
      fX13_isDeed_b17 M

-- X13_refuses
def fX13_refuses (M : Mem) (x1 : Int32) : Option (Int32 × Mem) :=
  ldI M 117 3 (x1) fun v1 =>
  stI M 117 3 (x1) (v1 + 1) fun M2 =>
  some ((-1), M2)

-- X13_keeps
def fX13_keeps_l52 : Nat → Mem → Int32 → Option Mem
  | 0, _, _ => none
  | n + 1, M, x1 =>
    if x1 < 31 then
      pu (gI M 103 64) fun v4 =>
      ldI M 133 186 (x1) fun v5 =>
      stI M 134 1240 ((31 * v4) + x1) (v5) fun M6 =>
      pu (x1 + 1) fun v7 =>
      fX13_keeps_l52 n M6 v7
    else
      pu (gI M 103 64) fun v2 =>
      pu (sI M 103 64 (v2 + 1)) fun M3 =>
      some M3

def fX13_keeps_b50 (M : Mem) : Option Mem :=
  fX13_keeps_l52 FU M 0

def fX13_keeps_l12 : Nat → Mem → Int32 → Option Mem
  | 0, _, _ => none
  | n + 1, M, x1 =>
    if x1 < 1240 then
      ldI M 134 1240 (x1) fun v10 =>
      stI M 134 1240 (x1 - 31) (v10) fun M11 =>
      pu (x1 + 1) fun v12 =>
      fX13_keeps_l12 n M11 v12
    else
      pu (gI M 103 64) fun v8 =>
      pu (sI M 103 64 (v8 - 1)) fun M9 =>
      fX13_keeps_b50 M9

def fX13_keeps (M : Mem) : Option Mem :=
  pu (gI M 103 64) fun v1 =>
  if v1 = 40 then
    fX13_keeps_l12 FU M 31
  else
    fX13_keeps_b50 M

-- X13_change
def fX13_change_b37 (M : Mem) : Option (Int32 × Mem) :=
  b2 (fX13_refuses M 1) fun v6 M7 =>
  some (v6, M7)

def fX13_change (M : Mem) (x1 : Int32) (x2 : Int32) (x3 : Int32) : Option (Int32 × Mem) :=
  pu (sI M 103 0 (0)) fun M1 =>
  b2 (fX13_isBrother M1 x1) fun v2 M3 =>
  if v2 = 0 then
    some (0, M3)
  else
    b2 (fX13_isDeed M3 x3) fun v4 M5 =>
    if v4 = 0 then
      some (0, M5)
    else
      if x2 < 0 then
        fX13_change_b37 M5
      else
        ldI M5 108 2 (x1) fun v8 =>
        if x2 < v8 then
          b1 (fX13_keeps M5) fun M9 =>
          ldI M9 133 186 ((13 + (6 * x1)) + x2) fun v10 =>
          stI M9 133 186 ((13 + (6 * x1)) + x2) (x3) fun M11 =>
          some (v10, M11)
        else
          fX13_change_b37 M5

-- X13_draw
def fX13_draw (M : Mem) (x1 : Int32) : Option (Int32 × Mem) :=
  pu (gI M 103 73) fun v1 =>
  pu (sI M 103 73 ((v1 * 1103515245) + 12345)) fun M2 =>
  pu (gI M2 103 73) fun v3 =>
  nz (x1) <|
  some (((v3 >>> (16 &&& 31)) &&& 32767) - ((v3 >>> (16 &&& 31)) &&& 32767) / x1 * x1, M2)

-- X13_cities
def fX13_cities_b93 (a46 : Mem → Int32 → Int32 → Int32 → Option (Int32 × Mem)) (M : Mem) (x2 : Int32) (x3 : Int32) (x4 : Int32) (x5 : Int32) : Option (Int32 × Mem) :=
  b1 (fX13_gathers M 31 x5) fun M17 =>
  ldI M17 133 186 (35) fun v18 =>
  b1 (fX13_wayOf M17 31 v18) fun v19 =>
  b2 (fX13_does M17 31 v19) fun v20 M21 =>
  b1 (fX13_ends M21 31 1) fun M22 =>
  pu (x4 + 1) fun v23 =>
  a46 M22 x2 x3 v23

def fX13_cities_l46 : Nat → Mem → Int32 → Int32 → Int32 → Option (Int32 × Mem)
  | 0, _, _, _, _ => none
  | n + 1, M, x2, x3, x4 =>
    if x4 < x2 then
      b2 (fX13_draw M 60) fun v13 M14 =>
      b2 (fX13_draw M14 9) fun v15 M16 =>
      if v15 = 0 then
        ldI M16 133 186 (35) fun v24 =>
        stI M16 133 186 (35) (1 - v24) fun M25 =>
        stI M25 133 186 (36) (0) fun M26 =>
        fX13_cities_b93 (fX13_cities_l46 n) M26 x2 x3 x4 v13
      else
        fX13_cities_b93 (fX13_cities_l46 n) M16 x2 x3 x4 v13
    else
      if x3 = 0 then
        ldI M 133 186 (31) fun v12 =>
        some (v12, M)
      else
        if x3 = 1 then
          ldI M 133 186 (33) fun v11 =>
          some (v11, M)
        else
          ldI M 133 186 (37) fun v9 =>
          ldI M 133 186 (38) fun v10 =>
          some (v9 - v10, M)

def fX13_cities (M : Mem) (x1 : Int32) (x2 : Int32) (x3 : Int32) : Option (Int32 × Mem) :=
  pu (sI M 103 0 (0)) fun M1 =>
  b2 (fX13_isWhat M1 x3 2) fun v2 M3 =>
  if v2 = 0 then
    some (0, M3)
  else
    b1 (fX13_within x2 0 60) fun v4 =>
    b2 (fX13_right M3 v4 2) fun v5 M6 =>
    if v5 = 0 then
      some (0, M6)
    else
      b1 (fX13_lays0 M6 0 31) fun M7 =>
      pu (sI M7 103 73 (x1)) fun M8 =>
      fX13_cities_l46 FU M8 x2 x3 0

-- X13_isOpen
def fX13_isOpen (x0 : Int32) : Option Int32 :=
  if x0 < 14 then
    some (0)
  else
    some (1)

-- X13_strength
def fX13_strength (x0 : Int32) : Option Int32 :=
  if x0 = 5 then
    some (1)
  else
    if x0 = 4 then
      some (2)
    else
      if x0 = 3 then
        some (3)
      else
        if x0 = 6 then
          some (4)
        else
          if x0 = 7 then
            some (4)
          else
            if x0 = 8 then
              some (5)
            else
              if x0 = 9 then
                some (5)
              else
                some (6)

-- X13_puts
def fX13_puts (M : Mem) (x1 : Int32) : Option Mem :=
  pu (gI M 103 40) fun v1 =>
  stI M 130 1400 (v1) (x1) fun M2 =>
  pu (gI M2 103 40) fun v3 =>
  pu (sI M2 103 40 (v3 + 1)) fun M4 =>
  some M4

-- X13_copies
def fX13_copies_l2 : Nat → Mem → Nat → Nat → Int32 → Option Mem
  | 0, _, _, _, _ => none
  | n + 1, M, x1, x2, x3 =>
    ck (kd x1 = 20) <| ck (kd x2 = 20) <| if x3 < Int32.ofNat (ln x1) then
      ldI M x1 (ln x1) (x3) fun v1 =>
      stI M x2 (ln x2) (x3) (v1) fun M2 =>
      pu (x3 + 1) fun v3 =>
      fX13_copies_l2 n M2 x1 x2 v3
    else
      some M

def fX13_copies (M : Mem) (x1 : Nat) (x2 : Nat) : Option Mem :=
  ck (kd x1 = 20) <| ck (kd x2 = 20) <| fX13_copies_l2 FU M x1 x2 0

-- X13_goesYears
def fX13_goesYears_l2 : Nat → Mem → Int32 → Int32 → Int32 → Option Mem
  | 0, _, _, _, _ => none
  | n + 1, M, x1, x2, x3 =>
    if x3 < x2 then
      b1 (fX13_goesBy M x1 (-2)) fun M1 =>
      pu (x3 + 1) fun v2 =>
      fX13_goesYears_l2 n M1 x1 x2 v2
    else
      some M

def fX13_goesYears (M : Mem) (x1 : Int32) (x2 : Int32) : Option Mem :=
  fX13_goesYears_l2 FU M x1 x2 0

-- X13_cost
def fX13_cost_l61 : Nat → Mem → Int32 → Int32 → Int32 → Option (Int32 × Mem)
  | 0, _, _, _, _ => none
  | n + 1, M, x1, x2, x3 =>
    if x3 < x1 then
      ldI M 133 186 (34) fun v13 =>
      b1 (fX13_harvestOf M v13) fun v14 =>
      b1 (fX13_gathers M 31 v14) fun M15 =>
      ldI M15 133 186 (35) fun v16 =>
      b1 (fX13_wayOf M15 31 v16) fun v17 =>
      b2 (fX13_does M15 31 v17) fun v18 M19 =>
      b1 (fX13_ends M19 31 0) fun M20 =>
      pu (x3 + 1) fun v21 =>
      fX13_cost_l61 n M20 x1 x2 v21
    else
      ldI M 133 186 (31) fun v11 =>
      ldI M 133 186 (33) fun v12 =>
      some ((v11 - v12) - x2, M)

def fX13_cost (M : Mem) (x1 : Int32) : Option (Int32 × Mem) :=
  pu (sI M 103 0 (0)) fun M1 =>
  b1 (fX13_within x1 1 60) fun v2 =>
  b2 (fX13_right M1 v2 1) fun v3 M4 =>
  if v3 = 0 then
    some (0, M4)
  else
    b1 (fX13_lays0 M4 0 31) fun M5 =>
    b1 (fX13_goesYears M5 31 x1) fun M6 =>
    ldI M6 133 186 (31) fun v7 =>
    ldI M6 133 186 (33) fun v8 =>
    pu (v7 - v8) fun v9 =>
    b1 (fX13_lays0 M6 0 31) fun M10 =>
    fX13_cost_l61 FU M10 x1 v9 0

-- X13_count
def fX13_count (M : Mem) (x1 : Int32) : Option (Int32 × Mem) :=
  pu (sI M 103 0 (0)) fun M1 =>
  b1 (fX13_within x1 0 18) fun v2 =>
  b2 (fX13_right M1 v2 1) fun v3 M4 =>
  if v3 = 0 then
    some (0, M4)
  else
    if x1 = 0 then
      ldI M4 133 186 (0 + x1) fun v5 =>
      some (v5, M4)
    else if x1 = 1 then
      ldI M4 133 186 (0 + x1) fun v6 =>
      some (v6, M4)
    else if x1 = 2 then
      ldI M4 133 186 (0 + x1) fun v7 =>
      some (v7, M4)
    else if x1 = 3 then
      ldI M4 133 186 (0 + x1) fun v8 =>
      some (v8, M4)
    else if x1 = 4 then
      ldI M4 133 186 (0 + x1) fun v9 =>
      some (v9, M4)
    else if x1 = 5 then
      ldI M4 133 186 (0 + x1) fun v10 =>
      some (v10, M4)
    else if x1 = 6 then
      ldI M4 133 186 (12) fun v11 =>
      some (v11, M4)
    else if x1 = 7 then
      ldI M4 133 186 (8) fun v12 =>
      some (v12, M4)
    else if x1 = 8 then
      ldI M4 133 186 (9) fun v13 =>
      some (v13, M4)
    else if x1 = 9 then
      pu (gI M4 103 1) fun v14 =>
      some (v14, M4)
    else if x1 = 10 then
      pu (gI M4 103 3) fun v15 =>
      some (v15, M4)
    else if x1 = 11 then
      pu (gI M4 103 4) fun v16 =>
      some (v16, M4)
    else if x1 = 12 then
      pu (gI M4 103 5) fun v17 =>
      some (v17, M4)
    else if x1 = 13 then
      pu (gI M4 103 64) fun v18 =>
      some (v18, M4)
    else if x1 = 14 then
      pu (gI M4 103 69) fun v19 =>
      some (v19, M4)
    else if x1 = 15 then
      pu (gI M4 103 21) fun v20 =>
      some (v20, M4)
    else 
      ldI M4 117 3 (x1 - 16) fun v21 =>
      some (v21, M4)

-- X13_deed
def fX13_deed (M : Mem) (x1 : Int32) (x2 : Int32) : Option (Int32 × Mem) :=
  pu (sI M 103 0 (0)) fun M1 =>
  b2 (fX13_isDeed M1 x1) fun v2 M3 =>
  if v2 = 0 then
    some (0, M3)
  else
    b2 (fX13_isWhat M3 x2 4) fun v4 M5 =>
    if v4 = 0 then
      some (0, M5)
    else
      if x2 = 0 then
        ldI M5 104 7 (x1) fun v11 =>
        some (v11, M5)
      else
        if x2 = 1 then
          ldI M5 105 7 (x1) fun v10 =>
          some (v10, M5)
        else
          if x2 = 2 then
            ldI M5 106 7 (x1) fun v9 =>
            some (v9, M5)
          else
            if x2 = 3 then
              ldI M5 107 7 (x1) fun v8 =>
              some (v8, M5)
            else
              ldI M5 104 7 (x1) fun v6 =>
              ldI M5 133 186 (0) fun v7 =>
              if v7 < v6 then
                some (0, M5)
              else
                some (1, M5)

-- X13_isSign
def fX13_isSign (M : Mem) (x1 : Int32) : Option Int32 :=
  pu (gI M 103 27) fun v1 =>
  if v1 = 3 then
    pu (gI M 103 31) fun v2 =>
    if v2 = x1 then
      some (1)
    else
      some (0)
  else
    some (0)

-- X13_deeper
def fX13_deeper_b61 (M : Mem) (s0 : Int32) : Option Mem :=
  b1 (fX13_wrong M s0) fun M3 =>
  some M3

def fX13_deeper_b56 (M : Mem) : Option Mem :=
  fX13_deeper_b61 M 2

def fX13_deeper (M : Mem) : Option Mem :=
  pu (gI M 103 44) fun v1 =>
  if v1 < 6 then
    pu (gI M 103 44) fun v6 =>
    pu (sI M 103 44 (v6 + 1)) fun M7 =>
    pu (gI M7 103 44) fun v8 =>
    stI M7 132 9 (v8) (vp_nar .boolean (0)) fun M9 =>
    some M9
  else
    pu (gI M 103 27) fun v2 =>
    if v2 = 2 then
      fX13_deeper_b56 M
    else
      pu (gI M 103 27) fun v4 =>
      if v4 = 1 then
        fX13_deeper_b56 M
      else
        b1 (fX13_isSign M 40) fun v5 =>
        if v5 = 0 then
          fX13_deeper_b61 M 1
        else
          fX13_deeper_b56 M

-- X13_spelled
def fX13_spelled_b102 (x7 : Int32) (x8 : Int64) : Option Int64 :=
  if x7 = 0 then
    some (x8)
  else
    pu ((x8 <<< (Int32.toInt64 5 &&& 63)) ||| (Int32.toInt64 (x7 - 96))) fun v2 =>
    some (v2)

def fX13_spelled_b84 (x6 : Int32) (x7 : Int32) (x8 : Int64) : Option Int64 :=
  if x6 = 0 then
    fX13_spelled_b102 x7 x8
  else
    pu ((x8 <<< (Int32.toInt64 5 &&& 63)) ||| (Int32.toInt64 (x6 - 96))) fun v3 =>
    fX13_spelled_b102 x7 v3

def fX13_spelled_b66 (x5 : Int32) (x6 : Int32) (x7 : Int32) (x8 : Int64) : Option Int64 :=
  if x5 = 0 then
    fX13_spelled_b84 x6 x7 x8
  else
    pu ((x8 <<< (Int32.toInt64 5 &&& 63)) ||| (Int32.toInt64 (x5 - 96))) fun v4 =>
    fX13_spelled_b84 x6 x7 v4

def fX13_spelled_b48 (x4 : Int32) (x5 : Int32) (x6 : Int32) (x7 : Int32) (x8 : Int64) : Option Int64 :=
  if x4 = 0 then
    fX13_spelled_b66 x5 x6 x7 x8
  else
    pu ((x8 <<< (Int32.toInt64 5 &&& 63)) ||| (Int32.toInt64 (x4 - 96))) fun v5 =>
    fX13_spelled_b66 x5 x6 x7 v5

def fX13_spelled_b32 (x3 : Int32) (x4 : Int32) (x5 : Int32) (x6 : Int32) (x7 : Int32) (x8 : Int64) : Option Int64 :=
  if x3 = 0 then
    fX13_spelled_b48 x4 x5 x6 x7 x8
  else
    pu ((x8 <<< (Int32.toInt64 5 &&& 63)) ||| (Int32.toInt64 (x3 - 96))) fun v6 =>
    fX13_spelled_b48 x4 x5 x6 x7 v6

def fX13_spelled (x0 : Int32) (x1 : Int32) (x2 : Int32) (x3 : Int32) (x4 : Int32) (x5 : Int32) (x6 : Int32) (x7 : Int32) : Option Int64 :=
  pu ((((Int32.toInt64 x0) - 96) <<< (Int32.toInt64 5 &&& 63)) ||| (Int32.toInt64 (x1 - 96))) fun v1 =>
  if x2 = 0 then
    fX13_spelled_b32 x3 x4 x5 x6 x7 v1
  else
    pu ((v1 <<< (Int32.toInt64 5 &&& 63)) ||| (Int32.toInt64 (x2 - 96))) fun v7 =>
    fX13_spelled_b32 x3 x4 x5 x6 x7 v7

-- X13_letters
def fX13_letters (x0 : Int32) : Option Int64 :=
  if x0 = 0 then
    b1 (fX13_spelled 119 97 108 108 115 0 0 0) fun v1 =>
    some (v1)
  else if x0 = 1 then
    b1 (fX13_spelled 121 101 97 114 0 0 0 0) fun v2 =>
    some (v2)
  else if x0 = 2 then
    b1 (fX13_spelled 109 101 110 0 0 0 0 0) fun v3 =>
    some (v3)
  else if x0 = 3 then
    b1 (fX13_spelled 115 116 111 114 101 0 0 0) fun v4 =>
    some (v4)
  else if x0 = 4 then
    b1 (fX13_spelled 100 101 98 116 0 0 0 0) fun v5 =>
    some (v5)
  else if x0 = 5 then
    b1 (fX13_spelled 103 108 111 114 121 0 0 0) fun v6 =>
    some (v6)
  else if x0 = 6 then
    b1 (fX13_spelled 114 117 108 101 115 0 0 0) fun v7 =>
    some (v7)
  else if x0 = 7 then
    b1 (fX13_spelled 108 101 97 110 0 0 0 0) fun v8 =>
    some (v8)
  else if x0 = 8 then
    b1 (fX13_spelled 99 105 116 121 0 0 0 0) fun v9 =>
    some (v9)
  else if x0 = 9 then
    b1 (fX13_spelled 100 101 101 100 0 0 0 0) fun v10 =>
    some (v10)
  else if x0 = 10 then
    b1 (fX13_spelled 101 108 100 101 114 0 0 0) fun v11 =>
    some (v11)
  else if x0 = 11 then
    b1 (fX13_spelled 121 111 117 110 103 101 114 0) fun v12 =>
    some (v12)
  else if x0 = 12 then
    b1 (fX13_spelled 104 97 114 118 101 115 116 115) fun v13 =>
    some (v13)
  else if x0 = 13 then
    b1 (fX13_spelled 116 101 114 109 0 0 0 0) fun v14 =>
    some (v14)
  else if x0 = 14 then
    b1 (fX13_spelled 102 114 105 101 110 100 0 0) fun v15 =>
    some (v15)
  else if x0 = 15 then
    b1 (fX13_spelled 99 104 97 109 112 105 111 110) fun v16 =>
    some (v16)
  else if x0 = 16 then
    b1 (fX13_spelled 103 97 116 101 0 0 0 0) fun v17 =>
    some (v17)
  else if x0 = 17 then
    b1 (fX13_spelled 115 116 97 121 115 0 0 0) fun v18 =>
    some (v18)
  else if x0 = 18 then
    b1 (fX13_spelled 108 105 107 101 115 0 0 0) fun v19 =>
    some (v19)
  else if x0 = 19 then
    b1 (fX13_spelled 97 110 100 0 0 0 0 0) fun v20 =>
    some (v20)
  else if x0 = 20 then
    b1 (fX13_spelled 111 114 0 0 0 0 0 0) fun v21 =>
    some (v21)
  else 
    b1 (fX13_spelled 110 111 116 0 0 0 0 0) fun v22 =>
    some (v22)

-- X13_knownWord
def fX13_knownWord_l21 : Nat → Mem → Int32 → Option Int32
  | 0, _, _ => none
  | n + 1, M, x1 =>
    if x1 < 22 then
      b1 (fX13_letters x1) fun v3 =>
      pu (gL M 103 32) fun v4 =>
      if lg_cmp (v3) (v4) = 0 then
        some (x1)
      else
        pu (x1 + 1) fun v5 =>
        fX13_knownWord_l21 n M v5
    else
      some ((-1))

def fX13_knownWord (M : Mem) : Option Int32 :=
  pu (gI M 103 27) fun v1 =>
  if v1 = 1 then
    pu (gI M 103 29) fun v2 =>
    if 8 < v2 then
      some ((-1))
    else
      fX13_knownWord_l21 FU M 0
  else
    some ((-1))

-- X13_waitsFor
def fX13_waitsFor (M : Mem) (x1 : Int32) : Option Mem :=
  pu (gI M 103 43) fun v1 =>
  stI M 131 950 (v1) (x1) fun M2 =>
  pu (gI M2 103 43) fun v3 =>
  pu (sI M2 103 43 (v3 + 1)) fun M4 =>
  some M4

-- X13_isOpened
def fX13_isOpened_b29 (M : Mem) (x1 : Int32) : Option Int32 :=
  if x1 < 0 then
    some (0)
  else
    some (1)

def fX13_isOpened_l7 : Nat → Mem → Int32 → Option Int32
  | 0, _, _ => none
  | n + 1, M, x1 =>
    if x1 < 0 then
      fX13_isOpened_b29 M x1
    else
      ldI M 131 950 (x1) fun v3 =>
      b1 (fX13_isOpen v3) fun v4 =>
      if v4 = 0 then
        pu (x1 + (-1)) fun v5 =>
        fX13_isOpened_l7 n M v5
      else
        fX13_isOpened_b29 M x1

def fX13_isOpened (M : Mem) : Option Int32 :=
  pu (gI M 103 43) fun v1 =>
  pu (v1 - 1) fun v2 =>
  fX13_isOpened_l7 FU M v2

-- X13_goesByTerm
def fX13_goesByTerm (M : Mem) (x1 : Int32) : Option Mem :=
  b1 (fX13_lays0 M 0 31) fun M1 =>
  stI M1 133 186 (43) (x1) fun M2 =>
  b1 (fX13_goesYears M2 31 30) fun M3 =>
  some M3

-- X13_fair
def fX13_fair_l7 : Nat → Mem → Int32 → Option (Int32 × Mem)
  | 0, _, _ => none
  | n + 1, M, x1 =>
    if 5 < x1 then
      some ((-1), M)
    else
      b1 (fX13_goesByTerm M x1) fun M2 =>
      ldI M2 133 186 (40) fun v3 =>
      ldI M2 133 186 (9) fun v4 =>
      if v3 = v4 then
        some (x1, M2)
      else
        pu (x1 + 1) fun v5 =>
        fX13_fair_l7 n M2 v5

def fX13_fair (M : Mem) : Option (Int32 × Mem) :=
  pu (sI M 103 0 (0)) fun M1 =>
  fX13_fair_l7 FU M1 1

-- X13_fault
def fX13_fault (M : Mem) : Option (Int32 × Mem) :=
  pu (sI M 103 0 (0)) fun M1 =>
  pu (gI M1 103 23) fun v2 =>
  some (v2, M1)

-- X13_lays
def fX13_lays_l3 : Nat → Mem → Int32 → Int32 → Option Mem
  | 0, _, _, _ => none
  | n + 1, M, x1, x2 =>
    if x2 < 0 then
      some M
    else
      pu (gI M 103 21) fun v1 =>
      stI M 116 700 (v1) ((x1 >>> (x2 &&& 31)) &&& 255) fun M2 =>
      pu (gI M2 103 21) fun v3 =>
      pu (sI M2 103 21 (v3 + 1)) fun M4 =>
      pu (x2 + (-8)) fun v5 =>
      fX13_lays_l3 n M4 x1 v5

def fX13_lays (M : Mem) (x1 : Int32) : Option Mem :=
  fX13_lays_l3 FU M x1 24

-- X13_feed
def fX13_feed (M : Mem) (x1 : Int32) (x2 : Int32) (x3 : Int32) (x4 : Int32) (x5 : Int32) : Option (Int32 × Mem) :=
  pu (sI M 103 0 (0)) fun M1 =>
  pu (gI M1 103 21) fun v2 =>
  if 700 < v2 + 20 then
    some ((-1), M1)
  else
    b1 (fX13_lays M1 x1) fun M3 =>
    b1 (fX13_lays M3 x2) fun M4 =>
    b1 (fX13_lays M4 x3) fun M5 =>
    b1 (fX13_lays M5 x4) fun M6 =>
    b1 (fX13_lays M6 x5) fun M7 =>
    pu (gI M7 103 21) fun v8 =>
    some (v8, M7)

-- X13_forget
def fX13_forget (M : Mem) : Option Mem :=
  pu (sI M 103 0 (0)) fun M1 =>
  pu (sI M1 103 69 (0)) fun M2 =>
  some M2

-- X13_isFriend
def fX13_isFriend_b18 (M : Mem) (s0 : Int32) : Option (Int32 × Mem) :=
  b2 (fX13_right M s0 1) fun v1 M2 =>
  zz (v1) <|
  some (v1, M2)

def fX13_isFriend_b17 (M : Mem) : Option (Int32 × Mem) :=
  fX13_isFriend_b18 M 0

def fX13_isFriend (M : Mem) (x1 : Int32) : Option (Int32 × Mem) :=
  if x1 < 0 then
    fX13_isFriend_b17 M
  else
    pu (gI M 103 3) fun v3 =>
    if x1 < v3 then
      fX13_isFriend_b18 M 1
    else
      fX13_isFriend_b17 M

-- X13_friend
def fX13_friend (M : Mem) (x1 : Int32) (x2 : Int32) : Option (Int32 × Mem) :=
  pu (sI M 103 0 (0)) fun M1 =>
  b2 (fX13_isFriend M1 x1) fun v2 M3 =>
  if v2 = 0 then
    some (0, M3)
  else
    b2 (fX13_isWhat M3 x2 4) fun v4 M5 =>
    if v4 = 0 then
      some (0, M5)
    else
      if x2 < 3 then
        if x2 = 0 then
          ldI M5 133 186 (25 + x1) fun v12 =>
          some (v12, M5)
        else
          if x2 = 1 then
            ldI M5 110 6 (x1) fun v11 =>
            some (v11, M5)
          else
            b2 (fX13_follows M5 0 x1 0 0) fun v9 M10 =>
            some (v9, M10)
      else
        pu (gI M5 103 7) fun v6 =>
        if v6 = (-1) then
          some (0, M5)
        else
          b2 (fX13_likeOf M5 0 x1 (x2 - 3) 0) fun v7 M8 =>
          some (v7, M8)

-- X13_gains
def fX13_gains_b70 (a13 : Mem → Int32 → Int32 → Int32 → Int32 → Int32 → Option (Int32 × Mem)) (M : Mem) (x1 : Int32) (x2 : Int32) (x3 : Int32) (x5 : Int32) (s0 : Int32) : Option (Int32 × Mem) :=
  b1 (fX13_ends M 31 1) fun M7 =>
  pu (x5 + 1) fun v8 =>
  a13 M7 x1 x2 x3 s0 v8

def fX13_gains_b46 (a13 : Mem → Int32 → Int32 → Int32 → Int32 → Int32 → Option (Int32 × Mem)) (M : Mem) (x1 : Int32) (x2 : Int32) (x3 : Int32) (x5 : Int32) (s0 : Int32) : Option (Int32 × Mem) :=
  b2 (fX13_does M 31 s0) fun v5 M6 =>
  if v5 = 0 then
    fX13_gains_b70 a13 M6 x1 x2 x3 x5 0
  else
    ldI M6 107 7 (s0) fun v9 =>
    fX13_gains_b70 a13 M6 x1 x2 x3 x5 v9

def fX13_gains_l13 : Nat → Mem → Int32 → Int32 → Int32 → Int32 → Int32 → Option (Int32 × Mem)
  | 0, _, _, _, _, _, _ => none
  | n + 1, M, x1, x2, x3, x4, x5 =>
    if x1 < x5 then
      if x2 = x3 then
        some (x4 - 3, M)
      else
        some (x4, M)
    else
      ldI M 133 186 (34) fun v2 =>
      b1 (fX13_harvestOf M v2) fun v3 =>
      b1 (fX13_gathers M 31 v3) fun M4 =>
      if x5 = 0 then
        fX13_gains_b46 (fX13_gains_l13 n) M4 x1 x2 x3 x5 x2
      else
        fX13_gains_b46 (fX13_gains_l13 n) M4 x1 x2 x3 x5 x3

def fX13_gains (M : Mem) (x1 : Int32) (x2 : Int32) (x3 : Int32) : Option (Int32 × Mem) :=
  b1 (fX13_lays0 M 0 31) fun M1 =>
  fX13_gains_l13 FU M1 x1 x2 x3 0 0

-- X13_game
def fX13_game_b189 (a59 : Mem → Int32 → Int32 → Int32 → Int32 → Int32 → Int32 → Option (Int32 × Mem)) (M : Mem) (x1 : Int32) (x2 : Int32) (x3 : Int32) (x4 : Int32) (x5 : Int32) (x6 : Int32) : Option (Int32 × Mem) :=
  pu (x6 + 1) fun v14 =>
  a59 M x1 x2 x3 x4 x5 v14

def fX13_game_b119 (a59 : Mem → Int32 → Int32 → Int32 → Int32 → Int32 → Int32 → Option (Int32 × Mem)) (M : Mem) (x1 : Int32) (x2 : Int32) (x3 : Int32) (x4 : Int32) (x5 : Int32) (x6 : Int32) (x7 : Int32) (x8 : Int32) (x9 : Int32) (s0 : Int32) : Option (Int32 × Mem) :=
  b2 (fX13_gains M 0 x8 x9) fun v10 M11 =>
  b2 (fX13_gains M11 0 x7 x9) fun v12 M13 =>
  if v12 < v10 then
    fX13_game_b189 a59 M13 x1 x2 x3 x4 x5 x6
  else
    b2 (fX13_gains M13 1 x7 s0) fun v15 M16 =>
    b2 (fX13_gains M16 1 x7 x9) fun v17 M18 =>
    if v17 < v15 then
      fX13_game_b189 a59 M18 x1 x2 x3 x4 x5 x6
    else
      pu (x4 + 1) fun v19 =>
      if x5 = (-1) then
        pu ((10 * (x6 / 2)) + (x6 - x6 / 2 * 2)) fun v20 =>
        fX13_game_b189 a59 M18 x1 x2 x3 v19 v20 x6
      else
        fX13_game_b189 a59 M18 x1 x2 x3 v19 x5 x6

def fX13_game_b105 (a59 : Mem → Int32 → Int32 → Int32 → Int32 → Int32 → Int32 → Option (Int32 × Mem)) (M : Mem) (x1 : Int32) (x2 : Int32) (x3 : Int32) (x4 : Int32) (x5 : Int32) (x6 : Int32) (x7 : Int32) (x8 : Int32) (s0 : Int32) : Option (Int32 × Mem) :=
  if x6 - x6 / 2 * 2 = 0 then
    fX13_game_b119 a59 M x1 x2 x3 x4 x5 x6 x7 x8 s0 x2
  else
    fX13_game_b119 a59 M x1 x2 x3 x4 x5 x6 x7 x8 s0 x1

def fX13_game_b91 (a59 : Mem → Int32 → Int32 → Int32 → Int32 → Int32 → Int32 → Option (Int32 × Mem)) (M : Mem) (x1 : Int32) (x2 : Int32) (x3 : Int32) (x4 : Int32) (x5 : Int32) (x6 : Int32) (x7 : Int32) (s0 : Int32) : Option (Int32 × Mem) :=
  if x6 - x6 / 2 * 2 = 0 then
    fX13_game_b105 a59 M x1 x2 x3 x4 x5 x6 x7 s0 x1
  else
    fX13_game_b105 a59 M x1 x2 x3 x4 x5 x6 x7 s0 x2

def fX13_game_b77 (a59 : Mem → Int32 → Int32 → Int32 → Int32 → Int32 → Int32 → Option (Int32 × Mem)) (M : Mem) (x1 : Int32) (x2 : Int32) (x3 : Int32) (x4 : Int32) (x5 : Int32) (x6 : Int32) (s0 : Int32) : Option (Int32 × Mem) :=
  if x6 / 2 = 0 then
    fX13_game_b91 a59 M x1 x2 x3 x4 x5 x6 s0 x2
  else
    fX13_game_b91 a59 M x1 x2 x3 x4 x5 x6 s0 x1

def fX13_game_l59 : Nat → Mem → Int32 → Int32 → Int32 → Int32 → Int32 → Int32 → Option (Int32 × Mem)
  | 0, _, _, _, _, _, _, _ => none
  | n + 1, M, x1, x2, x3, x4, x5, x6 =>
    if x6 < 4 then
      if x6 / 2 = 0 then
        fX13_game_b77 (fX13_game_l59 n) M x1 x2 x3 x4 x5 x6 x1
      else
        fX13_game_b77 (fX13_game_l59 n) M x1 x2 x3 x4 x5 x6 x2
    else
      if x3 = 0 then
        some (x4, M)
      else
        some (x5, M)

def fX13_game_b41 (M : Mem) (x1 : Int32) (x2 : Int32) (x3 : Int32) (s0 : Int32) : Option (Int32 × Mem) :=
  b2 (fX13_right M s0 2) fun v8 M9 =>
  if v8 = 0 then
    some (0, M9)
  else
    fX13_game_l59 FU M9 x1 x2 x3 0 (-1) 0

def fX13_game (M : Mem) (x1 : Int32) (x2 : Int32) (x3 : Int32) : Option (Int32 × Mem) :=
  pu (sI M 103 0 (0)) fun M1 =>
  b2 (fX13_isDeed M1 x1) fun v2 M3 =>
  if v2 = 0 then
    some (0, M3)
  else
    b2 (fX13_isDeed M3 x2) fun v4 M5 =>
    if v4 = 0 then
      some (0, M5)
    else
      b2 (fX13_isWhat M5 x3 1) fun v6 M7 =>
      if v6 = 0 then
        some (0, M7)
      else
        if x1 = x2 then
          fX13_game_b41 M7 x1 x2 x3 0
        else
          fX13_game_b41 M7 x1 x2 x3 1

-- X13_gift
def fX13_gift_b35 (M : Mem) : Option (Int32 × Mem) :=
  b2 (fX13_refuses M 1) fun v5 M6 =>
  some (v5, M6)

def fX13_gift_b89 (M : Mem) (x1 : Int32) (s0 : Int32) (s1 : Int32) (s2 : Int32) : Option (Int32 × Mem) :=
  b1 (fX13_kept (s1 + s0) (-9) 9) fun v13 =>
  stI M 133 186 (s2) (v13) fun M14 =>
  ldI M14 133 186 (25 + x1) fun v15 =>
  some (v15, M14)

def fX13_gift (M : Mem) (x1 : Int32) (x2 : Int32) : Option (Int32 × Mem) :=
  pu (sI M 103 0 (0)) fun M1 =>
  b2 (fX13_isFriend M1 x1) fun v2 M3 =>
  if v2 = 0 then
    some (0, M3)
  else
    b1 (fX13_within x2 1 9) fun v4 =>
    if v4 = 0 then
      fX13_gift_b35 M3
    else
      ldI M3 133 186 (0) fun v7 =>
      if v7 < x2 then
        fX13_gift_b35 M3
      else
        b1 (fX13_keeps M3) fun M8 =>
        ldI M8 133 186 (0) fun v9 =>
        stI M8 133 186 (0) (v9 - x2) fun M10 =>
        ldI M10 133 186 (25 + x1) fun v11 =>
        ldI M10 133 186 (4) fun v12 =>
        if v12 = 1 then
          fX13_gift_b89 M10 x1 x2 v11 (25 + x1)
        else
          fX13_gift_b89 M10 x1 (0 - x2) v11 (25 + x1)

-- X13_gloryIn
def fX13_gloryIn (M : Mem) (x1 : Int32) : Option (Int32 × Mem) :=
  b1 (fX13_lays0 M 0 31) fun M1 =>
  b1 (fX13_goesYears M1 31 30) fun M2 =>
  ldI M2 133 186 (37 + x1) fun v3 =>
  some (v3, M2)

-- X13_guarded
def fX13_guarded_b95 (a36 : Mem → Int32 → Int32 → Int32 → Option (Int32 × Mem)) (M : Mem) (x1 : Int32) (x3 : Int32) (s0 : Int32) : Option (Int32 × Mem) :=
  pu (x3 + 1) fun v10 =>
  a36 M x1 s0 v10

def fX13_guarded_b70 (a36 : Mem → Int32 → Int32 → Int32 → Option (Int32 × Mem)) (M : Mem) (x1 : Int32) (x2 : Int32) (x3 : Int32) (s0 : Int32) (s1 : Int32) : Option (Int32 × Mem) :=
  ldI M 133 186 (1) fun v8 =>
  pu ((s1 + s0) - (v8 / 10)) fun v9 =>
  if x2 < v9 then
    fX13_guarded_b95 a36 M x1 x3 v9
  else
    fX13_guarded_b95 a36 M x1 x3 x2

def fX13_guarded_l36 : Nat → Mem → Int32 → Int32 → Int32 → Option (Int32 × Mem)
  | 0, _, _, _, _ => none
  | n + 1, M, x1, x2, x3 =>
    pu (gI M 103 4) fun v4 =>
    if x3 < v4 then
      ldI M 111 7 (x3) fun v5 =>
      ldI M 112 7 (x3) fun v6 =>
      ldI M 114 7 (x1) fun v7 =>
      if v6 = v7 then
        fX13_guarded_b70 (fX13_guarded_l36 n) M x1 x2 x3 5 v5
      else
        fX13_guarded_b70 (fX13_guarded_l36 n) M x1 x2 x3 0 v5
    else
      some (x2, M)

def fX13_guarded_b23 (M : Mem) (x1 : Int32) (s0 : Int32) : Option (Int32 × Mem) :=
  b2 (fX13_right M s0 1) fun v2 M3 =>
  if v2 = 0 then
    some (0, M3)
  else
    fX13_guarded_l36 FU M3 x1 0 0

def fX13_guarded_b22 (M : Mem) (x1 : Int32) : Option (Int32 × Mem) :=
  fX13_guarded_b23 M x1 0

def fX13_guarded (M : Mem) (x1 : Int32) : Option (Int32 × Mem) :=
  pu (sI M 103 0 (0)) fun M1 =>
  if x1 < 0 then
    fX13_guarded_b22 M1 x1
  else
    pu (gI M1 103 5) fun v11 =>
    if x1 < v11 then
      fX13_guarded_b23 M1 x1 1
    else
      fX13_guarded_b22 M1 x1

-- X13_highest
def fX13_highest_b75 (a35 : Mem → Int32 → Int32 → Int32 → Int32 → Option (Int32 × Mem)) (M : Mem) (x1 : Int32) (x2 : Int32) (x3 : Int32) (x4 : Int32) : Option (Int32 × Mem) :=
  pu (x4 + 1) fun v9 =>
  a35 M x1 x2 x3 v9

def fX13_highest_l35 : Nat → Mem → Int32 → Int32 → Int32 → Int32 → Option (Int32 × Mem)
  | 0, _, _, _, _, _ => none
  | n + 1, M, x1, x2, x3, x4 =>
    if 60 < x4 then
      if x1 = 0 then
        some (x2, M)
      else
        some (x3, M)
    else
      b1 (fX13_goesBy M 31 (-2)) fun M6 =>
      ldI M6 133 186 (32) fun v7 =>
      if x3 < v7 then
        ldI M6 133 186 (32) fun v8 =>
        fX13_highest_b75 (fX13_highest_l35 n) M6 x1 x4 v8 x4
      else
        fX13_highest_b75 (fX13_highest_l35 n) M6 x1 x2 x3 x4

def fX13_highest (M : Mem) (x1 : Int32) : Option (Int32 × Mem) :=
  pu (sI M 103 0 (0)) fun M1 =>
  b2 (fX13_isWhat M1 x1 1) fun v2 M3 =>
  if v2 = 0 then
    some (0, M3)
  else
    b1 (fX13_lays0 M3 0 31) fun M4 =>
    ldI M4 133 186 (1) fun v5 =>
    fX13_highest_l35 FU M4 x1 0 v5 1

-- X13_image
def fX13_image_l28 : Nat → Mem → Int32 → Option Mem
  | 0, _, _ => none
  | n + 1, M, x1 =>
    if x1 < 31 then
      ldI M 133 186 (x1) fun v9 =>
      stI M 141 31 (x1) (v9) fun M10 =>
      pu (x1 + 1) fun v11 =>
      fX13_image_l28 n M10 v11
    else
      b1 (fX13_copies M 134 142) fun M7 =>
      b1 (fX13_copies M7 138 143) fun M8 =>
      some M8

def fX13_image (M : Mem) : Option Mem :=
  pu (sI M 103 0 (0)) fun M1 =>
  pu (sI M1 103 74 (1)) fun M2 =>
  pu (gI M2 103 64) fun v3 =>
  pu (sI M2 103 75 (v3)) fun M4 =>
  pu (gI M4 103 69) fun v5 =>
  pu (sI M4 103 76 (v5)) fun M6 =>
  fX13_image_l28 FU M6 0

-- X13_isResting
def fX13_isResting_b85 (a2 : Mem → Int32 → Int32 → Option Int32) (a49 : Mem → Int32 → Int32 → Int32 → Int32 → Int32 → Option Int32) (M : Mem) (x1 : Int32) (x2 : Int32) (x3 : Int32) (x4 : Int32) (x5 : Int32) : Option Int32 :=
  pu (x5 + 1) fun v6 =>
  a49 M x1 x2 x3 x4 v6

def fX13_isResting_b82 (a2 : Mem → Int32 → Int32 → Option Int32) (a49 : Mem → Int32 → Int32 → Int32 → Int32 → Int32 → Option Int32) (M : Mem) (x1 : Int32) (x2 : Int32) (x3 : Int32) (x5 : Int32) (s0 : Int32) (s1 : Int32) : Option Int32 :=
  pu (s1 + s0) fun v7 =>
  fX13_isResting_b85 a2 a49 M x1 x2 x3 v7 x5

def fX13_isResting_l49 (a2 : Mem → Int32 → Int32 → Option Int32) : Nat → Mem → Int32 → Int32 → Int32 → Int32 → Int32 → Option Int32
  | 0, _, _, _, _, _, _ => none
  | n + 1, M, x1, x2, x3, x4, x5 =>
    pu (gI M 103 3) fun v4 =>
    if x5 < v4 then
      if x5 = x2 then
        fX13_isResting_b85 a2 (fX13_isResting_l49 a2 n) M x1 x2 x3 x4 x5
      else
        if (x1 >>> (x5 &&& 31)) &&& 1 = x3 then
          fX13_isResting_b82 a2 (fX13_isResting_l49 a2 n) M x1 x2 x3 x5 2 x4
        else
          fX13_isResting_b82 a2 (fX13_isResting_l49 a2 n) M x1 x2 x3 x5 (-2) x4
    else
      if x4 < 0 then
        some (0)
      else
        pu (x2 + 1) fun v5 =>
        a2 M x1 v5

def fX13_isResting_b44 (a2 : Mem → Int32 → Int32 → Option Int32) (M : Mem) (x1 : Int32) (x2 : Int32) (x3 : Int32) (s0 : Int32) : Option Int32 :=
  fX13_isResting_l49 a2 FU M x1 x2 x3 s0 0

def fX13_isResting_l2 : Nat → Mem → Int32 → Int32 → Option Int32
  | 0, _, _, _ => none
  | n + 1, M, x1, x2 =>
    pu (gI M 103 3) fun v1 =>
    if x2 < v1 then
      pu ((x1 >>> (x2 &&& 31)) &&& 1) fun v2 =>
      if v2 = 1 then
        ldI M 133 186 (25 + x2) fun v8 =>
        fX13_isResting_b44 (fX13_isResting_l2 n) M x1 x2 v2 v8
      else
        ldI M 133 186 (25 + x2) fun v3 =>
        fX13_isResting_b44 (fX13_isResting_l2 n) M x1 x2 v2 (0 - v3)
    else
      some (1)

def fX13_isResting (M : Mem) (x1 : Int32) : Option Int32 :=
  fX13_isResting_l2 FU M x1 0

-- X13_least
def fX13_least_b49 (a11 : Mem → Int32 → Int32 → Int32 → Option (Int32 × Mem)) (M : Mem) (x1 : Int32) (x2 : Int32) (x3 : Int32) : Option (Int32 × Mem) :=
  pu (x3 + 1) fun v4 =>
  a11 M x1 x2 v4

def fX13_least_b39 (a11 : Mem → Int32 → Int32 → Int32 → Option (Int32 × Mem)) (M : Mem) (x3 : Int32) : Option (Int32 × Mem) :=
  ldI M 133 186 (39) fun v3 =>
  fX13_least_b49 a11 M x3 v3 x3

def fX13_least_l11 : Nat → Mem → Int32 → Int32 → Int32 → Option (Int32 × Mem)
  | 0, _, _, _, _ => none
  | n + 1, M, x1, x2, x3 =>
    if 5 < x3 then
      some (x1, M)
    else
      b1 (fX13_goesByTerm M x3) fun M2 =>
      if x1 = 0 then
        fX13_least_b39 (fX13_least_l11 n) M2 x3
      else
        ldI M2 133 186 (39) fun v5 =>
        if v5 < x2 then
          fX13_least_b39 (fX13_least_l11 n) M2 x3
        else
          fX13_least_b49 (fX13_least_l11 n) M2 x1 x2 x3

def fX13_least (M : Mem) : Option (Int32 × Mem) :=
  pu (sI M 103 0 (0)) fun M1 =>
  fX13_least_l11 FU M1 0 0 1

-- X13_loan
def fX13_loan (M : Mem) (x1 : Int32) : Option (Int32 × Mem) :=
  pu (sI M 103 0 (0)) fun M1 =>
  b1 (fX13_within x1 1 99) fun v2 =>
  if v2 = 0 then
    b2 (fX13_refuses M1 1) fun v11 M12 =>
    some (v11, M12)
  else
    b1 (fX13_keeps M1) fun M3 =>
    ldI M3 133 186 (0) fun v4 =>
    b1 (fX13_kept (v4 + x1) 0 999) fun v5 =>
    stI M3 133 186 (0) (v5) fun M6 =>
    ldI M6 133 186 (2) fun v7 =>
    b1 (fX13_kept (v7 + x1) 0 999) fun v8 =>
    stI M6 133 186 (2) (v8) fun M9 =>
    ldI M9 133 186 (0) fun v10 =>
    some (v10, M9)

-- X13_moved
def fX13_moved_b79 (a35 : Mem → Int32 → Int32 → Int32 → Int32 → Option (Int32 × Mem)) (M : Mem) (x1 : Int32) (x2 : Int32) (x4 : Int32) (s0 : Int32) (s1 : Int32) : Option (Int32 × Mem) :=
  pu (s1 ||| s0) fun v10 =>
  pu (x4 + 1) fun v11 =>
  a35 M x1 x2 v10 v11

def fX13_moved_b78 (a35 : Mem → Int32 → Int32 → Int32 → Int32 → Option (Int32 × Mem)) (M : Mem) (x1 : Int32) (x2 : Int32) (x4 : Int32) (s0 : Int32) : Option (Int32 × Mem) :=
  fX13_moved_b79 a35 M x1 x2 x4 0 s0

def fX13_moved_l35 : Nat → Mem → Int32 → Int32 → Int32 → Int32 → Option (Int32 × Mem)
  | 0, _, _, _, _, _ => none
  | n + 1, M, x1, x2, x3, x4 =>
    pu (gI M 103 3) fun v7 =>
    if x4 < v7 then
      b2 (fX13_follows M 0 x4 0 0) fun v8 M9 =>
      if v8 = x1 then
        fX13_moved_b78 (fX13_moved_l35 n) M9 x1 x2 x4 x3
      else
        b2 (fX13_follows M9 0 x4 x1 x2) fun v12 M13 =>
        if v12 = x1 then
          fX13_moved_b79 (fX13_moved_l35 n) M13 x1 x2 x4 (1 <<< (x4 &&& 31)) x3
        else
          fX13_moved_b78 (fX13_moved_l35 n) M13 x1 x2 x4 x3
    else
      some (x3, M)

def fX13_moved (M : Mem) (x1 : Int32) (x2 : Int32) : Option (Int32 × Mem) :=
  pu (sI M 103 0 (0)) fun M1 =>
  b2 (fX13_isBrother M1 x1) fun v2 M3 =>
  if v2 = 0 then
    some (0, M3)
  else
    b1 (fX13_within x2 1 99) fun v4 =>
    b2 (fX13_right M3 v4 2) fun v5 M6 =>
    if v5 = 0 then
      some (0, M6)
    else
      fX13_moved_l35 FU M6 x1 x2 0 0

-- X13_next
def fX13_next_b228 (a109 : Mem → Int32 → Int32 → Int32 → Int32 → Int32 → Option (Int32 × Mem)) (M : Mem) (x1 : Int32) (x2 : Int32) (x3 : Int32) (x4 : Int32) (x5 : Int32) : Option (Int32 × Mem) :=
  pu (x5 + 1) fun v5 =>
  a109 M x1 x2 x3 x4 v5

def fX13_next_b200 (a109 : Mem → Int32 → Int32 → Int32 → Int32 → Int32 → Option (Int32 × Mem)) (a122 : Mem → Int32 → Int32 → Int32 → Int32 → Int32 → Int32 → Int32 → Option (Int32 × Mem)) (M : Mem) (x1 : Int32) (x2 : Int32) (x3 : Int32) (x4 : Int32) (x5 : Int32) (x7 : Int32) (s0 : Int32) (s1 : Int32) : Option (Int32 × Mem) :=
  pu (s1 + s0) fun v6 =>
  pu (x7 + 1) fun v7 =>
  a122 M x1 x2 x3 x4 x5 v6 v7

def fX13_next_b188 (a109 : Mem → Int32 → Int32 → Int32 → Int32 → Int32 → Option (Int32 × Mem)) (a122 : Mem → Int32 → Int32 → Int32 → Int32 → Int32 → Int32 → Int32 → Option (Int32 × Mem)) (M : Mem) (x1 : Int32) (x2 : Int32) (x3 : Int32) (x4 : Int32) (x5 : Int32) (x6 : Int32) (x7 : Int32) (x8 : Int32) : Option (Int32 × Mem) :=
  if x8 = 0 then
    fX13_next_b200 a109 a122 M x1 x2 x3 x4 x5 x7 0 x6
  else
    fX13_next_b200 a109 a122 M x1 x2 x3 x4 x5 x7 1 x6

def fX13_next_b180 (a109 : Mem → Int32 → Int32 → Int32 → Int32 → Int32 → Option (Int32 × Mem)) (a122 : Mem → Int32 → Int32 → Int32 → Int32 → Int32 → Int32 → Int32 → Option (Int32 × Mem)) (a134 : Mem → Int32 → Int32 → Int32 → Int32 → Int32 → Int32 → Int32 → Int32 → Int32 → Option (Int32 × Mem)) (M : Mem) (x1 : Int32) (x2 : Int32) (x3 : Int32) (x4 : Int32) (x5 : Int32) (x6 : Int32) (x7 : Int32) (x9 : Int32) (s0 : Int32) : Option (Int32 × Mem) :=
  pu (x9 + 1) fun v10 =>
  a134 M x1 x2 x3 x4 x5 x6 x7 s0 v10

def fX13_next_l134 (a109 : Mem → Int32 → Int32 → Int32 → Int32 → Int32 → Option (Int32 × Mem)) (a122 : Mem → Int32 → Int32 → Int32 → Int32 → Int32 → Int32 → Int32 → Option (Int32 × Mem)) : Nat → Mem → Int32 → Int32 → Int32 → Int32 → Int32 → Int32 → Int32 → Int32 → Int32 → Option (Int32 × Mem)
  | 0, _, _, _, _, _, _, _, _, _, _ => none
  | n + 1, M, x1, x2, x3, x4, x5, x6, x7, x8, x9 =>
    if x9 < x7 then
      if x8 = 0 then
        fX13_next_b188 a109 a122 M x1 x2 x3 x4 x5 x6 x7 x8
      else
        ldI M 140 2520 ((30 * x7) + x5) fun v8 =>
        ldI M 140 2520 ((30 * x9) + x5) fun v9 =>
        if v8 = v9 then
          fX13_next_b180 a109 a122 (fX13_next_l134 a109 a122 n) M x1 x2 x3 x4 x5 x6 x7 x9 0
        else
          fX13_next_b180 a109 a122 (fX13_next_l134 a109 a122 n) M x1 x2 x3 x4 x5 x6 x7 x9 1
    else
      fX13_next_b188 a109 a122 M x1 x2 x3 x4 x5 x6 x7 x8

def fX13_next_l122 (a109 : Mem → Int32 → Int32 → Int32 → Int32 → Int32 → Option (Int32 × Mem)) : Nat → Mem → Int32 → Int32 → Int32 → Int32 → Int32 → Int32 → Int32 → Option (Int32 × Mem)
  | 0, _, _, _, _, _, _, _, _ => none
  | n + 1, M, x1, x2, x3, x4, x5, x6, x7 =>
    if x7 < x2 then
      fX13_next_l134 a109 (fX13_next_l122 a109 n) FU M x1 x2 x3 x4 x5 x6 x7 1 0
    else
      if x4 < x6 then
        pu (x5 + 1) fun v4 =>
        fX13_next_b228 a109 M x1 x2 v4 x6 x5
      else
        fX13_next_b228 a109 M x1 x2 x3 x4 x5

def fX13_next_l109 : Nat → Mem → Int32 → Int32 → Int32 → Int32 → Int32 → Option (Int32 × Mem)
  | 0, _, _, _, _, _, _ => none
  | n + 1, M, x1, x2, x3, x4, x5 =>
    if x5 < 30 then
      fX13_next_l122 (fX13_next_l109 n) FU M x1 x2 x3 x4 x5 0 0
    else
      if x1 = 0 then
        some (x3, M)
      else
        some (x4, M)

def fX13_next_b89 (a20 : Mem → Int32 → Int32 → Int32 → Option (Int32 × Mem)) (a29 : Mem → Int32 → Int32 → Int32 → Int32 → Option (Int32 × Mem)) (M : Mem) (x1 : Int32) (x2 : Int32) (x3 : Int32) (x4 : Int32) : Option (Int32 × Mem) :=
  pu (x4 + 1) fun v16 =>
  a29 M x1 x2 x3 v16

def fX13_next_l54 (a20 : Mem → Int32 → Int32 → Int32 → Option (Int32 × Mem)) (a29 : Mem → Int32 → Int32 → Int32 → Int32 → Option (Int32 × Mem)) : Nat → Mem → Int32 → Int32 → Int32 → Int32 → Int32 → Option (Int32 × Mem)
  | 0, _, _, _, _, _, _ => none
  | n + 1, M, x1, x2, x3, x4, x5 =>
    if x5 < 30 then
      ldI M 139 30 (x5) fun v17 =>
      stI M 140 2520 ((30 * x2) + x5) (v17) fun M18 =>
      pu (x5 + 1) fun v19 =>
      fX13_next_l54 a20 a29 n M18 x1 x2 x3 x4 v19
    else
      pu (x2 + 1) fun v15 =>
      fX13_next_b89 a20 a29 M x1 v15 x3 x4

def fX13_next_l29 (a20 : Mem → Int32 → Int32 → Int32 → Option (Int32 × Mem)) : Nat → Mem → Int32 → Int32 → Int32 → Int32 → Option (Int32 × Mem)
  | 0, _, _, _, _, _ => none
  | n + 1, M, x1, x2, x3, x4 =>
    pu (gI M 103 1) fun v11 =>
    if x4 < v11 then
      b2 (fX13_isSeen M x3 x4) fun v13 M14 =>
      if v13 = 0 then
        fX13_next_b89 a20 (fX13_next_l29 a20 n) M14 x1 x2 x3 x4
      else
        fX13_next_l54 a20 (fX13_next_l29 a20 n) FU M14 x1 x2 x3 x4 0
    else
      pu (x3 + 1) fun v12 =>
      a20 M x1 x2 v12

def fX13_next_l20 : Nat → Mem → Int32 → Int32 → Int32 → Option (Int32 × Mem)
  | 0, _, _, _, _ => none
  | n + 1, M, x1, x2, x3 =>
    if 12 < x3 then
      fX13_next_l109 FU M x1 x2 (-1) 0 0
    else
      fX13_next_l29 (fX13_next_l20 n) FU M x1 x2 x3 0

def fX13_next (M : Mem) (x1 : Int32) : Option (Int32 × Mem) :=
  pu (sI M 103 0 (0)) fun M1 =>
  b2 (fX13_isWhat M1 x1 1) fun v2 M3 =>
  if v2 = 0 then
    some (0, M3)
  else
    fX13_next_l20 FU M3 x1 0 1

-- X13_odds
def fX13_odds_b155 (a62 : Mem → Int32 → Int32 → Int32 → Int32 → Int32 → Option (Int32 × Mem)) (M : Mem) (x2 : Int32) (x3 : Int32) (x4 : Int32) (x5 : Int32) (x6 : Int32) : Option (Int32 × Mem) :=
  pu (x6 + 1) fun v9 =>
  a62 M x2 x3 x4 x5 v9

def fX13_odds_b142 (a62 : Mem → Int32 → Int32 → Int32 → Int32 → Int32 → Option (Int32 × Mem)) (a98 : Mem → Int32 → Int32 → Int32 → Int32 → Int32 → Int32 → Int32 → Option (Int32 × Mem)) (M : Mem) (x2 : Int32) (x3 : Int32) (x4 : Int32) (x5 : Int32) (x6 : Int32) (x7 : Int32) (x8 : Int32) : Option (Int32 × Mem) :=
  pu (x8 + 1) fun v13 =>
  a98 M x2 x3 x4 x5 x6 x7 v13

def fX13_odds_b139 (a62 : Mem → Int32 → Int32 → Int32 → Int32 → Int32 → Option (Int32 × Mem)) (a98 : Mem → Int32 → Int32 → Int32 → Int32 → Int32 → Int32 → Int32 → Option (Int32 × Mem)) (M : Mem) (x2 : Int32) (x3 : Int32) (x4 : Int32) (x5 : Int32) (x6 : Int32) (x8 : Int32) (s0 : Int32) (s1 : Int32) : Option (Int32 × Mem) :=
  pu (s1 * s0) fun v14 =>
  fX13_odds_b142 a62 a98 M x2 x3 x4 x5 x6 v14 x8

def fX13_odds_l98 (a62 : Mem → Int32 → Int32 → Int32 → Int32 → Int32 → Option (Int32 × Mem)) : Nat → Mem → Int32 → Int32 → Int32 → Int32 → Int32 → Int32 → Int32 → Option (Int32 × Mem)
  | 0, _, _, _, _, _, _, _, _ => none
  | n + 1, M, x2, x3, x4, x5, x6, x7, x8 =>
    pu (gI M 103 3) fun v11 =>
    if x8 < v11 then
      if (x4 >>> (x8 &&& 31)) &&& 1 = 1 then
        if (x6 >>> (x8 &&& 31)) &&& 1 = 1 then
          fX13_odds_b139 a62 (fX13_odds_l98 a62 n) M x2 x3 x4 x5 x6 x8 x2 x7
        else
          fX13_odds_b139 a62 (fX13_odds_l98 a62 n) M x2 x3 x4 x5 x6 x8 (10 - x2) x7
      else
        fX13_odds_b142 a62 (fX13_odds_l98 a62 n) M x2 x3 x4 x5 x6 x7 x8
    else
      pu (x5 + x7) fun v12 =>
      fX13_odds_b155 a62 M x2 x3 x4 v12 x6

def fX13_odds_l62 : Nat → Mem → Int32 → Int32 → Int32 → Int32 → Int32 → Option (Int32 × Mem)
  | 0, _, _, _, _, _, _ => none
  | n + 1, M, x2, x3, x4, x5, x6 =>
    if x4 < x6 then
      some (x5, M)
    else
      if x6 &&& (x4 ^^^ (-1)) = 0 then
        b1 (fX13_menOf M x6) fun v10 =>
        if v10 < x3 then
          fX13_odds_b155 (fX13_odds_l62 n) M x2 x3 x4 x5 x6
        else
          fX13_odds_l98 (fX13_odds_l62 n) FU M x2 x3 x4 x5 x6 1 0
      else
        fX13_odds_b155 (fX13_odds_l62 n) M x2 x3 x4 x5 x6

def fX13_odds_b39 (M : Mem) (x1 : Int32) (x2 : Int32) (x3 : Int32) (s0 : Int32) : Option (Int32 × Mem) :=
  b2 (fX13_right M s0 2) fun v5 M6 =>
  if v5 = 0 then
    some (0, M6)
  else
    b2 (fX13_followers M6 0 x1) fun v7 M8 =>
    fX13_odds_l62 FU M8 x2 x3 v7 0 0

def fX13_odds_b38 (M : Mem) (x1 : Int32) (x2 : Int32) (x3 : Int32) : Option (Int32 × Mem) :=
  fX13_odds_b39 M x1 x2 x3 0

def fX13_odds (M : Mem) (x1 : Int32) (x2 : Int32) (x3 : Int32) : Option (Int32 × Mem) :=
  pu (sI M 103 0 (0)) fun M1 =>
  b2 (fX13_isBrother M1 x1) fun v2 M3 =>
  if v2 = 0 then
    some (0, M3)
  else
    b1 (fX13_within x2 1 9) fun v4 =>
    if v4 = 0 then
      fX13_odds_b38 M3 x1 x2 x3
    else
      b1 (fX13_within x3 0 54) fun v15 =>
      if v15 = 0 then
        fX13_odds_b38 M3 x1 x2 x3
      else
        fX13_odds_b39 M3 x1 x2 x3 1

-- X13_parties
def fX13_parties_b57 (a23 : Mem → Int32 → Int32 → Int32 → Int32 → Option (Int32 × Mem)) (M : Mem) (x1 : Int32) (x2 : Int32) (x3 : Int32) (x4 : Int32) : Option (Int32 × Mem) :=
  pu (x4 + 1) fun v7 =>
  a23 M x1 x2 x3 v7

def fX13_parties_l23 : Nat → Mem → Int32 → Int32 → Int32 → Int32 → Option (Int32 × Mem)
  | 0, _, _, _, _, _ => none
  | n + 1, M, x1, x2, x3, x4 =>
    pu (gI M 103 3) fun v4 =>
    if x4 < 1 <<< (v4 &&& 31) then
      b1 (fX13_isResting M x4) fun v5 =>
      if v5 = 0 then
        fX13_parties_b57 (fX13_parties_l23 n) M x1 x2 x3 x4
      else
        pu (x2 + 1) fun v6 =>
        if x3 = (-1) then
          fX13_parties_b57 (fX13_parties_l23 n) M x1 v6 x4 x4
        else
          fX13_parties_b57 (fX13_parties_l23 n) M x1 v6 x3 x4
    else
      if x1 = 0 then
        some (x2, M)
      else
        some (x3, M)

def fX13_parties (M : Mem) (x1 : Int32) : Option (Int32 × Mem) :=
  pu (sI M 103 0 (0)) fun M1 =>
  b2 (fX13_isWhat M1 x1 1) fun v2 M3 =>
  if v2 = 0 then
    some (0, M3)
  else
    fX13_parties_l23 FU M3 x1 0 (-1) 0

-- X13_triesDeed
def fX13_triesDeed_b56 (M : Mem) (x1 : Int32) (x2 : Int32) : Option (Int32 × Mem) :=
  b2 (fX13_does M (x1 + 31) x2) fun v5 M6 =>
  b1 (fX13_ends M6 (x1 + 31) 1) fun M7 =>
  some (1, M7)

def fX13_triesDeed (M : Mem) (x1 : Int32) (x2 : Int32) : Option (Int32 × Mem) :=
  b1 (fX13_lays0 M x1 (x1 + 31)) fun M1 =>
  ldI M1 133 186 (x1 + 3) fun v2 =>
  b1 (fX13_harvestOf M1 v2) fun v3 =>
  b1 (fX13_gathers M1 (x1 + 31) v3) fun M4 =>
  if x2 = (-1) then
    fX13_triesDeed_b56 M4 x1 x2
  else
    ldI M4 104 7 (x2) fun v8 =>
    ldI M4 133 186 ((x1 + 31) + 0) fun v9 =>
    if v9 < v8 then
      some (0, M4)
    else
      fX13_triesDeed_b56 M4 x1 x2

-- X13_planOne
def fX13_planOne_b103 (a9 : Mem → Int32 → Int32 → Int32 → Int32 → Int32 → Option (Int32 × Mem)) (M : Mem) (x1 : Int32) (x2 : Int32) (x3 : Int32) (x4 : Int32) (x5 : Int32) : Option (Int32 × Mem) :=
  pu (x5 + 1) fun v7 =>
  a9 M x1 x2 x3 x4 v7

def fX13_planOne_b96 (a9 : Mem → Int32 → Int32 → Int32 → Int32 → Int32 → Option (Int32 × Mem)) (M : Mem) (x1 : Int32) (x2 : Int32) (x5 : Int32) (x6 : Int32) (x7 : Int32) : Option (Int32 × Mem) :=
  fX13_planOne_b103 a9 M x1 x2 x7 x6 x5

def fX13_planOne_b33 (a9 : Mem → Int32 → Int32 → Int32 → Int32 → Int32 → Option (Int32 × Mem)) (M : Mem) (x1 : Int32) (x2 : Int32) (x3 : Int32) (x4 : Int32) (x5 : Int32) (s0 : Int32) : Option (Int32 × Mem) :=
  b2 (fX13_triesDeed M x1 s0) fun v4 M5 =>
  if v4 = 0 then
    fX13_planOne_b103 a9 M5 x1 x2 x3 x4 x5
  else
    b1 (fX13_ahead0 M5 (x1 + 31) x2) fun v6 =>
    if x4 = (-2) then
      fX13_planOne_b96 a9 M5 x1 x2 x5 s0 v6
    else
      ldI M5 133 186 (x1 + 4) fun v8 =>
      if v8 = x2 then
        if x3 < v6 then
          fX13_planOne_b96 a9 M5 x1 x2 x5 s0 v6
        else
          fX13_planOne_b103 a9 M5 x1 x2 x3 x4 x5
      else
        if v6 < x3 then
          fX13_planOne_b96 a9 M5 x1 x2 x5 s0 v6
        else
          fX13_planOne_b103 a9 M5 x1 x2 x3 x4 x5

def fX13_planOne_l9 : Nat → Mem → Int32 → Int32 → Int32 → Int32 → Int32 → Option (Int32 × Mem)
  | 0, _, _, _, _, _, _ => none
  | n + 1, M, x1, x2, x3, x4, x5 =>
    pu (gI M 103 1) fun v1 =>
    if v1 < x5 then
      pu (sI M 103 67 (x4)) fun M2 =>
      some (x3, M2)
    else
      pu (gI M 103 1) fun v3 =>
      if x5 = v3 then
        fX13_planOne_b33 (fX13_planOne_l9 n) M x1 x2 x3 x4 x5 (-1)
      else
        fX13_planOne_b33 (fX13_planOne_l9 n) M x1 x2 x3 x4 x5 x5

def fX13_planOne (M : Mem) (x1 : Int32) (x2 : Int32) : Option (Int32 × Mem) :=
  fX13_planOne_l9 FU M x1 x2 0 (-2) 0

-- X13_planTwo
def fX13_planTwo_b103 (a9 : Mem → Int32 → Int32 → Int32 → Int32 → Int32 → Option (Int32 × Mem)) (M : Mem) (x1 : Int32) (x2 : Int32) (x3 : Int32) (x4 : Int32) (x5 : Int32) : Option (Int32 × Mem) :=
  pu (x5 + 1) fun v8 =>
  a9 M x1 x2 x3 x4 v8

def fX13_planTwo_b96 (a9 : Mem → Int32 → Int32 → Int32 → Int32 → Int32 → Option (Int32 × Mem)) (M : Mem) (x1 : Int32) (x2 : Int32) (x5 : Int32) (x6 : Int32) (x7 : Int32) : Option (Int32 × Mem) :=
  fX13_planTwo_b103 a9 M x1 x2 x7 x6 x5

def fX13_planTwo_b33 (a9 : Mem → Int32 → Int32 → Int32 → Int32 → Int32 → Option (Int32 × Mem)) (M : Mem) (x1 : Int32) (x2 : Int32) (x3 : Int32) (x4 : Int32) (x5 : Int32) (s0 : Int32) : Option (Int32 × Mem) :=
  b2 (fX13_triesDeed M x1 s0) fun v4 M5 =>
  if v4 = 0 then
    fX13_planTwo_b103 a9 M5 x1 x2 x3 x4 x5
  else
    b2 (fX13_planOne M5 (x1 + 31) x2) fun v6 M7 =>
    if x4 = (-2) then
      fX13_planTwo_b96 a9 M7 x1 x2 x5 s0 v6
    else
      ldI M7 133 186 (x1 + 4) fun v9 =>
      if v9 = x2 then
        if x3 < v6 then
          fX13_planTwo_b96 a9 M7 x1 x2 x5 s0 v6
        else
          fX13_planTwo_b103 a9 M7 x1 x2 x3 x4 x5
      else
        if v6 < x3 then
          fX13_planTwo_b96 a9 M7 x1 x2 x5 s0 v6
        else
          fX13_planTwo_b103 a9 M7 x1 x2 x3 x4 x5

def fX13_planTwo_l9 : Nat → Mem → Int32 → Int32 → Int32 → Int32 → Int32 → Option (Int32 × Mem)
  | 0, _, _, _, _, _, _ => none
  | n + 1, M, x1, x2, x3, x4, x5 =>
    pu (gI M 103 1) fun v1 =>
    if v1 < x5 then
      pu (sI M 103 67 (x4)) fun M2 =>
      some (x3, M2)
    else
      pu (gI M 103 1) fun v3 =>
      if x5 = v3 then
        fX13_planTwo_b33 (fX13_planTwo_l9 n) M x1 x2 x3 x4 x5 (-1)
      else
        fX13_planTwo_b33 (fX13_planTwo_l9 n) M x1 x2 x3 x4 x5 x5

def fX13_planTwo (M : Mem) (x1 : Int32) (x2 : Int32) : Option (Int32 × Mem) :=
  fX13_planTwo_l9 FU M x1 x2 0 (-2) 0

-- X13_planThree
def fX13_planThree_b103 (a9 : Mem → Int32 → Int32 → Int32 → Int32 → Int32 → Option (Int32 × Mem)) (M : Mem) (x1 : Int32) (x2 : Int32) (x3 : Int32) (x4 : Int32) (x5 : Int32) : Option (Int32 × Mem) :=
  pu (x5 + 1) fun v8 =>
  a9 M x1 x2 x3 x4 v8

def fX13_planThree_b96 (a9 : Mem → Int32 → Int32 → Int32 → Int32 → Int32 → Option (Int32 × Mem)) (M : Mem) (x1 : Int32) (x2 : Int32) (x5 : Int32) (x6 : Int32) (x7 : Int32) : Option (Int32 × Mem) :=
  fX13_planThree_b103 a9 M x1 x2 x7 x6 x5

def fX13_planThree_b33 (a9 : Mem → Int32 → Int32 → Int32 → Int32 → Int32 → Option (Int32 × Mem)) (M : Mem) (x1 : Int32) (x2 : Int32) (x3 : Int32) (x4 : Int32) (x5 : Int32) (s0 : Int32) : Option (Int32 × Mem) :=
  b2 (fX13_triesDeed M x1 s0) fun v4 M5 =>
  if v4 = 0 then
    fX13_planThree_b103 a9 M5 x1 x2 x3 x4 x5
  else
    b2 (fX13_planTwo M5 (x1 + 31) x2) fun v6 M7 =>
    if x4 = (-2) then
      fX13_planThree_b96 a9 M7 x1 x2 x5 s0 v6
    else
      ldI M7 133 186 (x1 + 4) fun v9 =>
      if v9 = x2 then
        if x3 < v6 then
          fX13_planThree_b96 a9 M7 x1 x2 x5 s0 v6
        else
          fX13_planThree_b103 a9 M7 x1 x2 x3 x4 x5
      else
        if v6 < x3 then
          fX13_planThree_b96 a9 M7 x1 x2 x5 s0 v6
        else
          fX13_planThree_b103 a9 M7 x1 x2 x3 x4 x5

def fX13_planThree_l9 : Nat → Mem → Int32 → Int32 → Int32 → Int32 → Int32 → Option (Int32 × Mem)
  | 0, _, _, _, _, _, _ => none
  | n + 1, M, x1, x2, x3, x4, x5 =>
    pu (gI M 103 1) fun v1 =>
    if v1 < x5 then
      pu (sI M 103 67 (x4)) fun M2 =>
      some (x3, M2)
    else
      pu (gI M 103 1) fun v3 =>
      if x5 = v3 then
        fX13_planThree_b33 (fX13_planThree_l9 n) M x1 x2 x3 x4 x5 (-1)
      else
        fX13_planThree_b33 (fX13_planThree_l9 n) M x1 x2 x3 x4 x5 x5

def fX13_planThree (M : Mem) (x1 : Int32) (x2 : Int32) : Option (Int32 × Mem) :=
  fX13_planThree_l9 FU M x1 x2 0 (-2) 0

-- X13_planFour
def fX13_planFour_b103 (a9 : Mem → Int32 → Int32 → Int32 → Int32 → Int32 → Option (Int32 × Mem)) (M : Mem) (x1 : Int32) (x2 : Int32) (x3 : Int32) (x4 : Int32) (x5 : Int32) : Option (Int32 × Mem) :=
  pu (x5 + 1) fun v8 =>
  a9 M x1 x2 x3 x4 v8

def fX13_planFour_b96 (a9 : Mem → Int32 → Int32 → Int32 → Int32 → Int32 → Option (Int32 × Mem)) (M : Mem) (x1 : Int32) (x2 : Int32) (x5 : Int32) (x6 : Int32) (x7 : Int32) : Option (Int32 × Mem) :=
  fX13_planFour_b103 a9 M x1 x2 x7 x6 x5

def fX13_planFour_b33 (a9 : Mem → Int32 → Int32 → Int32 → Int32 → Int32 → Option (Int32 × Mem)) (M : Mem) (x1 : Int32) (x2 : Int32) (x3 : Int32) (x4 : Int32) (x5 : Int32) (s0 : Int32) : Option (Int32 × Mem) :=
  b2 (fX13_triesDeed M x1 s0) fun v4 M5 =>
  if v4 = 0 then
    fX13_planFour_b103 a9 M5 x1 x2 x3 x4 x5
  else
    b2 (fX13_planThree M5 (x1 + 31) x2) fun v6 M7 =>
    if x4 = (-2) then
      fX13_planFour_b96 a9 M7 x1 x2 x5 s0 v6
    else
      ldI M7 133 186 (x1 + 4) fun v9 =>
      if v9 = x2 then
        if x3 < v6 then
          fX13_planFour_b96 a9 M7 x1 x2 x5 s0 v6
        else
          fX13_planFour_b103 a9 M7 x1 x2 x3 x4 x5
      else
        if v6 < x3 then
          fX13_planFour_b96 a9 M7 x1 x2 x5 s0 v6
        else
          fX13_planFour_b103 a9 M7 x1 x2 x3 x4 x5

def fX13_planFour_l9 : Nat → Mem → Int32 → Int32 → Int32 → Int32 → Int32 → Option (Int32 × Mem)
  | 0, _, _, _, _, _, _ => none
  | n + 1, M, x1, x2, x3, x4, x5 =>
    pu (gI M 103 1) fun v1 =>
    if v1 < x5 then
      pu (sI M 103 67 (x4)) fun M2 =>
      some (x3, M2)
    else
      pu (gI M 103 1) fun v3 =>
      if x5 = v3 then
        fX13_planFour_b33 (fX13_planFour_l9 n) M x1 x2 x3 x4 x5 (-1)
      else
        fX13_planFour_b33 (fX13_planFour_l9 n) M x1 x2 x3 x4 x5 x5

def fX13_planFour (M : Mem) (x1 : Int32) (x2 : Int32) : Option (Int32 × Mem) :=
  fX13_planFour_l9 FU M x1 x2 0 (-2) 0

-- X13_plan
def fX13_plan_b85 (M : Mem) (x2 : Int32) (x3 : Int32) (s0 : Int32) : Option (Int32 × Mem) :=
  if x2 = 0 then
    b1 (fX13_ahead0 M 0 x3) fun v11 =>
    some (s0 - v11, M)
  else
    pu (gI M 103 67) fun v10 =>
    some (v10, M)

def fX13_plan (M : Mem) (x1 : Int32) (x2 : Int32) : Option (Int32 × Mem) :=
  pu (sI M 103 0 (0)) fun M1 =>
  b2 (fX13_isWhat M1 x2 1) fun v2 M3 =>
  if v2 = 0 then
    some (0, M3)
  else
    b1 (fX13_within x1 1 4) fun v4 =>
    b2 (fX13_right M3 v4 2) fun v5 M6 =>
    if v5 = 0 then
      some (0, M6)
    else
      ldI M6 133 186 (4) fun v7 =>
      if x1 = 1 then
        b2 (fX13_planOne M6 0 v7) fun v16 M17 =>
        fX13_plan_b85 M17 x2 v7 v16
      else
        if x1 = 2 then
          b2 (fX13_planTwo M6 0 v7) fun v14 M15 =>
          fX13_plan_b85 M15 x2 v7 v14
        else
          if x1 = 3 then
            b2 (fX13_planThree M6 0 v7) fun v12 M13 =>
            fX13_plan_b85 M13 x2 v7 v12
          else
            b2 (fX13_planFour M6 0 v7) fun v8 M9 =>
            fX13_plan_b85 M9 x2 v7 v8

-- X13_restore
def fX13_restore_l32 : Nat → Mem → Int32 → Option (Int32 × Mem)
  | 0, _, _ => none
  | n + 1, M, x1 =>
    if x1 < 31 then
      ldI M 141 31 (x1) fun v9 =>
      stI M 133 186 (x1) (v9) fun M10 =>
      pu (x1 + 1) fun v11 =>
      fX13_restore_l32 n M10 v11
    else
      b1 (fX13_copies M 142 134) fun M7 =>
      b1 (fX13_copies M7 143 138) fun M8 =>
      some (1, M8)

def fX13_restore (M : Mem) : Option (Int32 × Mem) :=
  pu (sI M 103 0 (0)) fun M1 =>
  pu (gI M1 103 74) fun v2 =>
  if v2 = 0 then
    some (0, M1)
  else
    pu (gI M1 103 75) fun v3 =>
    pu (sI M1 103 64 (v3)) fun M4 =>
    pu (gI M4 103 76) fun v5 =>
    pu (sI M4 103 69 (v5)) fun M6 =>
    fX13_restore_l32 FU M6 0

-- X13_ruin
def fX13_ruin_l14 : Nat → Mem → Int32 → Option (Int32 × Mem)
  | 0, _, _ => none
  | n + 1, M, x1 =>
    if 60 < x1 then
      some ((-1), M)
    else
      ldI M 133 186 (33) fun v3 =>
      ldI M 133 186 (31) fun v4 =>
      if v4 < v3 then
        some (x1, M)
      else
        b1 (fX13_goesBy M 31 (-2)) fun M5 =>
        pu (x1 + 1) fun v6 =>
        fX13_ruin_l14 n M5 v6

def fX13_ruin (M : Mem) : Option (Int32 × Mem) :=
  pu (sI M 103 0 (0)) fun M1 =>
  b1 (fX13_lays0 M1 0 31) fun M2 =>
  fX13_ruin_l14 FU M2 0

-- X13_see
def fX13_see_b35 (M : Mem) : Option (Int32 × Mem) :=
  b2 (fX13_refuses M 2) fun v3 M4 =>
  some (v3, M4)

def fX13_see (M : Mem) (x1 : Int32) (x2 : Int32) : Option (Int32 × Mem) :=
  pu (sI M 103 0 (0)) fun M1 =>
  pu (gI M1 103 69) fun v2 =>
  if v2 = 8 then
    fX13_see_b35 M1
  else
    b1 (fX13_within x1 1 30) fun v5 =>
    if v5 = 0 then
      fX13_see_b35 M1
    else
      b1 (fX13_within x2 0 999) fun v6 =>
      if v6 = 0 then
        fX13_see_b35 M1
      else
        pu (gI M1 103 69) fun v7 =>
        stI M1 138 16 (2 * v7) (x1) fun M8 =>
        pu (gI M8 103 69) fun v9 =>
        stI M8 138 16 ((2 * v9) + 1) (x2) fun M10 =>
        pu (gI M10 103 69) fun v11 =>
        pu (sI M10 103 69 (v11 + 1)) fun M12 =>
        pu (gI M12 103 69) fun v13 =>
        some (v13, M12)

-- X13_stays
def fX13_stays_l25 : Nat → Mem → Int32 → Int32 → Option (Int32 × Mem)
  | 0, _, _, _ => none
  | n + 1, M, x1, x2 =>
    if 60 < x2 then
      some ((-1), M)
    else
      ldI M 133 186 (35) fun v5 =>
      b1 (fX13_goesBy M 31 (-2)) fun M6 =>
      ldI M6 133 186 (40) fun v7 =>
      ldI M6 133 186 (9) fun v8 =>
      if v8 < v7 then
        if x1 = 0 then
          some (x2, M6)
        else
          some (v5, M6)
      else
        pu (x2 + 1) fun v9 =>
        fX13_stays_l25 n M6 x1 v9

def fX13_stays (M : Mem) (x1 : Int32) : Option (Int32 × Mem) :=
  pu (sI M 103 0 (0)) fun M1 =>
  b2 (fX13_isWhat M1 x1 1) fun v2 M3 =>
  if v2 = 0 then
    some (0, M3)
  else
    b1 (fX13_lays0 M3 0 31) fun M4 =>
    fX13_stays_l25 FU M4 x1 1

-- X13_swaps
def fX13_swaps (M : Mem) (x1 : Int32) (x2 : Int32) : Option Mem :=
  ldI M 133 186 (x1) fun v1 =>
  ldI M 133 186 (x2) fun v2 =>
  stI M 133 186 (x1) (v2) fun M3 =>
  stI M3 133 186 (x2) (v1) fun M4 =>
  some M4

-- X13_swap
def fX13_swap_b119 (a35 : Mem → Int32 → Int32 → Int32 → Int32 → Int32 → Option (Int32 × Mem)) (a52 : Mem → Int32 → Int32 → Int32 → Int32 → Int32 → Int32 → Option (Int32 × Mem)) (M : Mem) (x1 : Int32) (x2 : Int32) (x3 : Int32) (x4 : Int32) (x5 : Int32) (x6 : Int32) : Option (Int32 × Mem) :=
  pu (x6 + 1) fun v16 =>
  a52 M x1 x2 x3 x4 x5 v16

def fX13_swap_l52 (a35 : Mem → Int32 → Int32 → Int32 → Int32 → Int32 → Option (Int32 × Mem)) : Nat → Mem → Int32 → Int32 → Int32 → Int32 → Int32 → Int32 → Option (Int32 × Mem)
  | 0, _, _, _, _, _, _, _ => none
  | n + 1, M, x1, x2, x3, x4, x5, x6 =>
    ldI M 108 2 (x1) fun v9 =>
    if x6 < v9 then
      b1 (fX13_swaps M (x4 + x5) (x4 + x6)) fun M11 =>
      b2 (fX13_gloryIn M11 x1) fun v12 M13 =>
      b1 (fX13_swaps M13 (x4 + x5) (x4 + x6)) fun M14 =>
      if x3 < v12 then
        pu ((10 * x5) + x6) fun v15 =>
        fX13_swap_b119 a35 (fX13_swap_l52 a35 n) M14 x1 v15 v12 x4 x5 x6
      else
        fX13_swap_b119 a35 (fX13_swap_l52 a35 n) M14 x1 x2 x3 x4 x5 x6
    else
      pu (x5 + 1) fun v10 =>
      a35 M x1 x2 x3 x4 v10

def fX13_swap_l35 : Nat → Mem → Int32 → Int32 → Int32 → Int32 → Int32 → Option (Int32 × Mem)
  | 0, _, _, _, _, _, _ => none
  | n + 1, M, x1, x2, x3, x4, x5 =>
    ldI M 108 2 (x1) fun v7 =>
    if x5 < v7 then
      pu (x5 + 1) fun v8 =>
      fX13_swap_l52 (fX13_swap_l35 n) FU M x1 x2 x3 x4 x5 v8
    else
      some (x2, M)

def fX13_swap (M : Mem) (x1 : Int32) : Option (Int32 × Mem) :=
  pu (sI M 103 0 (0)) fun M1 =>
  b2 (fX13_isBrother M1 x1) fun v2 M3 =>
  if v2 = 0 then
    some (0, M3)
  else
    b2 (fX13_gloryIn M3 x1) fun v4 M5 =>
    pu (13 + (6 * x1)) fun v6 =>
    fX13_swap_l35 FU M5 x1 (-1) v4 v6 0

-- X13_term
def fX13_term (M : Mem) (x1 : Int32) : Option (Int32 × Mem) :=
  pu (sI M 103 0 (0)) fun M1 =>
  b1 (fX13_within x1 1 5) fun v2 =>
  if v2 = 0 then
    b2 (fX13_refuses M1 1) fun v6 M7 =>
    some (v6, M7)
  else
    b1 (fX13_keeps M1) fun M3 =>
    ldI M3 133 186 (12) fun v4 =>
    stI M3 133 186 (12) (x1) fun M5 =>
    some (v4, M5)

-- X13_then
def fX13_then (M : Mem) (x1 : Int32) (x2 : Int32) : Option (Int32 × Mem) :=
  pu (sI M 103 0 (0)) fun M1 =>
  b2 (fX13_isWhat M1 x2 6) fun v2 M3 =>
  if v2 = 0 then
    some (0, M3)
  else
    b1 (fX13_within x1 0 60) fun v4 =>
    b2 (fX13_right M3 v4 2) fun v5 M6 =>
    if v5 = 0 then
      some (0, M6)
    else
      b1 (fX13_lays0 M6 0 31) fun M7 =>
      b1 (fX13_goesYears M7 31 x1) fun M8 =>
      if x2 = 0 then
        ldI M8 133 186 (31 + x2) fun v9 =>
        some (v9, M8)
      else if x2 = 1 then
        ldI M8 133 186 (31 + x2) fun v10 =>
        some (v10, M8)
      else if x2 = 2 then
        ldI M8 133 186 (31 + x2) fun v11 =>
        some (v11, M8)
      else if x2 = 3 then
        ldI M8 133 186 ((37 + x2) - 3) fun v12 =>
        some (v12, M8)
      else if x2 = 4 then
        ldI M8 133 186 ((37 + x2) - 3) fun v13 =>
        some (v13, M8)
      else if x2 = 5 then
        ldI M8 133 186 (35) fun v14 =>
        some (v14, M8)
      else 
        ldI M8 133 186 (39) fun v15 =>
        some (v15, M8)

-- X13_thrown
def fX13_thrown (M : Mem) : Option Int32 :=
  pu (gI M 103 0) fun v1 =>
  some (v1)

-- X13_undo
def fX13_undo_l26 : Nat → Mem → Int32 → Option (Int32 × Mem)
  | 0, _, _ => none
  | n + 1, M, x1 =>
    if x1 < 31 then
      pu (gI M 103 64) fun v6 =>
      ldI M 134 1240 ((31 * v6) + x1) fun v7 =>
      stI M 133 186 (x1) (v7) fun M8 =>
      pu (x1 + 1) fun v9 =>
      fX13_undo_l26 n M8 v9
    else
      pu (gI M 103 64) fun v5 =>
      some (v5, M)

def fX13_undo (M : Mem) : Option (Int32 × Mem) :=
  pu (sI M 103 0 (0)) fun M1 =>
  pu (gI M1 103 64) fun v2 =>
  if v2 = 0 then
    some ((-1), M1)
  else
    pu (gI M1 103 64) fun v3 =>
    pu (sI M1 103 64 (v3 - 1)) fun M4 =>
    fX13_undo_l26 FU M4 0

-- X13_way
def fX13_way_b33 (M : Mem) (x1 : Int32) (x2 : Int32) (s0 : Int32) : Option (Int32 × Mem) :=
  b2 (fX13_right M s0 1) fun v4 M5 =>
  if v4 = 0 then
    some (0, M5)
  else
    ldI M5 133 186 ((13 + (6 * x1)) + x2) fun v6 =>
    some (v6, M5)

def fX13_way_b32 (M : Mem) (x1 : Int32) (x2 : Int32) : Option (Int32 × Mem) :=
  fX13_way_b33 M x1 x2 0

def fX13_way (M : Mem) (x1 : Int32) (x2 : Int32) : Option (Int32 × Mem) :=
  pu (sI M 103 0 (0)) fun M1 =>
  b2 (fX13_isBrother M1 x1) fun v2 M3 =>
  if v2 = 0 then
    some (0, M3)
  else
    if x2 < 0 then
      fX13_way_b32 M3 x1 x2
    else
      ldI M3 108 2 (x1) fun v7 =>
      if x2 < v7 then
        fX13_way_b33 M3 x1 x2 1
      else
        fX13_way_b32 M3 x1 x2

-- X13_wins
def fX13_wins_b35 (M : Mem) (x1 : Int32) (x2 : Int32) (s0 : Int32) : Option (Int32 × Mem) :=
  b2 (fX13_right M s0 1) fun v2 M3 =>
  if v2 = 0 then
    some (0, M3)
  else
    b1 (fX13_isWin M3 x1 x2) fun v4 =>
    if v4 = 0 then
      some (0, M3)
    else
      some (1, M3)

def fX13_wins_b34 (M : Mem) (x1 : Int32) (x2 : Int32) : Option (Int32 × Mem) :=
  fX13_wins_b35 M x1 x2 0

def fX13_wins (M : Mem) (x1 : Int32) (x2 : Int32) : Option (Int32 × Mem) :=
  pu (sI M 103 0 (0)) fun M1 =>
  if x1 < 0 then
    fX13_wins_b34 M1 x1 x2
  else
    pu (gI M1 103 4) fun v5 =>
    if x1 < v5 then
      if x2 < 0 then
        fX13_wins_b34 M1 x1 x2
      else
        pu (gI M1 103 5) fun v6 =>
        if x2 < v6 then
          fX13_wins_b35 M1 x1 x2 1
        else
          fX13_wins_b34 M1 x1 x2
    else
      fX13_wins_b34 M1 x1 x2

-- X13_years
def fX13_years_b29 (M : Mem) : Option (Int32 × Mem) :=
  b2 (fX13_refuses M 1) fun v3 M4 =>
  some (v3, M4)

def fX13_years (M : Mem) (x1 : Int32) : Option (Int32 × Mem) :=
  pu (sI M 103 0 (0)) fun M1 =>
  b1 (fX13_within x1 1 20) fun v2 =>
  if v2 = 0 then
    fX13_years_b29 M1
  else
    ldI M1 133 186 (3) fun v5 =>
    if 999 < v5 + x1 then
      fX13_years_b29 M1
    else
      b1 (fX13_keeps M1) fun M6 =>
      b1 (fX13_goesYears M6 0 x1) fun M7 =>
      ldI M7 133 186 (3) fun v8 =>
      some (v8, M7)
