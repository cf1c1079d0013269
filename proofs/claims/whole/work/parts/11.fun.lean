-- X6_refuse
def fX6_refuse (M : Mem) (x1 : Int32) : Option (Int32 × Mem) :=
  pu (sI M 3 3 (x1)) fun Mq1 =>
  pu (gI Mq1 27 3) fun vq2 =>
  pu (sI Mq1 3 4 (vq2)) fun Mq3 =>
  some (0, Mq3)

-- X10_isLetter
def fX10_isLetter (x0 : Int32) : Option Int32 :=
  if x0 < 97 then
    some (0)
  else
    if 122 < x0 then
      some (0)
    else
      some (1)

-- X10_readWord
def fX10_readWord_b132 (a56 : Mem → Int32 → Int32 → Option Mem) (M : Mem) (x1 : Int32) (x2 : Int32) : Option Mem :=
  pu (x2 + 1) fun vq8 =>
  a56 M x1 vq8

def fX10_readWord_b117 (a56 : Mem → Int32 → Int32 → Option Mem) (M : Mem) (x1 : Int32) (x2 : Int32) (x4 : Int32) : Option Mem :=
  if x4 = x1 then
    ldW (x2) fun oq9 =>
    ck (1000 ≤ oq9 ∧ oq9 < 1023) <|
    pu (sR M 27 6 oq9) fun Mq10 =>
    fX10_readWord_b132 a56 Mq10 x1 x2
  else
    fX10_readWord_b132 a56 M x1 x2

def fX10_readWord_l76 (a56 : Mem → Int32 → Int32 → Option Mem) : Nat → Mem → Int32 → Int32 → Nat → Int32 → Option Mem
  | 0, _, _, _, _, _ => none
  | n + 1, M, x1, x2, x3, x4 =>
    ck (1100 ≤ x3 ∧ x3 < 1123) <| if x4 < x1 then
      b1 (fJ0_length x3) fun vq11 =>
      if x1 = vq11 then
        b1 (fJ0_charAt x3 x4) fun vq12 =>
        pu (gI M 27 3) fun vq13 =>
        ldI M 1 700 (vq13 + x4) fun vq14 =>
        if vq12 = vq14 then
          pu (x4 + 1) fun vq15 =>
          fX10_readWord_l76 a56 n M x1 x2 x3 vq15
        else
          fX10_readWord_b117 a56 M x1 x2 x4
      else
        fX10_readWord_b117 a56 M x1 x2 x4
    else
      fX10_readWord_b117 a56 M x1 x2 x4

def fX10_readWord_l56 : Nat → Mem → Int32 → Int32 → Option Mem
  | 0, _, _, _ => none
  | n + 1, M, x1, x2 =>
    if x2 < 23 then
      ldW (x2) fun oq7 =>
      ck (1000 ≤ oq7 ∧ oq7 < 1023) <|
      fX10_readWord_l76 (fX10_readWord_l56 n) FU M x1 x2 ((oq7 + 100)) 0
    else
      some M

def fX10_readWord_b39 (M : Mem) : Option Mem :=
  pu (sI M 27 4 (1)) fun Mq3 =>
  pu (gI Mq3 27 2) fun vq4 =>
  pu (gI Mq3 27 3) fun vq5 =>
  pu (vq4 - vq5) fun vq6 =>
  fX10_readWord_l56 FU Mq3 vq6 0

def fX10_readWord_l0 : Nat → Mem → Option Mem
  | 0, _ => none
  | n + 1, M =>
    pu (gI M 27 2) fun vq1 =>
    pu (gI M 27 1) fun vq2 =>
    if vq1 < vq2 then
      pu (gI M 27 2) fun vq16 =>
      ldI M 1 700 (vq16) fun vq17 =>
      b1 (fX10_isLetter vq17) fun vq18 =>
      if vq18 = 0 then
        fX10_readWord_b39 M
      else
        pu (gI M 27 2) fun vq19 =>
        pu (sI M 27 2 (vq19 + 1)) fun Mq20 =>
        fX10_readWord_l0 n Mq20
    else
      fX10_readWord_b39 M

def fX10_readWord (M : Mem) : Option Mem :=
  fX10_readWord_l0 FU M

-- X10_isDigit
def fX10_isDigit (x0 : Int32) : Option Int32 :=
  if x0 < 48 then
    some (0)
  else
    if 57 < x0 then
      some (0)
    else
      some (1)

-- X10_readNumber
def fX10_readNumber_b76 (M : Mem) : Option Mem :=
  pu (sI M 27 4 (2)) fun Mq3 =>
  pu (gI Mq3 27 2) fun vq4 =>
  pu (gI Mq3 27 3) fun vq5 =>
  if 4 < vq4 - vq5 then
    pu (sI Mq3 27 5 (10000)) fun Mq6 =>
    some Mq6
  else
    some Mq3

def fX10_readNumber_b63 (a0 : Mem → Option Mem) (M : Mem) : Option Mem :=
  pu (gI M 27 2) fun vq12 =>
  pu (sI M 27 2 (vq12 + 1)) fun Mq13 =>
  a0 Mq13

def fX10_readNumber_l0 : Nat → Mem → Option Mem
  | 0, _ => none
  | n + 1, M =>
    pu (gI M 27 2) fun vq1 =>
    pu (gI M 27 1) fun vq2 =>
    if vq1 < vq2 then
      pu (gI M 27 2) fun vq7 =>
      ldI M 1 700 (vq7) fun vq8 =>
      b1 (fX10_isDigit vq8) fun vq9 =>
      if vq9 = 0 then
        fX10_readNumber_b76 M
      else
        pu (gI M 27 2) fun vq10 =>
        pu (gI M 27 3) fun vq11 =>
        if vq10 - vq11 < 4 then
          pu (gI M 27 5) fun vq14 =>
          pu (gI M 27 2) fun vq15 =>
          ldI M 1 700 (vq15) fun vq16 =>
          pu (sI M 27 5 (((vq14 * 10) + vq16) - 48)) fun Mq17 =>
          fX10_readNumber_b63 (fX10_readNumber_l0 n) Mq17
        else
          fX10_readNumber_b63 (fX10_readNumber_l0 n) M
    else
      fX10_readNumber_b76 M

def fX10_readNumber (M : Mem) : Option Mem :=
  fX10_readNumber_l0 FU M

-- X10_isSign
def fX10_isSign (x0 : Int32) : Option Int32 :=
  if x0 = 59 then
    some (1)
  else
    if x0 = 60 then
      some (1)
    else
      if x0 = 61 then
        some (1)
      else
        if x0 = 47 then
          some (1)
        else
          if x0 < 40 then
            some (0)
          else
            if 45 < x0 then
              some (0)
            else
              if x0 = 44 then
                some (0)
              else
                some (1)

-- X10_step
def fX10_step_b172 (M : Mem) (s0 : Int32) : Option Mem :=
  pu (sI M 27 4 (s0)) fun Mq20 =>
  pu (gI Mq20 27 2) fun vq21 =>
  pu (sI Mq20 27 2 (vq21 + 1)) fun Mq22 =>
  some Mq22

def fX10_step_b60 (M : Mem) : Option Mem :=
  pu (sR M 27 6 1022) fun Mq5 =>
  pu (sI Mq5 27 5 (0)) fun Mq6 =>
  pu (gI Mq6 27 3) fun vq7 =>
  pu (sI Mq6 27 2 (vq7)) fun Mq8 =>
  pu (gI Mq8 27 3) fun vq9 =>
  pu (gI Mq8 27 1) fun vq10 =>
  if vq9 < vq10 then
    pu (gI Mq8 27 3) fun vq11 =>
    ldI Mq8 1 700 (vq11) fun vq12 =>
    b1 (fX10_isLetter vq12) fun vq13 =>
    if vq13 = 0 then
      pu (gI Mq8 27 3) fun vq14 =>
      ldI Mq8 1 700 (vq14) fun vq15 =>
      b1 (fX10_isDigit vq15) fun vq16 =>
      if vq16 = 0 then
        pu (gI Mq8 27 3) fun vq17 =>
        ldI Mq8 1 700 (vq17) fun vq18 =>
        b1 (fX10_isSign vq18) fun vq19 =>
        if vq19 = 0 then
          fX10_step_b172 Mq8 3
        else
          pu (gI Mq8 27 3) fun vq23 =>
          ldI Mq8 1 700 (vq23) fun vq24 =>
          fX10_step_b172 Mq8 vq24
      else
        b1 (fX10_readNumber Mq8) fun Mq25 =>
        some Mq25
    else
      b1 (fX10_readWord Mq8) fun Mq26 =>
      some Mq26
  else
    pu (sI Mq8 27 4 (0)) fun Mq27 =>
    some Mq27

def fX10_step_b47 (a8 : Mem → Option Mem) (M : Mem) : Option Mem :=
  pu (gI M 27 3) fun vq30 =>
  pu (sI M 27 3 (vq30 + 1)) fun Mq31 =>
  a8 Mq31

def fX10_step_l8 : Nat → Mem → Option Mem
  | 0, _ => none
  | n + 1, M =>
    pu (gI M 27 3) fun vq3 =>
    pu (gI M 27 1) fun vq4 =>
    if vq3 < vq4 then
      pu (gI M 27 3) fun vq28 =>
      ldI M 1 700 (vq28) fun vq29 =>
      if vq29 = 32 then
        fX10_step_b47 (fX10_step_l8 n) M
      else
        pu (gI M 27 3) fun vq32 =>
        ldI M 1 700 (vq32) fun vq33 =>
        if vq33 = 10 then
          fX10_step_b47 (fX10_step_l8 n) M
        else
          fX10_step_b60 M
    else
      fX10_step_b60 M

def fX10_step (M : Mem) : Option Mem :=
  pu (gI M 27 2) fun vq1 =>
  pu (sI M 27 3 (vq1)) fun Mq2 =>
  fX10_step_l8 FU Mq2

-- X8_append
def fX8_append (M : Mem) (x0 : Nat) (x1 : Int32) : Option Mem :=
  ck (kd x0 = 7) <| pu (gI M x0 2) fun vq1 =>
  if vq1 < 700 then
    pu (gI M x0 2) fun vq2 =>
    stI M (rcT x0) 700 (vq2) (x1) fun Mq3 =>
    pu (gI Mq3 x0 2) fun vq4 =>
    pu (sI Mq3 x0 2 (vq4 + 1)) fun Mq5 =>
    some Mq5
  else
    some M

-- X6_part
def fX6_part_b155 (r : Mem → Int32 → Option (Int32 × Mem)) (M : Mem) (s0 : Int32) (s1 : Nat) : Option (Int32 × Mem) :=
  ck (kd s1 = 7) <| zz (s0) <|
  pu (sI M s1 3 (s0)) fun Mq22 =>
  b1 (fX10_step Mq22) fun Mq23 =>
  some (1, Mq23)

def fX6_part_b150 (r : Mem → Int32 → Option (Int32 × Mem)) (M : Mem) (s0 : Nat) : Option (Int32 × Mem) :=
  ck (kd s0 = 7) <| fX6_part_b155 r M 1 s0

def fX6_part_b101 (r : Mem → Int32 → Option (Int32 × Mem)) (M : Mem) (s0 : Int32) : Option (Int32 × Mem) :=
  if s0 = (-1) then
    b2 (fX6_refuse M 3) fun vq25 Mq26 =>
    zz (vq25) <|
    some (vq25, Mq26)
  else
    pu (gR M 3 7) fun oq17 =>
    ck (kd oq17 = 7) <|
    b1 (fX8_append M oq17 ((-1) - s0)) fun Mq18 =>
    pu (gR Mq18 3 7) fun oq19 =>
    ck (kd oq19 = 7) <|
    pu (gR Mq18 3 7) fun oq20 =>
    ck (kd oq20 = 7) <|
    pu (gI Mq18 oq20 3) fun vq21 =>
    if vq21 = 0 then
      pu (gR Mq18 27 6) fun oq24 =>
      ck (1000 ≤ oq24 ∧ oq24 < 1023) <|
      if oq24 = 1019 then
        fX6_part_b150 r Mq18 oq19
      else
        fX6_part_b155 r Mq18 0 oq19
    else
      fX6_part_b150 r Mq18 oq19

def fX6_part (r : Mem → Int32 → Option (Int32 × Mem)) (M : Mem) (x1 : Int32) : Option (Int32 × Mem) :=
  pu (gI M 27 4) fun vq1 =>
  if vq1 = 2 then
    pu (gI M 27 5) fun vq29 =>
    if vq29 = 10000 then
      b2 (fX6_refuse M 2) fun vq34 Mq35 =>
      zz (vq34) <|
      some (vq34, Mq35)
    else
      pu (gR M 3 7) fun oq30 =>
      ck (kd oq30 = 7) <|
      pu (gI M 27 5) fun vq31 =>
      b1 (fX8_append M oq30 vq31) fun Mq32 =>
      b1 (fX10_step Mq32) fun Mq33 =>
      some (1, Mq33)
  else
    pu (gI M 27 4) fun vq2 =>
    if vq2 = 1 then
      pu (gR M 3 7) fun oq13 =>
      ck (kd oq13 = 7) <|
      pu (gR M 3 1) fun oq14 =>
      ck (kd oq14 = 4) <|
      if oq13 = (oq14 + 15) then
        pu (gR M 27 6) fun oq27 =>
        ck (1000 ≤ oq27 ∧ oq27 < 1023) <|
        pu (wIS oq27) fun vq28 =>
        fX6_part_b101 r M vq28
      else
        pu (gR M 27 6) fun oq15 =>
        ck (1000 ≤ oq15 ∧ oq15 < 1023) <|
        pu (wIL oq15) fun vq16 =>
        fX6_part_b101 r M vq16
    else
      pu (gI M 27 4) fun vq3 =>
      if vq3 = 40 then
        b1 (fX10_step M) fun Mq4 =>
        b2 (r Mq4 (x1 + 1)) fun vq5 Mq6 =>
        if vq5 = 0 then
          some (0, Mq6)
        else
          pu (gI Mq6 27 4) fun vq7 =>
          if vq7 = 41 then
            b1 (fX10_step Mq6) fun Mq8 =>
            some (1, Mq8)
          else
            b2 (fX6_refuse Mq6 1) fun vq9 Mq10 =>
            zz (vq9) <|
            some (vq9, Mq10)
      else
        b2 (fX6_refuse M 1) fun vq11 Mq12 =>
        zz (vq11) <|
        some (vq11, Mq12)

-- X6_product
def fX6_product_b62 (r : Mem → Int32 → Option (Int32 × Mem)) (a12 : Mem → Int32 → Int32 → Option (Int32 × Mem)) (M : Mem) (x1 : Int32) (x2 : Int32) (s0 : Int32) : Option (Int32 × Mem) :=
  b1 (fX10_step M) fun Mq5 =>
  b2 (fX6_part r Mq5 x1) fun vq6 Mq7 =>
  if vq6 = 0 then
    some (0, Mq7)
  else
    pu (gR Mq7 3 7) fun oq8 =>
    ck (kd oq8 = 7) <|
    b1 (fX8_append Mq7 oq8 s0) fun Mq9 =>
    pu (x2 + 1) fun vq10 =>
    a12 Mq9 x1 vq10

def fX6_product_b43 (r : Mem → Int32 → Option (Int32 × Mem)) (a12 : Mem → Int32 → Int32 → Option (Int32 × Mem)) (M : Mem) (x1 : Int32) (x2 : Int32) : Option (Int32 × Mem) :=
  pu (gI M 27 4) fun vq4 =>
  if vq4 = 42 then
    fX6_product_b62 r a12 M x1 x2 (-14)
  else
    fX6_product_b62 r a12 M x1 x2 (-15)

def fX6_product_l12 (r : Mem → Int32 → Option (Int32 × Mem)) : Nat → Mem → Int32 → Int32 → Option (Int32 × Mem)
  | 0, _, _, _ => none
  | n + 1, M, x1, x2 =>
    if x2 < 700 then
      pu (gI M 27 4) fun vq3 =>
      if vq3 = 42 then
        fX6_product_b43 r (fX6_product_l12 r n) M x1 x2
      else
        pu (gI M 27 4) fun vq11 =>
        if vq11 = 47 then
          fX6_product_b43 r (fX6_product_l12 r n) M x1 x2
        else
          some (1, M)
    else
      some (1, M)

def fX6_product (r : Mem → Int32 → Option (Int32 × Mem)) (M : Mem) (x1 : Int32) : Option (Int32 × Mem) :=
  b2 (fX6_part r M x1) fun vq1 Mq2 =>
  if vq1 = 0 then
    some (0, Mq2)
  else
    fX6_product_l12 r FU Mq2 x1 0

-- X6_sum
def fX6_sum_b62 (r : Mem → Int32 → Option (Int32 × Mem)) (a12 : Mem → Int32 → Int32 → Option (Int32 × Mem)) (M : Mem) (x1 : Int32) (x2 : Int32) (s0 : Int32) : Option (Int32 × Mem) :=
  b1 (fX10_step M) fun Mq5 =>
  b2 (fX6_product r Mq5 x1) fun vq6 Mq7 =>
  if vq6 = 0 then
    some (0, Mq7)
  else
    pu (gR Mq7 3 7) fun oq8 =>
    ck (kd oq8 = 7) <|
    b1 (fX8_append Mq7 oq8 s0) fun Mq9 =>
    pu (x2 + 1) fun vq10 =>
    a12 Mq9 x1 vq10

def fX6_sum_b43 (r : Mem → Int32 → Option (Int32 × Mem)) (a12 : Mem → Int32 → Int32 → Option (Int32 × Mem)) (M : Mem) (x1 : Int32) (x2 : Int32) : Option (Int32 × Mem) :=
  pu (gI M 27 4) fun vq4 =>
  if vq4 = 43 then
    fX6_sum_b62 r a12 M x1 x2 (-12)
  else
    fX6_sum_b62 r a12 M x1 x2 (-13)

def fX6_sum_l12 (r : Mem → Int32 → Option (Int32 × Mem)) : Nat → Mem → Int32 → Int32 → Option (Int32 × Mem)
  | 0, _, _, _ => none
  | n + 1, M, x1, x2 =>
    if x2 < 700 then
      pu (gI M 27 4) fun vq3 =>
      if vq3 = 43 then
        fX6_sum_b43 r (fX6_sum_l12 r n) M x1 x2
      else
        pu (gI M 27 4) fun vq11 =>
        if vq11 = 45 then
          fX6_sum_b43 r (fX6_sum_l12 r n) M x1 x2
        else
          some (1, M)
    else
      some (1, M)

def fX6_sum (r : Mem → Int32 → Option (Int32 × Mem)) (M : Mem) (x1 : Int32) : Option (Int32 × Mem) :=
  b2 (fX6_product r M x1) fun vq1 Mq2 =>
  if vq1 = 0 then
    some (0, Mq2)
  else
    fX6_sum_l12 r FU Mq2 x1 0

-- X6_test
def fX6_test_b55 (r : Mem → Int32 → Option (Int32 × Mem)) (M : Mem) (x1 : Int32) (s0 : Int32) : Option (Int32 × Mem) :=
  b1 (fX10_step M) fun Mq5 =>
  b2 (fX6_sum r Mq5 x1) fun vq6 Mq7 =>
  if vq6 = 0 then
    some (0, Mq7)
  else
    pu (gR Mq7 3 7) fun oq8 =>
    ck (kd oq8 = 7) <|
    b1 (fX8_append Mq7 oq8 s0) fun Mq9 =>
    some (1, Mq9)

def fX6_test_b36 (r : Mem → Int32 → Option (Int32 × Mem)) (M : Mem) (x1 : Int32) : Option (Int32 × Mem) :=
  pu (gI M 27 4) fun vq4 =>
  if vq4 = 60 then
    fX6_test_b55 r M x1 (-10)
  else
    fX6_test_b55 r M x1 (-11)

def fX6_test (r : Mem → Int32 → Option (Int32 × Mem)) (M : Mem) (x1 : Int32) : Option (Int32 × Mem) :=
  b2 (fX6_sum r M x1) fun vq1 Mq2 =>
  if vq1 = 0 then
    some (0, Mq2)
  else
    pu (gI Mq2 27 4) fun vq3 =>
    if vq3 = 60 then
      fX6_test_b36 r Mq2 x1
    else
      pu (gI Mq2 27 4) fun vq10 =>
      if vq10 = 61 then
        fX6_test_b36 r Mq2 x1
      else
        some (1, Mq2)

-- X6_not
def fX6_not_l58 (r : Mem → Int32 → Option (Int32 × Mem)) : Nat → Mem → Int32 → Int32 → Option (Int32 × Mem)
  | 0, _, _, _ => none
  | n + 1, M, x2, x3 =>
    if x3 < x2 then
      pu (gR M 3 7) fun oq3 =>
      ck (kd oq3 = 7) <|
      b1 (fX8_append M oq3 (-7)) fun Mq4 =>
      pu (x3 + 1) fun vq5 =>
      fX6_not_l58 r n Mq4 x2 vq5
    else
      some (1, M)

def fX6_not_b46 (r : Mem → Int32 → Option (Int32 × Mem)) (M : Mem) (x1 : Int32) (x2 : Int32) : Option (Int32 × Mem) :=
  b2 (fX6_test r M x1) fun vq1 Mq2 =>
  if vq1 = 0 then
    some (0, Mq2)
  else
    fX6_not_l58 r FU Mq2 x2 0

def fX6_not_l2 (r : Mem → Int32 → Option (Int32 × Mem)) : Nat → Mem → Int32 → Int32 → Option (Int32 × Mem)
  | 0, _, _, _ => none
  | n + 1, M, x1, x2 =>
    if 6 < x2 then
      fX6_not_b46 r M x1 x2
    else
      pu (gR M 27 6) fun oq6 =>
      ck (1000 ≤ oq6 ∧ oq6 < 1023) <|
      if oq6 = 1013 then
        if x2 = 6 then
          b2 (fX6_refuse M 2) fun vq9 Mq10 =>
          zz (vq9) <|
          some (vq9, Mq10)
        else
          b1 (fX10_step M) fun Mq7 =>
          pu (x2 + 1) fun vq8 =>
          fX6_not_l2 r n Mq7 x1 vq8
      else
        fX6_not_b46 r M x1 x2

def fX6_not (r : Mem → Int32 → Option (Int32 × Mem)) (M : Mem) (x1 : Int32) : Option (Int32 × Mem) :=
  fX6_not_l2 r FU M x1 0

-- X6_and
def fX6_and_l12 (r : Mem → Int32 → Option (Int32 × Mem)) : Nat → Mem → Int32 → Int32 → Option (Int32 × Mem)
  | 0, _, _, _ => none
  | n + 1, M, x1, x2 =>
    if x2 < 700 then
      pu (gR M 27 6) fun oq3 =>
      ck (1000 ≤ oq3 ∧ oq3 < 1023) <|
      if oq3 = 1012 then
        b1 (fX10_step M) fun Mq4 =>
        b2 (fX6_not r Mq4 x1) fun vq5 Mq6 =>
        if vq5 = 0 then
          some (0, Mq6)
        else
          pu (gR Mq6 3 7) fun oq7 =>
          ck (kd oq7 = 7) <|
          b1 (fX8_append Mq6 oq7 (-9)) fun Mq8 =>
          pu (x2 + 1) fun vq9 =>
          fX6_and_l12 r n Mq8 x1 vq9
      else
        some (1, M)
    else
      some (1, M)

def fX6_and (r : Mem → Int32 → Option (Int32 × Mem)) (M : Mem) (x1 : Int32) : Option (Int32 × Mem) :=
  b2 (fX6_not r M x1) fun vq1 Mq2 =>
  if vq1 = 0 then
    some (0, Mq2)
  else
    fX6_and_l12 r FU Mq2 x1 0

-- X6_expr
def fX6_expr_l68 (r : Mem → Int32 → Option (Int32 × Mem)) : Nat → Mem → Int32 → Int32 → Option (Int32 × Mem)
  | 0, _, _, _ => none
  | n + 1, M, x1, x3 =>
    if x3 < 700 then
      pu (gR M 27 6) fun oq4 =>
      ck (1000 ≤ oq4 ∧ oq4 < 1023) <|
      if oq4 = 1011 then
        b1 (fX10_step M) fun Mq5 =>
        b2 (fX6_and r Mq5 x1) fun vq6 Mq7 =>
        if vq6 = 0 then
          some (0, Mq7)
        else
          pu (gR Mq7 3 7) fun oq8 =>
          ck (kd oq8 = 7) <|
          b1 (fX8_append Mq7 oq8 (-8)) fun Mq9 =>
          pu (x3 + 1) fun vq10 =>
          fX6_expr_l68 r n Mq9 x1 vq10
      else
        some (1, M)
    else
      some (1, M)

def fX6_expr_b56 (r : Mem → Int32 → Option (Int32 × Mem)) (M : Mem) (x1 : Int32) : Option (Int32 × Mem) :=
  b2 (fX6_and r M x1) fun vq2 Mq3 =>
  if vq2 = 0 then
    some (0, Mq3)
  else
    fX6_expr_l68 r FU Mq3 x1 0

def fX6_expr_b39 (r : Mem → Int32 → Option (Int32 × Mem)) (M : Mem) (x1 : Int32) (s0 : Int32) : Option (Int32 × Mem) :=
  if x1 < 6 then
    fX6_expr_b56 r M x1
  else
    if s0 = 0 then
      fX6_expr_b56 r M x1
    else
      b2 (fX6_refuse M 2) fun vq11 Mq12 =>
      zz (vq11) <|
      some (vq11, Mq12)

def fX6_expr_b34 (r : Mem → Int32 → Option (Int32 × Mem)) (M : Mem) (x1 : Int32) : Option (Int32 × Mem) :=
  fX6_expr_b39 r M x1 1

def fX6_expr_s (r : Mem → Int32 → Option (Int32 × Mem)) (M : Mem) (x1 : Int32) : Option (Int32 × Mem) :=
  pu (gI M 27 4) fun vq1 =>
  if vq1 = 2 then
    fX6_expr_b34 r M x1
  else
    pu (gI M 27 4) fun vq13 =>
    if vq13 = 1 then
      fX6_expr_b34 r M x1
    else
      pu (gI M 27 4) fun vq14 =>
      if vq14 = 40 then
        fX6_expr_b34 r M x1
      else
        fX6_expr_b39 r M x1 0

def fX6_expr : Nat → Mem → Int32 → Option (Int32 × Mem)
  | 0, _, _ => none
  | d + 1, M, x1 => fX6_expr_s (fX6_expr d) M x1

-- X7_harvestOf
def fX7_harvestOf (M : Mem) (x1 : Int32) : Option Int32 :=
  pu (gR M 28 0) fun oq1 =>
  ck (kd oq1 = 4) <|
  pu (gI M oq1 6) fun vq2 =>
  if vq2 = 0 then
    some (20)
  else
    if x1 < 0 then
      some (20)
    else
      pu (gR M 28 0) fun oq3 =>
      ck (kd oq3 = 4) <|
      pu (gR M 28 0) fun oq4 =>
      ck (kd oq4 = 4) <|
      pu (gI M oq4 6) fun vq5 =>
      nz (vq5) <|
      ldI M (oq3 + 6) 10 (x1 - x1 / vq5 * vq5) fun vq6 =>
      some (vq6)

-- X7_reap
def fX7_reap (M : Mem) (x1 : Nat) (x2 : Int32) : Option Mem :=
  ck (kd x1 = 2) <| pu (gI M x1 0) fun vq1 =>
  pu (if vq1 + x2 < 999 then vq1 + x2 else 999) fun vq2 =>
  pu (sI M x1 0 (vq2)) fun Mq3 =>
  pu (gI Mq3 x1 2) fun vq4 =>
  pu (gI Mq3 x1 2) fun vq5 =>
  pu (if vq4 + (vq5 / 10) < 999 then vq4 + (vq5 / 10) else 999) fun vq6 =>
  pu (sI Mq3 x1 2 (vq6)) fun Mq7 =>
  some Mq7

-- X3_become
def fX3_become (M : Mem) (x0 : Nat) (x1 : Nat) : Option Mem :=
  ck (kd x0 = 2) <| ck (kd x1 = 2) <| pu (gI M x1 0) fun vq1 =>
  pu (sI M x0 0 (vq1)) fun Mq2 =>
  pu (gI Mq2 x1 1) fun vq3 =>
  pu (sI Mq2 x0 1 (vq3)) fun Mq4 =>
  pu (gI Mq4 x1 2) fun vq5 =>
  pu (sI Mq4 x0 2 (vq5)) fun Mq6 =>
  pu (gI Mq6 x1 3) fun vq7 =>
  pu (sI Mq6 x0 3 (vq7)) fun Mq8 =>
  pu (gI Mq8 x1 4) fun vq9 =>
  pu (sI Mq8 x0 4 (vq9)) fun Mq10 =>
  pu (gI Mq10 x1 5) fun vq11 =>
  pu (sI Mq10 x0 5 (vq11)) fun Mq12 =>
  pu (gI Mq12 x1 6) fun vq13 =>
  pu (sI Mq12 x0 6 (vq13)) fun Mq14 =>
  pu (gI Mq14 x1 7) fun vq15 =>
  pu (sI Mq14 x0 7 (vq15)) fun Mq16 =>
  pu (gI Mq16 x1 8) fun vq17 =>
  pu (sI Mq16 x0 8 (vq17)) fun Mq18 =>
  cpI Mq18 (x1 + 1) 2 (0) (x0 + 1) 2 (0) (2) fun Mq19 =>
  cpI Mq19 (x1 + 2) 2 (0) (x0 + 2) 2 (0) (2) fun Mq20 =>
  cpI Mq20 (x1 + 3) 12 (0) (x0 + 3) 12 (0) (12) fun Mq21 =>
  cpI Mq21 (x1 + 4) 6 (0) (x0 + 4) 6 (0) (6) fun Mq22 =>
  some Mq22

-- X7_perform
def fX7_perform (M : Mem) (x1 : Nat) (x2 : Int32) : Option (Int32 × Mem) :=
  ck (kd x1 = 2) <| if x2 < 0 then
    some (0, M)
  else
    pu (gR M 28 0) fun oq1 =>
    ck (kd oq1 = 4) <|
    pu (gI M oq1 0) fun vq2 =>
    if x2 < vq2 then
      pu (gR M 28 0) fun oq3 =>
      ck (kd oq3 = 4) <|
      ldI M (oq3 + 1) 7 (x2) fun vq4 =>
      pu (gI M x1 0) fun vq5 =>
      if vq5 < vq4 then
        pu (gI M x1 6) fun vq27 =>
        pu (sI M x1 6 (vq27 + 1)) fun Mq28 =>
        some (0, Mq28)
      else
        pu (gI M x1 0) fun vq6 =>
        pu (gR M 28 0) fun oq7 =>
        ck (kd oq7 = 4) <|
        ldI M (oq7 + 1) 7 (x2) fun vq8 =>
        pu (sI M x1 0 (vq6 - vq8)) fun Mq9 =>
        pu (gI Mq9 x1 1) fun vq10 =>
        pu (gR Mq9 28 0) fun oq11 =>
        ck (kd oq11 = 4) <|
        ldI Mq9 (oq11 + 2) 7 (x2) fun vq12 =>
        pu (if vq10 + vq12 < 99 then vq10 + vq12 else 99) fun vq13 =>
        pu (if 0 < vq13 then vq13 else 0) fun vq14 =>
        pu (sI Mq9 x1 1 (vq14)) fun Mq15 =>
        pu (gI Mq15 x1 2) fun vq16 =>
        pu (gR Mq15 28 0) fun oq17 =>
        ck (kd oq17 = 4) <|
        ldI Mq15 (oq17 + 3) 7 (x2) fun vq18 =>
        pu (if vq16 + vq18 < 999 then vq16 + vq18 else 999) fun vq19 =>
        pu (if 0 < vq19 then vq19 else 0) fun vq20 =>
        pu (sI Mq15 x1 2 (vq20)) fun Mq21 =>
        pu (gI Mq21 x1 4) fun vq22 =>
        ldI Mq21 (x1 + 2) 2 (vq22) fun vq23 =>
        pu (gR Mq21 28 0) fun oq24 =>
        ck (kd oq24 = 4) <|
        ldI Mq21 (oq24 + 4) 7 (x2) fun vq25 =>
        stI Mq21 (x1 + 2) 2 (vq22) (vq23 + vq25) fun Mq26 =>
        some (1, Mq26)
    else
      some (0, M)

-- X7_age
def fX7_age (M : Mem) (x1 : Nat) : Option Mem :=
  ck (kd x1 = 2) <| pu (gI M x1 3) fun vq1 =>
  pu (sI M x1 3 (vq1 + 1)) fun Mq2 =>
  pu (gI Mq2 x1 4) fun vq3 =>
  ldI Mq2 (x1 + 1) 2 (vq3) fun vq4 =>
  stI Mq2 (x1 + 1) 2 (vq3) (vq4 + 1) fun Mq5 =>
  pu (gI Mq5 x1 5) fun vq6 =>
  pu (sI Mq5 x1 5 (vq6 + 1)) fun Mq7 =>
  some Mq7

-- X8_isTold
def fX8_isTold (M : Mem) (x0 : Nat) : Option Int32 :=
  ck (kd x0 = 7) <| pu (gI M x0 2) fun vq1 =>
  pu (gI M x0 1) fun vq2 =>
  if vq2 < vq1 then
    some (1)
  else
    some (0)

-- X8_evaluate
def fX8_evaluate_b299 (a8 : Mem → Nat → Nat → Nat → Int32 → Int32 → Option (Int32 × Mem)) (M : Mem) (x0 : Nat) (x1 : Nat) (x2 : Nat) (x3 : Int32) (x4 : Int32) : Option (Int32 × Mem) :=
  ck (kd x0 = 7) <| ck (kd x1 = 20) <| ck (kd x2 = 20) <| pu (x4 + 1) fun vq10 =>
  a8 M x0 x1 x2 x3 vq10

def fX8_evaluate_b292 (a8 : Mem → Nat → Nat → Nat → Int32 → Int32 → Option (Int32 × Mem)) (M : Mem) (x0 : Nat) (x1 : Nat) (x2 : Nat) (x3 : Int32) (x4 : Int32) (x8 : Int32) : Option (Int32 × Mem) :=
  ck (kd x0 = 7) <| ck (kd x1 = 20) <| ck (kd x2 = 20) <| stI M x2 (ln x2) (x3 - 1) (x8) fun Mq9 =>
  fX8_evaluate_b299 a8 Mq9 x0 x1 x2 x3 x4

def fX8_evaluate_b241 (a8 : Mem → Nat → Nat → Nat → Int32 → Int32 → Option (Int32 × Mem)) (M : Mem) (x0 : Nat) (x1 : Nat) (x2 : Nat) (x3 : Int32) (x4 : Int32) (s0 : Int32) : Option (Int32 × Mem) :=
  ck (kd x0 = 7) <| ck (kd x1 = 20) <| ck (kd x2 = 20) <| fX8_evaluate_b292 a8 M x0 x1 x2 x3 x4 s0

def fX8_evaluate_b224 (a8 : Mem → Nat → Nat → Nat → Int32 → Int32 → Option (Int32 × Mem)) (M : Mem) (x0 : Nat) (x1 : Nat) (x2 : Nat) (x3 : Int32) (x4 : Int32) (s0 : Int32) : Option (Int32 × Mem) :=
  ck (kd x0 = 7) <| ck (kd x1 = 20) <| ck (kd x2 = 20) <| fX8_evaluate_b292 a8 M x0 x1 x2 x3 x4 s0

def fX8_evaluate_b207 (a8 : Mem → Nat → Nat → Nat → Int32 → Int32 → Option (Int32 × Mem)) (M : Mem) (x0 : Nat) (x1 : Nat) (x2 : Nat) (x3 : Int32) (x4 : Int32) (s0 : Int32) : Option (Int32 × Mem) :=
  ck (kd x0 = 7) <| ck (kd x1 = 20) <| ck (kd x2 = 20) <| fX8_evaluate_b292 a8 M x0 x1 x2 x3 x4 s0

def fX8_evaluate_b206 (a8 : Mem → Nat → Nat → Nat → Int32 → Int32 → Option (Int32 × Mem)) (M : Mem) (x0 : Nat) (x1 : Nat) (x2 : Nat) (x3 : Int32) (x4 : Int32) : Option (Int32 × Mem) :=
  ck (kd x0 = 7) <| ck (kd x1 = 20) <| ck (kd x2 = 20) <| fX8_evaluate_b207 a8 M x0 x1 x2 x3 x4 0

def fX8_evaluate_b187 (a8 : Mem → Nat → Nat → Nat → Int32 → Int32 → Option (Int32 × Mem)) (M : Mem) (x0 : Nat) (x1 : Nat) (x2 : Nat) (x3 : Int32) (x4 : Int32) (s0 : Int32) : Option (Int32 × Mem) :=
  ck (kd x0 = 7) <| ck (kd x1 = 20) <| ck (kd x2 = 20) <| fX8_evaluate_b292 a8 M x0 x1 x2 x3 x4 s0

def fX8_evaluate_b182 (a8 : Mem → Nat → Nat → Nat → Int32 → Int32 → Option (Int32 × Mem)) (M : Mem) (x0 : Nat) (x1 : Nat) (x2 : Nat) (x3 : Int32) (x4 : Int32) : Option (Int32 × Mem) :=
  ck (kd x0 = 7) <| ck (kd x1 = 20) <| ck (kd x2 = 20) <| fX8_evaluate_b187 a8 M x0 x1 x2 x3 x4 1

def fX8_evaluate_b290 (a8 : Mem → Nat → Nat → Nat → Int32 → Int32 → Option (Int32 × Mem)) (M : Mem) (x0 : Nat) (x1 : Nat) (x2 : Nat) (x3 : Int32) (x4 : Int32) (s0 : Int32) : Option (Int32 × Mem) :=
  ck (kd x0 = 7) <| ck (kd x1 = 20) <| ck (kd x2 = 20) <| fX8_evaluate_b292 a8 M x0 x1 x2 x3 x4 s0

def fX8_evaluate_b97 (a8 : Mem → Nat → Nat → Nat → Int32 → Int32 → Option (Int32 × Mem)) (M : Mem) (x0 : Nat) (x1 : Nat) (x2 : Nat) (x3 : Int32) (x4 : Int32) (s0 : Int32) (s1 : Int32) (s2 : Nat) : Option (Int32 × Mem) :=
  ck (kd x0 = 7) <| ck (kd x1 = 20) <| ck (kd x2 = 20) <| ck (kd s2 = 20) <| stI M s2 (ln s2) (s1) (s0) fun Mq14 =>
  fX8_evaluate_b299 a8 Mq14 x0 x1 x2 x3 x4

def fX8_evaluate_b59 (a8 : Mem → Nat → Nat → Nat → Int32 → Int32 → Option (Int32 × Mem)) (M : Mem) (x0 : Nat) (x1 : Nat) (x2 : Nat) (x3 : Int32) (x4 : Int32) (s0 : Int32) (s1 : Int32) (s2 : Nat) : Option (Int32 × Mem) :=
  ck (kd x0 = 7) <| ck (kd x1 = 20) <| ck (kd x2 = 20) <| ck (kd s2 = 20) <| stI M s2 (ln s2) (s1) (s0) fun Mq16 =>
  pu (x3 + 1) fun vq17 =>
  fX8_evaluate_b299 a8 Mq16 x0 x1 x2 vq17 x4

def fX8_evaluate_l8 : Nat → Mem → Nat → Nat → Nat → Int32 → Int32 → Option (Int32 × Mem)
  | 0, _, _, _, _, _, _ => none
  | n + 1, M, x0, x1, x2, x3, x4 =>
    ck (kd x0 = 7) <| ck (kd x1 = 20) <| ck (kd x2 = 20) <| pu (gI M x0 2) fun vq2 =>
    if x4 < vq2 then
      ldI M (rcT x0) 700 (x4) fun vq4 =>
      if vq4 < (-6) then
        if vq4 = (-7) then
          if x3 < 1 then
            some (0, M)
          else
            ldI M x2 (ln x2) (x3 - 1) fun vq13 =>
            if vq13 = 0 then
              fX8_evaluate_b97 (fX8_evaluate_l8 n) M x0 x1 x2 x3 x4 1 (x3 - 1) x2
            else
              fX8_evaluate_b97 (fX8_evaluate_l8 n) M x0 x1 x2 x3 x4 0 (x3 - 1) x2
        else
          if x3 < 2 then
            some (0, M)
          else
            pu (x3 + (-1)) fun vq5 =>
            ldI M x2 (ln x2) (vq5 - 1) fun vq6 =>
            ldI M x2 (ln x2) (vq5) fun vq7 =>
            if vq4 = (-14) then
              pu (vq6 * vq7) fun vq8 =>
              fX8_evaluate_b292 (fX8_evaluate_l8 n) M x0 x1 x2 vq5 x4 vq8
            else if vq4 = (-13) then
              pu (vq6 - vq7) fun vq11 =>
              fX8_evaluate_b292 (fX8_evaluate_l8 n) M x0 x1 x2 vq5 x4 vq11
            else if vq4 = (-12) then
              pu (vq6 + vq7) fun vq12 =>
              fX8_evaluate_b292 (fX8_evaluate_l8 n) M x0 x1 x2 vq5 x4 vq12
            else if vq4 = (-11) then
              if vq6 = vq7 then
                fX8_evaluate_b241 (fX8_evaluate_l8 n) M x0 x1 x2 vq5 x4 1
              else
                fX8_evaluate_b241 (fX8_evaluate_l8 n) M x0 x1 x2 vq5 x4 0
            else if vq4 = (-10) then
              if vq6 < vq7 then
                fX8_evaluate_b224 (fX8_evaluate_l8 n) M x0 x1 x2 vq5 x4 1
              else
                fX8_evaluate_b224 (fX8_evaluate_l8 n) M x0 x1 x2 vq5 x4 0
            else if vq4 = (-9) then
              if vq6 = 0 then
                fX8_evaluate_b206 (fX8_evaluate_l8 n) M x0 x1 x2 vq5 x4
              else
                if vq7 = 0 then
                  fX8_evaluate_b206 (fX8_evaluate_l8 n) M x0 x1 x2 vq5 x4
                else
                  fX8_evaluate_b207 (fX8_evaluate_l8 n) M x0 x1 x2 vq5 x4 1
            else if vq4 = (-8) then
              if vq6 = 0 then
                if vq7 = 0 then
                  fX8_evaluate_b187 (fX8_evaluate_l8 n) M x0 x1 x2 vq5 x4 0
                else
                  fX8_evaluate_b182 (fX8_evaluate_l8 n) M x0 x1 x2 vq5 x4
              else
                fX8_evaluate_b182 (fX8_evaluate_l8 n) M x0 x1 x2 vq5 x4
            else 
              if vq7 = 0 then
                fX8_evaluate_b290 (fX8_evaluate_l8 n) M x0 x1 x2 vq5 x4 0
              else
                nz (vq7) <|
                fX8_evaluate_b290 (fX8_evaluate_l8 n) M x0 x1 x2 vq5 x4 (vq6 / vq7)
      else
        if x3 < Int32.ofNat (ln x2) then
          if vq4 < 0 then
            ldI M x1 (ln x1) ((-1) - vq4) fun vq15 =>
            fX8_evaluate_b59 (fX8_evaluate_l8 n) M x0 x1 x2 x3 x4 vq15 x3 x2
          else
            fX8_evaluate_b59 (fX8_evaluate_l8 n) M x0 x1 x2 x3 x4 vq4 x3 x2
        else
          some (0, M)
    else
      if 0 < x3 then
        ldI M x2 (ln x2) (0) fun vq3 =>
        some (vq3, M)
      else
        some (0, M)

def fX8_evaluate (M : Mem) (x0 : Nat) (x1 : Nat) (x2 : Nat) : Option (Int32 × Mem) :=
  ck (kd x0 = 7) <| ck (kd x1 = 20) <| ck (kd x2 = 20) <| pu (gI M x0 1) fun vq1 =>
  fX8_evaluate_l8 FU M x0 x1 x2 0 vq1

-- X7_liking
def fX7_liking_b56 (M : Mem) (x1 : Nat) (s0 : Int32) (s1 : Int32) : Option (Int32 × Mem) :=
  ck (kd x1 = 2) <| stI M 47 6 (s1) (s0) fun Mq6 =>
  pu (gI Mq6 x1 0) fun vq7 =>
  stI Mq6 47 6 (3) (vq7) fun Mq8 =>
  pu (gI Mq8 x1 2) fun vq9 =>
  stI Mq8 47 6 (4) (vq9) fun Mq10 =>
  pu (gR Mq10 28 0) fun oq11 =>
  ck (kd oq11 = 4) <|
  b2 (fX8_evaluate Mq10 (oq11 + 16) 47 48) fun vq12 Mq13 =>
  some (vq12, Mq13)

def fX7_liking_b30 (M : Mem) (x1 : Nat) (x2 : Int32) (x3 : Int32) (s0 : Int32) (s1 : Int32) : Option (Int32 × Mem) :=
  ck (kd x1 = 2) <| stI M 47 6 (s1) (s0) fun Mq4 =>
  if x3 = 0 then
    ldI Mq4 (x1 + 4) 6 (x2) fun vq14 =>
    fX7_liking_b56 Mq4 x1 (-vq14) 2
  else
    ldI Mq4 (x1 + 4) 6 (x2) fun vq5 =>
    fX7_liking_b56 Mq4 x1 vq5 2

def fX7_liking (M : Mem) (x1 : Nat) (x2 : Int32) (x3 : Int32) : Option (Int32 × Mem) :=
  ck (kd x1 = 2) <| ldI M (x1 + 2) 2 (x3) fun vq1 =>
  stI M 47 6 (0) (vq1) fun Mq2 =>
  pu (gI Mq2 x1 4) fun vq3 =>
  if vq3 = x3 then
    fX7_liking_b30 Mq2 x1 x2 x3 1 1
  else
    fX7_liking_b30 Mq2 x1 x2 x3 0 1

-- X7_followers
def fX7_followers_b96 (a5 : Mem → Nat → Int32 → Int32 → Int32 → Option (Int32 × Mem)) (M : Mem) (x1 : Nat) (x2 : Int32) (x3 : Int32) (x4 : Int32) : Option (Int32 × Mem) :=
  ck (kd x1 = 2) <| pu (x4 + 1) fun vq6 =>
  a5 M x1 x2 x3 vq6

def fX7_followers_b86 (a5 : Mem → Nat → Int32 → Int32 → Int32 → Option (Int32 × Mem)) (M : Mem) (x1 : Nat) (x2 : Int32) (x3 : Int32) (x4 : Int32) (s0 : Int32) (s1 : Int32) : Option (Int32 × Mem) :=
  ck (kd x1 = 2) <| if s1 = s0 then
    pu (x3 ||| ((1 : Int32) <<< (x4 &&& 31 : Int32))) fun vq7 =>
    fX7_followers_b96 a5 M x1 x2 vq7 x4
  else
    fX7_followers_b96 a5 M x1 x2 x3 x4

def fX7_followers_b72 (a5 : Mem → Nat → Int32 → Int32 → Int32 → Option (Int32 × Mem)) (M : Mem) (x1 : Nat) (x2 : Int32) (x3 : Int32) (x4 : Int32) (s0 : Int32) : Option (Int32 × Mem) :=
  ck (kd x1 = 2) <| if x2 = 1 then
    fX7_followers_b86 a5 M x1 x2 x3 x4 1 s0
  else
    fX7_followers_b86 a5 M x1 x2 x3 x4 0 s0

def fX7_followers_l5 : Nat → Mem → Nat → Int32 → Int32 → Int32 → Option (Int32 × Mem)
  | 0, _, _, _, _, _ => none
  | n + 1, M, x1, x2, x3, x4 =>
    ck (kd x1 = 2) <| pu (gR M 28 0) fun oq1 =>
    ck (kd oq1 = 4) <|
    pu (gI M oq1 8) fun vq2 =>
    if x4 < vq2 then
      pu (gR M 28 0) fun oq3 =>
      ck (kd oq3 = 4) <|
      b1 (fX8_isTold M (oq3 + 16)) fun vq4 =>
      if vq4 = 0 then
        ldI M (x1 + 4) 6 (x4) fun vq5 =>
        if 0 < vq5 then
          fX7_followers_b72 (fX7_followers_l5 n) M x1 x2 x3 x4 1
        else
          fX7_followers_b72 (fX7_followers_l5 n) M x1 x2 x3 x4 0
      else
        b2 (fX7_liking M x1 x4 1) fun vq8 Mq9 =>
        b2 (fX7_liking Mq9 x1 x4 0) fun vq10 Mq11 =>
        if vq10 < vq8 then
          fX7_followers_b72 (fX7_followers_l5 n) Mq11 x1 x2 x3 x4 1
        else
          fX7_followers_b72 (fX7_followers_l5 n) Mq11 x1 x2 x3 x4 0
    else
      some (x3, M)

def fX7_followers (M : Mem) (x1 : Nat) (x2 : Int32) : Option (Int32 × Mem) :=
  ck (kd x1 = 2) <| fX7_followers_l5 FU M x1 x2 0 0

-- X7_menOf
def fX7_menOf_b35 (a4 : Mem → Int32 → Int32 → Int32 → Option Int32) (M : Mem) (x1 : Int32) (x2 : Int32) (x3 : Int32) : Option Int32 :=
  pu (x3 + 1) fun vq3 =>
  a4 M x1 x2 vq3

def fX7_menOf_l4 : Nat → Mem → Int32 → Int32 → Int32 → Option Int32
  | 0, _, _, _, _ => none
  | n + 1, M, x1, x2, x3 =>
    pu (gR M 28 0) fun oq1 =>
    ck (kd oq1 = 4) <|
    pu (gI M oq1 8) fun vq2 =>
    if x3 < vq2 then
      if ((x1 : Int32) >>> (x3 &&& 31 : Int32)) &&& 1 = 0 then
        fX7_menOf_b35 (fX7_menOf_l4 n) M x1 x2 x3
      else
        pu (gR M 28 0) fun oq4 =>
        ck (kd oq4 = 4) <|
        ldI M (oq4 + 7) 6 (x3) fun vq5 =>
        pu (x2 + vq5) fun vq6 =>
        fX7_menOf_b35 (fX7_menOf_l4 n) M x1 vq6 x3
    else
      some (x2)

def fX7_menOf (M : Mem) (x1 : Int32) : Option Int32 :=
  fX7_menOf_l4 FU M x1 0 0

-- X3_handOver
def fX3_handOver (M : Mem) (x0 : Nat) : Option Mem :=
  ck (kd x0 = 2) <| pu (gI M x0 4) fun vq1 =>
  pu (sI M x0 4 (1 - vq1)) fun Mq2 =>
  pu (sI Mq2 x0 5 (0)) fun Mq3 =>
  some Mq3

-- X7_turn
def fX7_turn_b148 (M : Mem) (x1 : Nat) : Option Mem :=
  ck (kd x1 = 2) <| b1 (fX3_handOver M x1) fun Mq5 =>
  some Mq5

def fX7_turn_b115 (M : Mem) (x1 : Nat) (s0 : Int32) (s1 : Int32) : Option Mem :=
  ck (kd x1 = 2) <| stI M 46 6 (s1) (s0) fun Mq19 =>
  pu (gR Mq19 28 0) fun oq20 =>
  ck (kd oq20 = 4) <|
  b2 (fX8_evaluate Mq19 (oq20 + 15) 46 48) fun vq21 Mq22 =>
  if 0 < vq21 then
    pu (gI Mq22 x1 7) fun vq23 =>
    pu (sI Mq22 x1 7 (vq23 + 1)) fun Mq24 =>
    some Mq24
  else
    fX7_turn_b148 Mq22 x1

def fX7_turn (M : Mem) (x1 : Nat) : Option Mem :=
  ck (kd x1 = 2) <| pu (gI M x1 5) fun vq1 =>
  pu (gI M x1 8) fun vq2 =>
  if vq1 < vq2 then
    some M
  else
    pu (gR M 28 0) fun oq3 =>
    ck (kd oq3 = 4) <|
    b1 (fX8_isTold M (oq3 + 15)) fun vq4 =>
    if vq4 = 0 then
      fX7_turn_b148 M x1
    else
      pu (gI M x1 0) fun vq6 =>
      stI M 46 6 (0) (vq6) fun Mq7 =>
      pu (gI Mq7 x1 1) fun vq8 =>
      stI Mq7 46 6 (1) (vq8) fun Mq9 =>
      pu (gI Mq9 x1 2) fun vq10 =>
      stI Mq9 46 6 (2) (vq10) fun Mq11 =>
      pu (gI Mq11 x1 4) fun vq12 =>
      ldI Mq11 (x1 + 2) 2 (vq12) fun vq13 =>
      stI Mq11 46 6 (3) (vq13) fun Mq14 =>
      pu (gI Mq14 x1 3) fun vq15 =>
      stI Mq14 46 6 (4) (vq15) fun Mq16 =>
      pu (gR Mq16 28 0) fun oq17 =>
      ck (kd oq17 = 4) <|
      pu (gI Mq16 (oq17 + 15) 3) fun vq18 =>
      if vq18 = 0 then
        fX7_turn_b115 Mq16 x1 0 5
      else
        pu (gI Mq16 x1 4) fun vq25 =>
        b2 (fX7_followers Mq16 x1 vq25) fun vq26 Mq27 =>
        b1 (fX7_menOf Mq27 vq26) fun vq28 =>
        fX7_turn_b115 Mq27 x1 vq28 5

-- X2_gainBehind
def fX2_gainBehind_b89 (r : Mem → Int32 → Int32 → Option (Int32 × Mem)) (M : Mem) (x1 : Int32) (x3 : Int32) (s0 : Int32) : Option (Int32 × Mem) :=
  b2 (r M (x1 + 1) (x3 - 1)) fun vq11 Mq12 =>
  if s0 = 0 then
    some (-vq11, Mq12)
  else
    some (vq11, Mq12)

def fX2_gainBehind (r : Mem → Int32 → Int32 → Option (Int32 × Mem)) (M : Mem) (x1 : Int32) (x2 : Int32) (x3 : Int32) : Option (Int32 × Mem) :=
  if x1 + 1 < 4 then
    ldN (x1 + 1) fun oq1 =>
    ck (kd oq1 = 2) <|
    ldN (x1) fun oq2 =>
    ck (kd oq2 = 2) <|
    pu (gI M oq2 4) fun vq3 =>
    ldN (x1) fun oq4 =>
    ck (kd oq4 = 2) <|
    b1 (fX3_become M oq1 oq4) fun Mq5 =>
    b2 (fX7_perform Mq5 oq1 x2) fun vq6 Mq7 =>
    b1 (fX7_age Mq7 oq1) fun Mq8 =>
    b1 (fX7_turn Mq8 oq1) fun Mq9 =>
    pu (gI Mq9 oq1 4) fun vq10 =>
    if vq10 = vq3 then
      fX2_gainBehind_b89 r Mq9 x1 x3 1
    else
      fX2_gainBehind_b89 r Mq9 x1 x3 0
  else
    some (0, M)

-- X2_bestGain
def fX2_bestGain_b171 (r : Mem → Int32 → Int32 → Option (Int32 × Mem)) (a58 : Mem → Int32 → Int32 → Nat → Nat → Int32 → Int32 → Int32 → Int32 → Option (Int32 × Mem)) (M : Mem) (x1 : Int32) (x2 : Int32) (x3 : Nat) (x4 : Nat) (x5 : Int32) (x6 : Int32) (x7 : Int32) (x8 : Int32) : Option (Int32 × Mem) :=
  ck (kd x3 = 2) <| ck (kd x4 = 4) <| pu (x8 + 1) fun vq10 =>
  a58 M x1 x2 x3 x4 x5 x6 x7 vq10

def fX2_bestGain_b160 (r : Mem → Int32 → Int32 → Option (Int32 × Mem)) (a58 : Mem → Int32 → Int32 → Nat → Nat → Int32 → Int32 → Int32 → Int32 → Option (Int32 × Mem)) (M : Mem) (x1 : Int32) (x2 : Int32) (x3 : Nat) (x4 : Nat) (x8 : Int32) (x9 : Int32) (x10 : Int32) : Option (Int32 × Mem) :=
  ck (kd x3 = 2) <| ck (kd x4 = 4) <| fX2_bestGain_b171 r a58 M x1 x2 x3 x4 x10 x9 1 x8

def fX2_bestGain_b148 (r : Mem → Int32 → Int32 → Option (Int32 × Mem)) (a58 : Mem → Int32 → Int32 → Nat → Nat → Int32 → Int32 → Int32 → Int32 → Option (Int32 × Mem)) (M : Mem) (x1 : Int32) (x2 : Int32) (x3 : Nat) (x4 : Nat) (x5 : Int32) (x6 : Int32) (x7 : Int32) (x8 : Int32) (x9 : Int32) (x10 : Int32) : Option (Int32 × Mem) :=
  ck (kd x3 = 2) <| ck (kd x4 = 4) <| if x7 = 0 then
    fX2_bestGain_b160 r a58 M x1 x2 x3 x4 x8 x9 x10
  else
    if x5 < x10 then
      fX2_bestGain_b160 r a58 M x1 x2 x3 x4 x8 x9 x10
    else
      fX2_bestGain_b171 r a58 M x1 x2 x3 x4 x5 x6 x7 x8

def fX2_bestGain_b128 (r : Mem → Int32 → Int32 → Option (Int32 × Mem)) (a58 : Mem → Int32 → Int32 → Nat → Nat → Int32 → Int32 → Int32 → Int32 → Option (Int32 × Mem)) (M : Mem) (x1 : Int32) (x2 : Int32) (x3 : Nat) (x4 : Nat) (x5 : Int32) (x6 : Int32) (x7 : Int32) (x8 : Int32) (x9 : Int32) (s0 : Int32) : Option (Int32 × Mem) :=
  ck (kd x3 = 2) <| ck (kd x4 = 4) <| if 1 < x2 then
    b2 (fX2_gainBehind r M x1 x9 x2) fun vq11 Mq12 =>
    pu (s0 + vq11) fun vq13 =>
    fX2_bestGain_b148 r a58 Mq12 x1 x2 x3 x4 x5 x6 x7 x8 x9 vq13
  else
    fX2_bestGain_b148 r a58 M x1 x2 x3 x4 x5 x6 x7 x8 x9 s0

def fX2_bestGain_b110 (r : Mem → Int32 → Int32 → Option (Int32 × Mem)) (a58 : Mem → Int32 → Int32 → Nat → Nat → Int32 → Int32 → Int32 → Int32 → Option (Int32 × Mem)) (M : Mem) (x1 : Int32) (x2 : Int32) (x3 : Nat) (x4 : Nat) (x5 : Int32) (x6 : Int32) (x7 : Int32) (x8 : Int32) (x9 : Int32) : Option (Int32 × Mem) :=
  ck (kd x3 = 2) <| ck (kd x4 = 4) <| if x9 = (-1) then
    fX2_bestGain_b128 r a58 M x1 x2 x3 x4 x5 x6 x7 x8 x9 0
  else
    ldI M (x4 + 4) 7 (x9) fun vq9 =>
    fX2_bestGain_b128 r a58 M x1 x2 x3 x4 x5 x6 x7 x8 x9 vq9

def fX2_bestGain_b84 (r : Mem → Int32 → Int32 → Option (Int32 × Mem)) (a58 : Mem → Int32 → Int32 → Nat → Nat → Int32 → Int32 → Int32 → Int32 → Option (Int32 × Mem)) (M : Mem) (x1 : Int32) (x2 : Int32) (x3 : Nat) (x4 : Nat) (x5 : Int32) (x6 : Int32) (x7 : Int32) (x8 : Int32) (s0 : Int32) : Option (Int32 × Mem) :=
  ck (kd x3 = 2) <| ck (kd x4 = 4) <| if s0 = (-1) then
    fX2_bestGain_b110 r a58 M x1 x2 x3 x4 x5 x6 x7 x8 s0
  else
    ldI M (x4 + 1) 7 (s0) fun vq14 =>
    pu (gI M x3 0) fun vq15 =>
    if vq15 < vq14 then
      fX2_bestGain_b171 r a58 M x1 x2 x3 x4 x5 x6 x7 x8
    else
      fX2_bestGain_b110 r a58 M x1 x2 x3 x4 x5 x6 x7 x8 s0

def fX2_bestGain_l58 (r : Mem → Int32 → Int32 → Option (Int32 × Mem)) : Nat → Mem → Int32 → Int32 → Nat → Nat → Int32 → Int32 → Int32 → Int32 → Option (Int32 × Mem)
  | 0, _, _, _, _, _, _, _, _, _ => none
  | n + 1, M, x1, x2, x3, x4, x5, x6, x7, x8 =>
    ck (kd x3 = 2) <| ck (kd x4 = 4) <| pu (gI M x4 0) fun vq6 =>
    if vq6 < x8 then
      if x1 = 0 then
        pu (sI M 49 3 (x6)) fun Mq7 =>
        some (x5, Mq7)
      else
        some (x5, M)
    else
      pu (gI M x4 0) fun vq8 =>
      if x8 < vq8 then
        fX2_bestGain_b84 r (fX2_bestGain_l58 r n) M x1 x2 x3 x4 x5 x6 x7 x8 x8
      else
        fX2_bestGain_b84 r (fX2_bestGain_l58 r n) M x1 x2 x3 x4 x5 x6 x7 x8 (-1)

def fX2_bestGain_s (r : Mem → Int32 → Int32 → Option (Int32 × Mem)) (M : Mem) (x1 : Int32) (x2 : Int32) : Option (Int32 × Mem) :=
  if x1 < 4 then
    ldN (x1) fun oq1 =>
    ck (kd oq1 = 2) <|
    pu (gR M 28 0) fun oq2 =>
    ck (kd oq2 = 4) <|
    pu (gI M oq1 3) fun vq3 =>
    b1 (fX7_harvestOf M vq3) fun vq4 =>
    b1 (fX7_reap M oq1 vq4) fun Mq5 =>
    fX2_bestGain_l58 r FU Mq5 x1 x2 oq1 oq2 0 (-1) 0 0
  else
    some (0, M)

def fX2_bestGain : Nat → Mem → Int32 → Int32 → Option (Int32 × Mem)
  | 0, _, _, _ => none
  | d + 1, M, x1, x2 => fX2_bestGain_s (fX2_bestGain d) M x1 x2

-- J6_bitCount_0f7a4
def fJ6_bitCount_0f7a4 (x0 : Int32) : Option Int32 :=
  pu (x0 - (((x0.toUInt32 >>> (Int32.toUInt32 1 &&& Int32.toUInt32 31)).toInt32) &&& 1431655765)) fun vq1 =>
  pu ((vq1 &&& 858993459) + (((vq1.toUInt32 >>> (Int32.toUInt32 2 &&& Int32.toUInt32 31)).toInt32) &&& 858993459)) fun vq2 =>
  pu ((vq2 + ((vq2.toUInt32 >>> (Int32.toUInt32 4 &&& Int32.toUInt32 31)).toInt32)) &&& 252645135) fun vq3 =>
  pu (vq3 + ((vq3.toUInt32 >>> (Int32.toUInt32 8 &&& Int32.toUInt32 31)).toInt32)) fun vq4 =>
  pu (vq4 + ((vq4.toUInt32 >>> (Int32.toUInt32 16 &&& Int32.toUInt32 31)).toInt32)) fun vq5 =>
  some (vq5 &&& 63)

-- X1_become
def fX1_become (M : Mem) (x0 : Nat) (x1 : Nat) : Option Mem :=
  ck (kd x0 = 0) <| ck (kd x1 = 0) <| pu (gI M x1 0) fun vq1 =>
  pu (sI M x0 0 (vq1)) fun Mq2 =>
  pu (gI Mq2 x0 0) fun vq3 =>
  cpI Mq2 (x1 + 1) 1240 (0) (x0 + 1) 1240 (0) (vq3 * 31) fun Mq4 =>
  some Mq4

-- X3_write
def fX3_write (M : Mem) (x0 : Nat) (x1 : Nat) (x2 : Int32) : Option Mem :=
  ck (kd x0 = 2) <| ck (kd x1 = 20) <| if x2 < 0 then
    some M
  else
    if Int32.ofNat (ln x1) < x2 + 31 then
      some M
    else
      pu (gI M x0 0) fun vq1 =>
      stI M x1 (ln x1) (x2) (vq1) fun Mq2 =>
      pu (gI Mq2 x0 1) fun vq3 =>
      stI Mq2 x1 (ln x1) (x2 + 1) (vq3) fun Mq4 =>
      pu (gI Mq4 x0 2) fun vq5 =>
      stI Mq4 x1 (ln x1) (x2 + 2) (vq5) fun Mq6 =>
      pu (gI Mq6 x0 3) fun vq7 =>
      stI Mq6 x1 (ln x1) (x2 + 3) (vq7) fun Mq8 =>
      pu (gI Mq8 x0 4) fun vq9 =>
      stI Mq8 x1 (ln x1) (x2 + 4) (vq9) fun Mq10 =>
      pu (gI Mq10 x0 5) fun vq11 =>
      stI Mq10 x1 (ln x1) (x2 + 5) (vq11) fun Mq12 =>
      pu (gI Mq12 x0 6) fun vq13 =>
      stI Mq12 x1 (ln x1) (x2 + 6) (vq13) fun Mq14 =>
      pu (gI Mq14 x0 7) fun vq15 =>
      stI Mq14 x1 (ln x1) (x2 + 7) (vq15) fun Mq16 =>
      pu (gI Mq16 x0 8) fun vq17 =>
      stI Mq16 x1 (ln x1) (x2 + 8) (vq17) fun Mq18 =>
      cpI Mq18 (x0 + 1) 2 (0) x1 (ln x1) (x2 + 9) (2) fun Mq19 =>
      cpI Mq19 (x0 + 2) 2 (0) x1 (ln x1) (x2 + 11) (2) fun Mq20 =>
      cpI Mq20 (x0 + 3) 12 (0) x1 (ln x1) (x2 + 13) (12) fun Mq21 =>
      cpI Mq21 (x0 + 4) 6 (0) x1 (ln x1) ((x2 + 13) + 12) (6) fun Mq22 =>
      some Mq22

-- X1_keep
def fX1_keep_b32 (M : Mem) (x0 : Nat) (x1 : Nat) : Option Mem :=
  ck (kd x0 = 0) <| ck (kd x1 = 2) <| pu (gI M x0 0) fun vq2 =>
  b1 (fX3_write M x1 (x0 + 1) (vq2 * 31)) fun Mq3 =>
  pu (gI Mq3 x0 0) fun vq4 =>
  pu (sI Mq3 x0 0 (vq4 + 1)) fun Mq5 =>
  some Mq5

def fX1_keep (M : Mem) (x0 : Nat) (x1 : Nat) : Option Mem :=
  ck (kd x0 = 0) <| ck (kd x1 = 2) <| pu (gI M x0 0) fun vq1 =>
  if vq1 < 40 then
    fX1_keep_b32 M x0 x1
  else
    cpI M (x0 + 1) 1240 (31) (x0 + 1) 1240 (0) (1209) fun Mq6 =>
    pu (sI Mq6 x0 0 (39)) fun Mq7 =>
    fX1_keep_b32 Mq7 x0 x1

-- X3_read
def fX3_read (M : Mem) (x0 : Nat) (x1 : Nat) (x2 : Int32) : Option Mem :=
  ck (kd x0 = 2) <| ck (kd x1 = 20) <| if x2 < 0 then
    some M
  else
    if Int32.ofNat (ln x1) < x2 + 31 then
      some M
    else
      ldI M x1 (ln x1) (x2) fun vq1 =>
      pu (sI M x0 0 (vq1)) fun Mq2 =>
      ldI Mq2 x1 (ln x1) (x2 + 1) fun vq3 =>
      pu (sI Mq2 x0 1 (vq3)) fun Mq4 =>
      ldI Mq4 x1 (ln x1) (x2 + 2) fun vq5 =>
      pu (sI Mq4 x0 2 (vq5)) fun Mq6 =>
      ldI Mq6 x1 (ln x1) (x2 + 3) fun vq7 =>
      pu (sI Mq6 x0 3 (vq7)) fun Mq8 =>
      ldI Mq8 x1 (ln x1) (x2 + 4) fun vq9 =>
      pu (sI Mq8 x0 4 (vq9)) fun Mq10 =>
      ldI Mq10 x1 (ln x1) (x2 + 5) fun vq11 =>
      pu (sI Mq10 x0 5 (vq11)) fun Mq12 =>
      ldI Mq12 x1 (ln x1) (x2 + 6) fun vq13 =>
      pu (sI Mq12 x0 6 (vq13)) fun Mq14 =>
      ldI Mq14 x1 (ln x1) (x2 + 7) fun vq15 =>
      pu (sI Mq14 x0 7 (vq15)) fun Mq16 =>
      ldI Mq16 x1 (ln x1) (x2 + 8) fun vq17 =>
      pu (sI Mq16 x0 8 (vq17)) fun Mq18 =>
      cpI Mq18 x1 (ln x1) (x2 + 9) (x0 + 1) 2 (0) (2) fun Mq19 =>
      cpI Mq19 x1 (ln x1) (x2 + 11) (x0 + 2) 2 (0) (2) fun Mq20 =>
      cpI Mq20 x1 (ln x1) (x2 + 13) (x0 + 3) 12 (0) (12) fun Mq21 =>
      cpI Mq21 x1 (ln x1) ((x2 + 13) + 12) (x0 + 4) 6 (0) (6) fun Mq22 =>
      some Mq22

-- X1_takeBack
def fX1_takeBack (M : Mem) (x0 : Nat) (x1 : Nat) : Option (Int32 × Mem) :=
  ck (kd x0 = 0) <| ck (kd x1 = 2) <| pu (gI M x0 0) fun vq1 =>
  if vq1 = 0 then
    some (0, M)
  else
    pu (gI M x0 0) fun vq2 =>
    pu (sI M x0 0 (vq2 - 1)) fun Mq3 =>
    pu (gI Mq3 x0 0) fun vq4 =>
    b1 (fX3_read Mq3 x1 (x0 + 1) (vq4 * 31)) fun Mq5 =>
    some (1, Mq5)

-- X7_wayDeed
def fX7_wayDeed (M : Mem) (x1 : Nat) (x2 : Int32) : Option Int32 :=
  ck (kd x1 = 2) <| pu (gR M 28 0) fun oq1 =>
  ck (kd oq1 = 4) <|
  ldI M (oq1 + 5) 2 (x2) fun vq2 =>
  if vq2 = 0 then
    some ((-1))
  else
    ldI M (x1 + 1) 2 (x2) fun vq3 =>
    nz (vq2) <|
    ldI M (x1 + 3) 12 ((x2 * 6) + (vq3 - vq3 / vq2 * vq2)) fun vq4 =>
    some (vq4)

-- X7_live
def fX7_live (M : Mem) (x1 : Nat) (x2 : Int32) (x3 : Int32) : Option (Int32 × Mem) :=
  ck (kd x1 = 2) <| b1 (fX7_reap M x1 x2) fun Mq1 =>
  b2 (fX7_perform Mq1 x1 x3) fun vq2 Mq3 =>
  b1 (fX7_age Mq3 x1) fun Mq4 =>
  b1 (fX7_turn Mq4 x1) fun Mq5 =>
  zz (vq2) <|
  some (vq2, Mq5)

-- X9_allows
def fX9_allows_b32 (a2 : Mem → Nat → Int32 → Int32 → Int32 → Option Int32) (M : Mem) (x0 : Nat) (x1 : Int32) (x2 : Int32) (x3 : Int32) : Option Int32 :=
  ck (kd x0 = 8) <| pu (x3 + 1) fun vq3 =>
  a2 M x0 x1 x2 vq3

def fX9_allows_l2 : Nat → Mem → Nat → Int32 → Int32 → Int32 → Option Int32
  | 0, _, _, _, _, _ => none
  | n + 1, M, x0, x1, x2, x3 =>
    ck (kd x0 = 8) <| pu (gI M x0 0) fun vq1 =>
    if x3 < vq1 then
      ldI M (x0 + 1) 8 (x3) fun vq2 =>
      if vq2 = x1 then
        ldI M (x0 + 2) 8 (x3) fun vq4 =>
        if vq4 = x2 then
          fX9_allows_b32 (fX9_allows_l2 n) M x0 x1 x2 x3
        else
          some (0)
      else
        fX9_allows_b32 (fX9_allows_l2 n) M x0 x1 x2 x3
    else
      some (1)

def fX9_allows (M : Mem) (x0 : Nat) (x1 : Int32) (x2 : Int32) : Option Int32 :=
  ck (kd x0 = 8) <| fX9_allows_l2 FU M x0 x1 x2 0

-- X2_fits
def fX2_fits_b54 (a11 : Mem → Nat → Int32 → Int32 → Int32 → Int32 → Option (Int32 × Mem)) (M : Mem) (x2 : Nat) (x3 : Int32) (x4 : Int32) (x5 : Int32) (x6 : Int32) (s0 : Int32) : Option (Int32 × Mem) :=
  ck (kd x2 = 8) <| pu (gI M 50 3) fun vq4 =>
  b1 (fX7_harvestOf M vq4) fun vq5 =>
  b2 (fX7_live M 50 vq5 s0) fun vq6 Mq7 =>
  pu (gI Mq7 50 0) fun vq8 =>
  b1 (fX9_allows Mq7 x2 x6 vq8) fun vq9 =>
  if vq9 = 0 then
    some (0, Mq7)
  else
    pu (gI Mq7 50 0) fun vq10 =>
    stI Mq7 56 30 (x6 - 1) (vq10) fun Mq11 =>
    pu (x6 + 1) fun vq12 =>
    a11 Mq11 x2 x3 x4 x5 vq12

def fX2_fits_l11 : Nat → Mem → Nat → Int32 → Int32 → Int32 → Int32 → Option (Int32 × Mem)
  | 0, _, _, _, _, _, _ => none
  | n + 1, M, x2, x3, x4, x5, x6 =>
    ck (kd x2 = 8) <| if x5 < x6 then
      some (1, M)
    else
      if 30 < x6 then
        some (1, M)
      else
        if x6 = x3 then
          fX2_fits_b54 (fX2_fits_l11 n) M x2 x3 x4 x5 x6 x4
        else
          pu (gI M 50 4) fun vq2 =>
          b1 (fX7_wayDeed M 50 vq2) fun vq3 =>
          fX2_fits_b54 (fX2_fits_l11 n) M x2 x3 x4 x5 x6 vq3

def fX2_fits (M : Mem) (x1 : Nat) (x2 : Nat) (x3 : Int32) (x4 : Int32) (x5 : Int32) : Option (Int32 × Mem) :=
  ck (kd x1 = 2) <| ck (kd x2 = 8) <| b1 (fX3_become M 50 x1) fun Mq1 =>
  fX2_fits_l11 FU Mq1 x2 x3 x4 x5 1

-- X3_clearRow
def fX3_clearRow_l2 : Nat → Mem → Nat → Int32 → Option Mem
  | 0, _, _, _ => none
  | n + 1, M, x0, x1 =>
    ck (kd x0 = 20) <| if x1 < Int32.ofNat (ln x0) then
      stI M x0 (ln x0) (x1) (0) fun Mq1 =>
      pu (x1 + 1) fun vq2 =>
      fX3_clearRow_l2 n Mq1 x0 vq2
    else
      some M

def fX3_clearRow (M : Mem) (x0 : Nat) : Option Mem :=
  ck (kd x0 = 20) <| fX3_clearRow_l2 FU M x0 0

-- X3_found
def fX3_found (M : Mem) (x0 : Nat) : Option Mem :=
  ck (kd x0 = 2) <| pu (sI M x0 0 (50)) fun Mq1 =>
  pu (sI Mq1 x0 1 (20)) fun Mq2 =>
  pu (sI Mq2 x0 2 (0)) fun Mq3 =>
  pu (sI Mq3 x0 3 (0)) fun Mq4 =>
  pu (sI Mq4 x0 4 (0)) fun Mq5 =>
  pu (sI Mq5 x0 5 (0)) fun Mq6 =>
  pu (sI Mq6 x0 6 (0)) fun Mq7 =>
  pu (sI Mq7 x0 7 (0)) fun Mq8 =>
  pu (sI Mq8 x0 8 (1)) fun Mq9 =>
  b1 (fX3_clearRow Mq9 (x0 + 1)) fun Mq10 =>
  b1 (fX3_clearRow Mq10 (x0 + 2)) fun Mq11 =>
  b1 (fX3_clearRow Mq11 (x0 + 3)) fun Mq12 =>
  b1 (fX3_clearRow Mq12 (x0 + 4)) fun Mq13 =>
  some Mq13

-- X2_isAtRest
def fX2_isAtRest (M : Mem) (x1 : Int32) : Option Int32 :=
  ldI M 59 4 (x1) fun vq1 =>
  ldI M 59 4 (x1 ^^^ 2) fun vq2 =>
  if vq1 < vq2 then
    some (0)
  else
    ldI M 60 4 (x1) fun vq3 =>
    ldI M 60 4 (x1 ^^^ 1) fun vq4 =>
    if vq3 < vq4 then
      some (0)
    else
      some (1)

-- X2_markStores
def fX2_markStores_b81 (a2 : Mem → Int32 → Option Mem) (M : Mem) (x1 : Int32) : Option Mem :=
  pu (x1 + 1) fun vq4 =>
  a2 M vq4

def fX2_markStores_l2 : Nat → Mem → Int32 → Option Mem
  | 0, _, _ => none
  | n + 1, M, x1 =>
    if x1 < 30 then
      ldI M 56 30 (x1) fun vq1 =>
      pu ((x1 * 16) + (vq1 / 64)) fun vq2 =>
      pu ((1 : Int64) <<< (Int32.toInt64 (vq1 - vq1 / 64 * 64) &&& 63 : Int64)) fun vq3 =>
      if vq1 < 0 then
        fX2_markStores_b81 (fX2_markStores_l2 n) M x1
      else
        if vq2 < 480 then
          ldL M 57 480 (vq2) fun vq5 =>
          if lg_cmp (vq5 &&& vq3) (0) = 0 then
            ldL M 57 480 (vq2) fun vq6 =>
            stL M 57 480 (vq2) (vq6 ||| vq3) fun Mq7 =>
            ldI Mq7 58 30 (x1) fun vq8 =>
            stI Mq7 58 30 (x1) (vq8 + 1) fun Mq9 =>
            fX2_markStores_b81 (fX2_markStores_l2 n) Mq9 x1
          else
            fX2_markStores_b81 (fX2_markStores_l2 n) M x1
        else
          fX2_markStores_b81 (fX2_markStores_l2 n) M x1
    else
      some M

def fX2_markStores (M : Mem) : Option Mem :=
  fX2_markStores_l2 FU M 0

-- X2_planned
def fX2_planned (M : Mem) (x1 : Nat) (x2 : Int32) : Option (Int32 × Mem) :=
  ck (kd x1 = 2) <| ldN (0) fun oq1 =>
  ck (kd oq1 = 2) <|
  b1 (fX3_become M oq1 x1) fun Mq2 =>
  b2 (fX2_bestGain 5 Mq2 0 x2) fun vq3 Mq4 =>
  some (vq3, Mq4)

-- X2_playOut
def fX2_playOut_b175 (a12 : Mem → Nat → Int32 → Int32 → Nat → Int32 → Option Mem) (M : Mem) (x1 : Nat) (x2 : Int32) (x3 : Int32) (x4 : Nat) (x5 : Int32) (x8 : Int32) (s0 : Int32) (s1 : Int32) : Option Mem :=
  ck (kd x1 = 2) <| ck (kd x4 = 4) <| stI M 60 4 (s1) (s0 - x8) fun Mq12 =>
  pu (x5 + 1) fun vq13 =>
  a12 Mq12 x1 x2 x3 x4 vq13

def fX2_playOut_b119 (a12 : Mem → Nat → Int32 → Int32 → Nat → Int32 → Option Mem) (M : Mem) (x1 : Nat) (x2 : Int32) (x3 : Int32) (x4 : Nat) (x5 : Int32) (x7 : Int32) (x8 : Int32) (s0 : Int32) (s1 : Int32) : Option Mem :=
  ck (kd x1 = 2) <| ck (kd x4 = 4) <| stI M 59 4 (s1) (s0 - x8) fun Mq7 =>
  pu (gI Mq7 50 3) fun vq8 =>
  b1 (fX7_harvestOf Mq7 vq8) fun vq9 =>
  b2 (fX7_live Mq7 50 vq9 x7) fun vq10 Mq11 =>
  if vq10 = 0 then
    fX2_playOut_b175 a12 Mq11 x1 x2 x3 x4 x5 x8 0 x5
  else
    ldI Mq11 (x4 + 4) 7 (x7) fun vq14 =>
    fX2_playOut_b175 a12 Mq11 x1 x2 x3 x4 x5 x8 vq14 x5

def fX2_playOut_b57 (a12 : Mem → Nat → Int32 → Int32 → Nat → Int32 → Option Mem) (M : Mem) (x1 : Nat) (x2 : Int32) (x3 : Int32) (x4 : Nat) (x5 : Int32) (x6 : Int32) (x7 : Int32) (s0 : Int32) : Option Mem :=
  ck (kd x1 = 2) <| ck (kd x4 = 4) <| b1 (fX3_become M 50 x1) fun Mq2 =>
  pu (gI Mq2 50 3) fun vq3 =>
  b1 (fX7_harvestOf Mq2 vq3) fun vq4 =>
  b2 (fX7_live Mq2 50 vq4 x6) fun vq5 Mq6 =>
  if vq5 = 0 then
    fX2_playOut_b119 a12 Mq6 x1 x2 x3 x4 x5 x7 s0 0 x5
  else
    ldI Mq6 (x4 + 4) 7 (x6) fun vq15 =>
    fX2_playOut_b119 a12 Mq6 x1 x2 x3 x4 x5 x7 s0 vq15 x5

def fX2_playOut_b43 (a12 : Mem → Nat → Int32 → Int32 → Nat → Int32 → Option Mem) (M : Mem) (x1 : Nat) (x2 : Int32) (x3 : Int32) (x4 : Nat) (x5 : Int32) (x6 : Int32) (s0 : Int32) : Option Mem :=
  ck (kd x1 = 2) <| ck (kd x4 = 4) <| if x6 = s0 then
    fX2_playOut_b57 a12 M x1 x2 x3 x4 x5 x6 s0 3
  else
    fX2_playOut_b57 a12 M x1 x2 x3 x4 x5 x6 s0 0

def fX2_playOut_b29 (a12 : Mem → Nat → Int32 → Int32 → Nat → Int32 → Option Mem) (M : Mem) (x1 : Nat) (x2 : Int32) (x3 : Int32) (x4 : Nat) (x5 : Int32) (s0 : Int32) : Option Mem :=
  ck (kd x1 = 2) <| ck (kd x4 = 4) <| if x5 - x5 / 2 * 2 = 0 then
    fX2_playOut_b43 a12 M x1 x2 x3 x4 x5 s0 x2
  else
    fX2_playOut_b43 a12 M x1 x2 x3 x4 x5 s0 x3

def fX2_playOut_l12 : Nat → Mem → Nat → Int32 → Int32 → Nat → Int32 → Option Mem
  | 0, _, _, _, _, _, _ => none
  | n + 1, M, x1, x2, x3, x4, x5 =>
    ck (kd x1 = 2) <| ck (kd x4 = 4) <| if x5 < 4 then
      if x5 < 2 then
        fX2_playOut_b29 (fX2_playOut_l12 n) M x1 x2 x3 x4 x5 x2
      else
        fX2_playOut_b29 (fX2_playOut_l12 n) M x1 x2 x3 x4 x5 x3
    else
      some M

def fX2_playOut (M : Mem) (x1 : Nat) (x2 : Int32) (x3 : Int32) : Option Mem :=
  ck (kd x1 = 2) <| pu (gR M 28 0) fun oq1 =>
  ck (kd oq1 = 4) <|
  fX2_playOut_l12 FU M x1 x2 x3 oq1 0

-- X2_survey
def fX2_survey_b92 (a50 : Mem → Nat → Nat → Int32 → Option Mem) (a59 : Mem → Nat → Nat → Int32 → Int32 → Option Mem) (M : Mem) (x1 : Nat) (x2 : Nat) (x3 : Int32) (x4 : Int32) : Option Mem :=
  ck (kd x1 = 2) <| ck (kd x2 = 8) <| pu (x4 + 1) fun vq6 =>
  a59 M x1 x2 x3 vq6

def fX2_survey_l59 (a50 : Mem → Nat → Nat → Int32 → Option Mem) : Nat → Mem → Nat → Nat → Int32 → Int32 → Option Mem
  | 0, _, _, _, _, _ => none
  | n + 1, M, x1, x2, x3, x4 =>
    ck (kd x1 = 2) <| ck (kd x2 = 8) <| pu (gR M 28 0) fun oq1 =>
    ck (kd oq1 = 4) <|
    pu (gI M oq1 0) fun vq2 =>
    if x4 < vq2 then
      b2 (fX2_fits M x1 x2 x3 x4 30) fun vq4 Mq5 =>
      if vq4 = 0 then
        fX2_survey_b92 a50 (fX2_survey_l59 a50 n) Mq5 x1 x2 x3 x4
      else
        b1 (fX2_markStores Mq5) fun Mq7 =>
        fX2_survey_b92 a50 (fX2_survey_l59 a50 n) Mq7 x1 x2 x3 x4
    else
      pu (x3 + 1) fun vq3 =>
      a50 M x1 x2 vq3

def fX2_survey_l50 : Nat → Mem → Nat → Nat → Int32 → Option Mem
  | 0, _, _, _, _ => none
  | n + 1, M, x1, x2, x3 =>
    ck (kd x1 = 2) <| ck (kd x2 = 8) <| if 12 < x3 then
      some M
    else
      fX2_survey_l59 (fX2_survey_l50 n) FU M x1 x2 x3 0

def fX2_survey_l26 : Nat → Mem → Nat → Nat → Int32 → Option Mem
  | 0, _, _, _, _ => none
  | n + 1, M, x1, x2, x3 =>
    ck (kd x1 = 2) <| ck (kd x2 = 8) <| if x3 < 30 then
      stI M 58 30 (x3) (0) fun Mq8 =>
      pu (x3 + 1) fun vq9 =>
      fX2_survey_l26 n Mq8 x1 x2 vq9
    else
      fX2_survey_l50 FU M x1 x2 1

def fX2_survey_l2 : Nat → Mem → Nat → Nat → Int32 → Option Mem
  | 0, _, _, _, _ => none
  | n + 1, M, x1, x2, x3 =>
    ck (kd x1 = 2) <| ck (kd x2 = 8) <| if x3 < 480 then
      stL M 57 480 (x3) (0) fun Mq10 =>
      pu (x3 + 1) fun vq11 =>
      fX2_survey_l2 n Mq10 x1 x2 vq11
    else
      fX2_survey_l26 FU M x1 x2 0

def fX2_survey (M : Mem) (x1 : Nat) (x2 : Nat) : Option Mem :=
  ck (kd x1 = 2) <| ck (kd x2 = 8) <| fX2_survey_l2 FU M x1 x2 0

-- X3_wealth
def fX3_wealth (M : Mem) (x0 : Nat) : Option Int32 :=
  ck (kd x0 = 2) <| pu (gI M x0 0) fun vq1 =>
  pu (gI M x0 2) fun vq2 =>
  some (vq1 - vq2)

-- X8_begin
def fX8_begin (M : Mem) (x0 : Nat) (x1 : Int32) : Option Mem :=
  ck (kd x0 = 7) <| pu (sI M x0 1 (x1)) fun Mq1 =>
  pu (sI Mq1 x0 2 (x1)) fun Mq2 =>
  pu (sI Mq2 x0 3 (0)) fun Mq3 =>
  some Mq3

-- X5_clear
def fX5_clear (M : Mem) (x0 : Nat) : Option Mem :=
  ck (kd x0 = 4) <| pu (sI M x0 0 (0)) fun Mq1 =>
  stI Mq1 (x0 + 5) 2 (0) (0) fun Mq2 =>
  stI Mq2 (x0 + 5) 2 (1) (0) fun Mq3 =>
  pu (sI Mq3 x0 6 (0)) fun Mq4 =>
  pu (sI Mq4 x0 8 (0)) fun Mq5 =>
  pu (sI Mq5 (x0 + 8) 0 (0)) fun Mq6 =>
  pu (sI Mq6 (x0 + 11) 0 (0)) fun Mq7 =>
  b1 (fX8_begin Mq7 (x0 + 15) 0) fun Mq8 =>
  b1 (fX8_begin Mq8 (x0 + 16) 0) fun Mq9 =>
  some Mq9

-- X6_below
def fX6_below (M : Mem) (x1 : Int32) (x2 : Int32) : Option (Int32 × Mem) :=
  if x1 < x2 then
    b1 (fX10_step M) fun Mq1 =>
    some (1, Mq1)
  else
    b2 (fX6_refuse M 2) fun vq2 Mq3 =>
    zz (vq2) <|
    some (vq2, Mq3)

-- X6_hear
def fX6_hear_b89 (M : Mem) : Option (Int32 × Mem) :=
  b2 (fX6_refuse M 2) fun vq3 Mq4 =>
  zz (vq3) <|
  some (vq3, Mq4)

def fX6_hear_b116 (M : Mem) : Option (Int32 × Mem) :=
  b1 (fX10_step M) fun Mq5 =>
  some (1, Mq5)

def fX6_hear_b75 (M : Mem) (x1 : Int32) (x2 : Int32) (x3 : Int32) (s0 : Int32) : Option (Int32 × Mem) :=
  if s0 < x2 then
    fX6_hear_b89 M
  else
    if x3 < s0 then
      fX6_hear_b89 M
    else
      if x1 < 0 then
        fX6_hear_b116 M
      else
        if x1 < 4 then
          stI M 26 4 (x1) (s0) fun Mq6 =>
          fX6_hear_b116 Mq6
        else
          fX6_hear_b116 M

def fX6_hear_b35 (M : Mem) (x1 : Int32) (x2 : Int32) (x3 : Int32) (x4 : Int32) : Option (Int32 × Mem) :=
  pu (gI M 27 4) fun vq1 =>
  if vq1 = 2 then
    if x4 = 0 then
      pu (gI M 27 5) fun vq2 =>
      fX6_hear_b75 M x1 x2 x3 vq2
    else
      pu (gI M 27 5) fun vq7 =>
      fX6_hear_b75 M x1 x2 x3 (-vq7)
  else
    b2 (fX6_refuse M 1) fun vq8 Mq9 =>
    zz (vq8) <|
    some (vq8, Mq9)

def fX6_hear_b21 (M : Mem) (x1 : Int32) (x2 : Int32) (x3 : Int32) (s0 : Int32) : Option (Int32 × Mem) :=
  if s0 = 0 then
    fX6_hear_b35 M x1 x2 x3 s0
  else
    b1 (fX10_step M) fun Mq10 =>
    fX6_hear_b35 Mq10 x1 x2 x3 s0

def fX6_hear_b20 (M : Mem) (x1 : Int32) (x2 : Int32) (x3 : Int32) : Option (Int32 × Mem) :=
  fX6_hear_b21 M x1 x2 x3 0

def fX6_hear (M : Mem) (x1 : Int32) (x2 : Int32) (x3 : Int32) : Option (Int32 × Mem) :=
  if x2 < 0 then
    pu (gI M 27 4) fun vq11 =>
    if vq11 = 45 then
      fX6_hear_b21 M x1 x2 x3 1
    else
      fX6_hear_b20 M x1 x2 x3
  else
    fX6_hear_b20 M x1 x2 x3

-- X6_close
def fX6_close (M : Mem) : Option (Int32 × Mem) :=
  pu (gI M 27 4) fun vq1 =>
  if vq1 = 59 then
    b1 (fX10_step M) fun Mq2 =>
    some (1, Mq2)
  else
    b2 (fX6_refuse M 1) fun vq3 Mq4 =>
    zz (vq3) <|
    some (vq3, Mq4)

-- X6_cityLine
def fX6_cityLine (M : Mem) : Option (Int32 × Mem) :=
  b2 (fX6_hear M 0 0 999) fun vq1 Mq2 =>
  if vq1 = 0 then
    some (0, Mq2)
  else
    b2 (fX6_hear Mq2 1 0 99) fun vq3 Mq4 =>
    if vq3 = 0 then
      some (0, Mq4)
    else
      b2 (fX6_hear Mq4 2 0 999) fun vq5 Mq6 =>
      if vq5 = 0 then
        some (0, Mq6)
      else
        ldI Mq6 26 4 (0) fun vq7 =>
        pu (sI Mq6 21 0 (vq7)) fun Mq8 =>
        ldI Mq8 26 4 (1) fun vq9 =>
        pu (sI Mq8 21 1 (vq9)) fun Mq10 =>
        ldI Mq10 26 4 (2) fun vq11 =>
        pu (sI Mq10 21 2 (vq11)) fun Mq12 =>
        b2 (fX6_close Mq12) fun vq13 Mq14 =>
        zz (vq13) <|
        some (vq13, Mq14)

-- X6_deedLine
def fX6_deedLine_b158 (M : Mem) : Option (Int32 × Mem) :=
  b2 (fX6_close M) fun vq11 Mq12 =>
  zz (vq11) <|
  some (vq11, Mq12)

def fX6_deedLine (M : Mem) : Option (Int32 × Mem) :=
  b2 (fX6_hear M 0 0 99) fun vq1 Mq2 =>
  if vq1 = 0 then
    some (0, Mq2)
  else
    b2 (fX6_hear Mq2 1 (-20) 20) fun vq3 Mq4 =>
    if vq3 = 0 then
      some (0, Mq4)
    else
      b2 (fX6_hear Mq4 2 (-99) 99) fun vq5 Mq6 =>
      if vq5 = 0 then
        some (0, Mq6)
      else
        b2 (fX6_hear Mq6 3 (-20) 20) fun vq7 Mq8 =>
        if vq7 = 0 then
          some (0, Mq8)
        else
          pu (gR Mq8 3 1) fun oq9 =>
          ck (kd oq9 = 4) <|
          pu (gI Mq8 oq9 0) fun vq10 =>
          if vq10 < 7 then
            pu (gR Mq8 3 1) fun oq13 =>
            ck (kd oq13 = 4) <|
            pu (gR Mq8 3 1) fun oq14 =>
            ck (kd oq14 = 4) <|
            pu (gI Mq8 oq14 0) fun vq15 =>
            ldI Mq8 26 4 (0) fun vq16 =>
            stI Mq8 (oq13 + 1) 7 (vq15) (vq16) fun Mq17 =>
            pu (gR Mq17 3 1) fun oq18 =>
            ck (kd oq18 = 4) <|
            pu (gR Mq17 3 1) fun oq19 =>
            ck (kd oq19 = 4) <|
            pu (gI Mq17 oq19 0) fun vq20 =>
            ldI Mq17 26 4 (1) fun vq21 =>
            stI Mq17 (oq18 + 2) 7 (vq20) (vq21) fun Mq22 =>
            pu (gR Mq22 3 1) fun oq23 =>
            ck (kd oq23 = 4) <|
            pu (gR Mq22 3 1) fun oq24 =>
            ck (kd oq24 = 4) <|
            pu (gI Mq22 oq24 0) fun vq25 =>
            ldI Mq22 26 4 (2) fun vq26 =>
            stI Mq22 (oq23 + 3) 7 (vq25) (vq26) fun Mq27 =>
            pu (gR Mq27 3 1) fun oq28 =>
            ck (kd oq28 = 4) <|
            pu (gR Mq27 3 1) fun oq29 =>
            ck (kd oq29 = 4) <|
            pu (gI Mq27 oq29 0) fun vq30 =>
            ldI Mq27 26 4 (3) fun vq31 =>
            stI Mq27 (oq28 + 4) 7 (vq30) (vq31) fun Mq32 =>
            pu (gR Mq32 3 1) fun oq33 =>
            ck (kd oq33 = 4) <|
            pu (gI Mq32 oq33 0) fun vq34 =>
            pu (sI Mq32 oq33 0 (vq34 + 1)) fun Mq35 =>
            fX6_deedLine_b158 Mq35
          else
            fX6_deedLine_b158 Mq8

-- X6_fighterLine
def fX6_fighterLine_b72 (M : Mem) : Option (Int32 × Mem) :=
  b2 (fX6_close M) fun vq6 Mq7 =>
  zz (vq6) <|
  some (vq6, Mq7)

def fX6_fighterLine (M : Mem) (x1 : Nat) : Option (Int32 × Mem) :=
  ck (kd x1 = 3) <| b2 (fX6_hear M 0 0 20) fun vq1 Mq2 =>
  if vq1 = 0 then
    some (0, Mq2)
  else
    b2 (fX6_hear Mq2 1 0 3) fun vq3 Mq4 =>
    if vq3 = 0 then
      some (0, Mq4)
    else
      pu (gI Mq4 x1 0) fun vq5 =>
      if vq5 < 7 then
        pu (gI Mq4 x1 0) fun vq8 =>
        ldI Mq4 26 4 (0) fun vq9 =>
        stI Mq4 (x1 + 1) 7 (vq8) (vq9) fun Mq10 =>
        pu (gI Mq10 x1 0) fun vq11 =>
        ldI Mq10 26 4 (1) fun vq12 =>
        stI Mq10 (x1 + 2) 7 (vq11) (vq12) fun Mq13 =>
        pu (gI Mq13 x1 0) fun vq14 =>
        pu (sI Mq13 x1 0 (vq14 + 1)) fun Mq15 =>
        fX6_fighterLine_b72 Mq15
      else
        fX6_fighterLine_b72 Mq4

-- X6_friendLine
def fX6_friendLine_b92 (M : Mem) : Option (Int32 × Mem) :=
  b2 (fX6_close M) fun vq7 Mq8 =>
  zz (vq7) <|
  some (vq7, Mq8)

def fX6_friendLine (M : Mem) : Option (Int32 × Mem) :=
  b2 (fX6_hear M 0 (-9) 9) fun vq1 Mq2 =>
  if vq1 = 0 then
    some (0, Mq2)
  else
    b2 (fX6_hear Mq2 1 0 9) fun vq3 Mq4 =>
    if vq3 = 0 then
      some (0, Mq4)
    else
      pu (gR Mq4 3 1) fun oq5 =>
      ck (kd oq5 = 4) <|
      pu (gI Mq4 oq5 8) fun vq6 =>
      if vq6 < 6 then
        pu (gR Mq4 3 1) fun oq9 =>
        ck (kd oq9 = 4) <|
        pu (gI Mq4 oq9 8) fun vq10 =>
        ldI Mq4 26 4 (0) fun vq11 =>
        stI Mq4 25 6 (vq10) (vq11) fun Mq12 =>
        pu (gR Mq12 3 1) fun oq13 =>
        ck (kd oq13 = 4) <|
        pu (gR Mq12 3 1) fun oq14 =>
        ck (kd oq14 = 4) <|
        pu (gI Mq12 oq14 8) fun vq15 =>
        ldI Mq12 26 4 (1) fun vq16 =>
        stI Mq12 (oq13 + 7) 6 (vq15) (vq16) fun Mq17 =>
        pu (gR Mq17 3 1) fun oq18 =>
        ck (kd oq18 = 4) <|
        pu (gI Mq17 oq18 8) fun vq19 =>
        pu (sI Mq17 oq18 8 (vq19 + 1)) fun Mq20 =>
        fX6_friendLine_b92 Mq20
      else
        fX6_friendLine_b92 Mq4

-- X6_harvestsLine
def fX6_harvestsLine_b97 (M : Mem) : Option (Int32 × Mem) :=
  b2 (fX6_close M) fun vq1 Mq2 =>
  zz (vq1) <|
  some (vq1, Mq2)

def fX6_harvestsLine_b91 (a2 : Mem → Int32 → Option (Int32 × Mem)) (M : Mem) (x1 : Int32) : Option (Int32 × Mem) :=
  pu (x1 + 1) fun vq5 =>
  a2 M vq5

def fX6_harvestsLine_b47 (a2 : Mem → Int32 → Option (Int32 × Mem)) (M : Mem) (x1 : Int32) : Option (Int32 × Mem) :=
  b2 (fX6_hear M 0 0 99) fun vq3 Mq4 =>
  if vq3 = 0 then
    some (0, Mq4)
  else
    if x1 < 10 then
      pu (gR Mq4 3 1) fun oq6 =>
      ck (kd oq6 = 4) <|
      ldI Mq4 26 4 (0) fun vq7 =>
      stI Mq4 (oq6 + 6) 10 (x1) (vq7) fun Mq8 =>
      pu (gR Mq8 3 1) fun oq9 =>
      ck (kd oq9 = 4) <|
      pu (sI Mq8 oq9 6 (x1 + 1)) fun Mq10 =>
      fX6_harvestsLine_b91 a2 Mq10 x1
    else
      fX6_harvestsLine_b91 a2 Mq4 x1

def fX6_harvestsLine_b24 (a2 : Mem → Int32 → Option (Int32 × Mem)) (M : Mem) (x1 : Int32) : Option (Int32 × Mem) :=
  if x1 = 10 then
    pu (gI M 27 4) fun vq11 =>
    if vq11 = 2 then
      b2 (fX6_refuse M 2) fun vq12 Mq13 =>
      zz (vq12) <|
      some (vq12, Mq13)
    else
      fX6_harvestsLine_b47 a2 M x1
  else
    fX6_harvestsLine_b47 a2 M x1

def fX6_harvestsLine_l2 : Nat → Mem → Int32 → Option (Int32 × Mem)
  | 0, _, _ => none
  | n + 1, M, x1 =>
    if 10 < x1 then
      fX6_harvestsLine_b97 M
    else
      if x1 = 0 then
        fX6_harvestsLine_b24 (fX6_harvestsLine_l2 n) M x1
      else
        pu (gI M 27 4) fun vq14 =>
        if vq14 = 59 then
          fX6_harvestsLine_b97 M
        else
          fX6_harvestsLine_b24 (fX6_harvestsLine_l2 n) M x1

def fX6_harvestsLine (M : Mem) : Option (Int32 × Mem) :=
  fX6_harvestsLine_l2 FU M 0

-- X6_once
def fX6_once (M : Mem) (x1 : Int32) : Option (Int32 × Mem) :=
  pu (gI M 3 5) fun vq1 =>
  if vq1 &&& x1 = 0 then
    pu (gI M 3 5) fun vq2 =>
    pu (sI M 3 5 (vq2 ||| x1)) fun Mq3 =>
    b1 (fX10_step Mq3) fun Mq4 =>
    some (1, Mq4)
  else
    b2 (fX6_refuse M 5) fun vq5 Mq6 =>
    zz (vq5) <|
    some (vq5, Mq6)

-- X6_wayLine
def fX6_wayLine_b128 (M : Mem) (x1 : Int32) (x2 : Int32) : Option (Int32 × Mem) :=
  pu (gR M 3 1) fun oq1 =>
  ck (kd oq1 = 4) <|
  stI M (oq1 + 5) 2 (x1) (x2) fun Mq2 =>
  b2 (fX6_close Mq2) fun vq3 Mq4 =>
  zz (vq3) <|
  some (vq3, Mq4)

def fX6_wayLine_b62 (M : Mem) : Option (Int32 × Mem) :=
  b2 (fX6_refuse M 2) fun vq6 Mq7 =>
  zz (vq6) <|
  some (vq6, Mq7)

def fX6_wayLine_b26 (a4 : Mem → Int32 → Int32 → Int32 → Option (Int32 × Mem)) (M : Mem) (x1 : Int32) (x2 : Int32) (x3 : Int32) : Option (Int32 × Mem) :=
  pu (gI M 27 4) fun vq5 =>
  if vq5 = 2 then
    if x3 = 6 then
      fX6_wayLine_b62 M
    else
      pu (gI M 27 5) fun vq8 =>
      if vq8 = 10000 then
        fX6_wayLine_b62 M
      else
        pu (gI M 27 5) fun vq9 =>
        pu (gR M 3 1) fun oq10 =>
        ck (kd oq10 = 4) <|
        pu (gI M oq10 0) fun vq11 =>
        if vq9 < vq11 then
          pu (gI M 27 5) fun vq12 =>
          stI M 24 12 ((x1 * 6) + x3) (vq12) fun Mq13 =>
          pu (x2 + 1) fun vq14 =>
          b1 (fX10_step Mq13) fun Mq15 =>
          pu (x3 + 1) fun vq16 =>
          a4 Mq15 x1 vq14 vq16
        else
          b2 (fX6_refuse M 3) fun vq17 Mq18 =>
          zz (vq17) <|
          some (vq17, Mq18)
  else
    b2 (fX6_refuse M 1) fun vq19 Mq20 =>
    zz (vq19) <|
    some (vq19, Mq20)

def fX6_wayLine_l4 : Nat → Mem → Int32 → Int32 → Int32 → Option (Int32 × Mem)
  | 0, _, _, _, _ => none
  | n + 1, M, x1, x2, x3 =>
    if 6 < x3 then
      fX6_wayLine_b128 M x1 x2
    else
      if x3 = 0 then
        fX6_wayLine_b26 (fX6_wayLine_l4 n) M x1 x2 x3
      else
        pu (gI M 27 4) fun vq21 =>
        if vq21 = 59 then
          fX6_wayLine_b128 M x1 x2
        else
          fX6_wayLine_b26 (fX6_wayLine_l4 n) M x1 x2 x3

def fX6_wayLine (M : Mem) (x1 : Int32) : Option (Int32 × Mem) :=
  fX6_wayLine_l4 FU M x1 0 0

-- X6_termLine
def fX6_termLine (M : Mem) : Option (Int32 × Mem) :=
  b2 (fX6_hear M 0 1 5) fun vq1 Mq2 =>
  if vq1 = 0 then
    some (0, Mq2)
  else
    ldI Mq2 26 4 (0) fun vq3 =>
    pu (sI Mq2 21 8 (vq3)) fun Mq4 =>
    b2 (fX6_close Mq4) fun vq5 Mq6 =>
    zz (vq5) <|
    some (vq5, Mq6)

-- X6_ruleLine
def fX6_ruleLine (M : Mem) (x1 : Nat) : Option (Int32 × Mem) :=
  ck (kd x1 = 7) <| pu (sR M 3 7 x1) fun Mq1 =>
  pu (gR Mq1 3 7) fun oq2 =>
  ck (kd oq2 = 7) <|
  pu (gR Mq1 3 1) fun oq3 =>
  ck (kd oq3 = 4) <|
  pu (gI Mq1 (oq3 + 15) 2) fun vq4 =>
  pu (gR Mq1 3 1) fun oq5 =>
  ck (kd oq5 = 4) <|
  pu (gI Mq1 (oq5 + 16) 2) fun vq6 =>
  pu (if vq4 < vq6 then vq6 else vq4) fun vq7 =>
  b1 (fX8_begin Mq1 oq2 vq7) fun Mq8 =>
  b2 (fX6_expr 8 Mq8 0) fun vq9 Mq10 =>
  if vq9 = 0 then
    some (0, Mq10)
  else
    b2 (fX6_close Mq10) fun vq11 Mq12 =>
    if vq11 = 0 then
      some (0, Mq12)
    else
      some (1, Mq12)

-- X6_line
def fX6_line (M : Mem) : Option (Int32 × Mem) :=
  pu (gR M 27 6) fun oq1 =>
  ck (1000 ≤ oq1 ∧ oq1 < 1023) <|
  b1 (fJe_ordinal oq1) fun vq2 =>
  ldS (vq2) fun vq3 =>
  if vq3 = 1 then
    b2 (fX6_once M 1) fun vq4 Mq5 =>
    if vq4 = 0 then
      some (0, Mq5)
    else
      b2 (fX6_cityLine Mq5) fun vq6 Mq7 =>
      if vq6 = 0 then
        some (0, Mq7)
      else
        some (1, Mq7)
  else if vq3 = 2 then
    pu (gR M 3 1) fun oq8 =>
    ck (kd oq8 = 4) <|
    pu (gI M oq8 0) fun vq9 =>
    b2 (fX6_below M vq9 7) fun vq10 Mq11 =>
    if vq10 = 0 then
      some (0, Mq11)
    else
      b2 (fX6_deedLine Mq11) fun vq12 Mq13 =>
      if vq12 = 0 then
        some (0, Mq13)
      else
        some (1, Mq13)
  else if vq3 = 3 then
    b2 (fX6_once M 2) fun vq14 Mq15 =>
    if vq14 = 0 then
      some (0, Mq15)
    else
      b2 (fX6_wayLine Mq15 0) fun vq16 Mq17 =>
      if vq16 = 0 then
        some (0, Mq17)
      else
        some (1, Mq17)
  else if vq3 = 4 then
    b2 (fX6_once M 4) fun vq18 Mq19 =>
    if vq18 = 0 then
      some (0, Mq19)
    else
      b2 (fX6_wayLine Mq19 1) fun vq20 Mq21 =>
      if vq20 = 0 then
        some (0, Mq21)
      else
        some (1, Mq21)
  else if vq3 = 5 then
    b2 (fX6_once M 8) fun vq22 Mq23 =>
    if vq22 = 0 then
      some (0, Mq23)
    else
      b2 (fX6_harvestsLine Mq23) fun vq24 Mq25 =>
      if vq24 = 0 then
        some (0, Mq25)
      else
        some (1, Mq25)
  else if vq3 = 6 then
    b2 (fX6_once M 16) fun vq26 Mq27 =>
    if vq26 = 0 then
      some (0, Mq27)
    else
      b2 (fX6_termLine Mq27) fun vq28 Mq29 =>
      if vq28 = 0 then
        some (0, Mq29)
      else
        some (1, Mq29)
  else if vq3 = 7 then
    pu (gR M 3 1) fun oq30 =>
    ck (kd oq30 = 4) <|
    pu (gI M oq30 8) fun vq31 =>
    b2 (fX6_below M vq31 6) fun vq32 Mq33 =>
    if vq32 = 0 then
      some (0, Mq33)
    else
      b2 (fX6_friendLine Mq33) fun vq34 Mq35 =>
      if vq34 = 0 then
        some (0, Mq35)
      else
        some (1, Mq35)
  else if vq3 = 8 then
    pu (gR M 3 1) fun oq36 =>
    ck (kd oq36 = 4) <|
    pu (gI M (oq36 + 8) 0) fun vq37 =>
    b2 (fX6_below M vq37 7) fun vq38 Mq39 =>
    if vq38 = 0 then
      some (0, Mq39)
    else
      pu (gR Mq39 3 1) fun oq40 =>
      ck (kd oq40 = 4) <|
      b2 (fX6_fighterLine Mq39 (oq40 + 8)) fun vq41 Mq42 =>
      if vq41 = 0 then
        some (0, Mq42)
      else
        some (1, Mq42)
  else if vq3 = 9 then
    pu (gR M 3 1) fun oq43 =>
    ck (kd oq43 = 4) <|
    pu (gI M (oq43 + 11) 0) fun vq44 =>
    b2 (fX6_below M vq44 7) fun vq45 Mq46 =>
    if vq45 = 0 then
      some (0, Mq46)
    else
      pu (gR Mq46 3 1) fun oq47 =>
      ck (kd oq47 = 4) <|
      b2 (fX6_fighterLine Mq46 (oq47 + 11)) fun vq48 Mq49 =>
      if vq48 = 0 then
        some (0, Mq49)
      else
        some (1, Mq49)
  else if vq3 = 10 then
    b2 (fX6_once M 32) fun vq50 Mq51 =>
    if vq50 = 0 then
      some (0, Mq51)
    else
      pu (gR Mq51 3 1) fun oq52 =>
      ck (kd oq52 = 4) <|
      b2 (fX6_ruleLine Mq51 (oq52 + 15)) fun vq53 Mq54 =>
      if vq53 = 0 then
        some (0, Mq54)
      else
        some (1, Mq54)
  else if vq3 = 11 then
    b2 (fX6_once M 64) fun vq55 Mq56 =>
    if vq55 = 0 then
      some (0, Mq56)
    else
      pu (gR Mq56 3 1) fun oq57 =>
      ck (kd oq57 = 4) <|
      b2 (fX6_ruleLine Mq56 (oq57 + 16)) fun vq58 Mq59 =>
      if vq58 = 0 then
        some (0, Mq59)
      else
        some (1, Mq59)
  else 
    b2 (fX6_refuse M 1) fun vq60 Mq61 =>
    zz (vq60) <|
    some (vq60, Mq61)

-- X10_open
def fX10_open (M : Mem) (x1 : Int32) : Option Mem :=
  pu (if 700 < x1 then 700 else x1) fun vq1 =>
  pu (sI M 27 1 (vq1)) fun Mq2 =>
  pu (sI Mq2 27 2 (0)) fun Mq3 =>
  b1 (fX10_step Mq3) fun Mq4 =>
  some Mq4

-- X6_parse
def fX6_parse_l34 : Nat → Mem → Int32 → Option (Int32 × Mem)
  | 0, _, _ => none
  | n + 1, M, x2 =>
    if 700 < x2 then
      some (0, M)
    else
      pu (gI M 27 4) fun vq7 =>
      if vq7 = 0 then
        some (0, M)
      else
        b2 (fX6_line M) fun vq8 Mq9 =>
        if vq8 = 0 then
          pu (gI Mq9 3 3) fun vq11 =>
          some (vq11, Mq9)
        else
          pu (x2 + 1) fun vq10 =>
          fX6_parse_l34 n Mq9 vq10

def fX6_parse (M : Mem) (x1 : Int32) : Option (Int32 × Mem) :=
  pu (gR M 3 1) fun oq1 =>
  ck (kd oq1 = 4) <|
  b1 (fX5_clear M oq1) fun Mq2 =>
  b1 (fX3_found Mq2 21) fun Mq3 =>
  pu (sI Mq3 3 3 (0)) fun Mq4 =>
  pu (sI Mq4 3 5 (0)) fun Mq5 =>
  b1 (fX10_open Mq5 x1) fun Mq6 =>
  fX6_parse_l34 FU Mq6 0

-- X7_passAlone
def fX7_passAlone (M : Mem) (x1 : Nat) : Option Mem :=
  ck (kd x1 = 2) <| pu (gI M x1 3) fun vq1 =>
  b1 (fX7_harvestOf M vq1) fun vq2 =>
  b1 (fX7_reap M x1 vq2) fun Mq3 =>
  pu (gI Mq3 x1 4) fun vq4 =>
  b1 (fX7_wayDeed Mq3 x1 vq4) fun vq5 =>
  b2 (fX7_perform Mq3 x1 vq5) fun vq6 Mq7 =>
  b1 (fX7_age Mq7 x1) fun Mq8 =>
  some Mq8

-- X7_passMany
def fX7_passMany_l2 : Nat → Mem → Nat → Int32 → Int32 → Option Mem
  | 0, _, _, _, _ => none
  | n + 1, M, x1, x2, x3 =>
    ck (kd x1 = 2) <| if x3 < x2 then
      pu (gI M x1 3) fun vq1 =>
      b1 (fX7_harvestOf M vq1) fun vq2 =>
      pu (gI M x1 4) fun vq3 =>
      b1 (fX7_wayDeed M x1 vq3) fun vq4 =>
      b2 (fX7_live M x1 vq2 vq4) fun vq5 Mq6 =>
      pu (x3 + 1) fun vq7 =>
      fX7_passMany_l2 n Mq6 x1 x2 vq7
    else
      some M

def fX7_passMany (M : Mem) (x1 : Nat) (x2 : Int32) : Option Mem :=
  ck (kd x1 = 2) <| fX7_passMany_l2 FU M x1 x2 0

-- X9_add
def fX9_add (M : Mem) (x0 : Nat) (x1 : Int32) (x2 : Int32) : Option (Int32 × Mem) :=
  ck (kd x0 = 8) <| pu (gI M x0 0) fun vq1 =>
  if vq1 < 8 then
    pu (gI M x0 0) fun vq2 =>
    stI M (x0 + 1) 8 (vq2) (x1) fun Mq3 =>
    pu (gI Mq3 x0 0) fun vq4 =>
    stI Mq3 (x0 + 2) 8 (vq4) (x2) fun Mq5 =>
    pu (gI Mq5 x0 0) fun vq6 =>
    pu (sI Mq5 x0 0 (vq6 + 1)) fun Mq7 =>
    some (1, Mq7)
  else
    some (0, M)

-- X9_become
def fX9_become (M : Mem) (x0 : Nat) (x1 : Nat) : Option Mem :=
  ck (kd x0 = 8) <| ck (kd x1 = 8) <| pu (gI M x1 0) fun vq1 =>
  pu (sI M x0 0 (vq1)) fun Mq2 =>
  cpI Mq2 (x1 + 1) 8 (0) (x0 + 1) 8 (0) (8) fun Mq3 =>
  cpI Mq3 (x1 + 2) 8 (0) (x0 + 2) 8 (0) (8) fun Mq4 =>
  some Mq4

-- X9_last
def fX9_last_l4 : Nat → Mem → Nat → Int32 → Int32 → Option Int32
  | 0, _, _, _, _ => none
  | n + 1, M, x0, x1, x2 =>
    ck (kd x0 = 8) <| pu (gI M x0 0) fun vq1 =>
    if x2 < vq1 then
      ldI M (x0 + 1) 8 (x2) fun vq2 =>
      pu (if x1 < vq2 then vq2 else x1) fun vq3 =>
      pu (x2 + 1) fun vq4 =>
      fX9_last_l4 n M x0 vq3 vq4
    else
      some (x1)

def fX9_last (M : Mem) (x0 : Nat) : Option Int32 :=
  ck (kd x0 = 8) <| fX9_last_l4 FU M x0 0 0

-- X12_needWhat
def fX12_needWhat_b9 (M : Mem) : Option (Except Nat Unit) :=
  some (.error 1)

def fX12_needWhat (M : Mem) (x1 : Int32) (x2 : Int32) : Option (Except Nat Unit) :=
  if x1 < 0 then
    fX12_needWhat_b9 M
  else
    if x2 < x1 then
      fX12_needWhat_b9 M
    else
      some (.ok ())

-- X12_another
def fX12_another_b116 (a51 : Mem → Int32 → Int32 → Int32 → Int32 → Option (Except Nat (Int32 × Mem))) (a61 : Mem → Int32 → Int32 → Int32 → Int32 → Int32 → Option (Except Nat (Int32 × Mem))) (M : Mem) (x1 : Int32) (x2 : Int32) (x3 : Int32) (x4 : Int32) (x5 : Int32) : Option (Except Nat (Int32 × Mem)) :=
  pu (x5 + 1) fun vq7 =>
  a61 M x1 x2 x3 x4 vq7

def fX12_another_l61 (a51 : Mem → Int32 → Int32 → Int32 → Int32 → Option (Except Nat (Int32 × Mem))) : Nat → Mem → Int32 → Int32 → Int32 → Int32 → Int32 → Option (Except Nat (Int32 × Mem))
  | 0, _, _, _, _, _, _ => none
  | n + 1, M, x1, x2, x3, x4, x5 =>
    pu (gR M 28 0) fun oq2 =>
    ck (kd oq2 = 4) <|
    pu (gI M oq2 0) fun vq3 =>
    if x5 < vq3 then
      b2 (fX2_fits M 81 93 x4 x5 x2) fun vq5 Mq6 =>
      if vq5 = 0 then
        fX12_another_b116 a51 (fX12_another_l61 a51 n) Mq6 x1 x2 x3 x4 x5
      else
        if x1 = 1 then
          some (.ok ((10 * x4) + x5, Mq6))
        else
          pu (x3 + 1) fun vq8 =>
          fX12_another_b116 a51 (fX12_another_l61 a51 n) Mq6 x1 x2 vq8 x4 x5
    else
      pu (x4 + 1) fun vq4 =>
      a51 M x1 x2 x3 vq4

def fX12_another_l51 : Nat → Mem → Int32 → Int32 → Int32 → Int32 → Option (Except Nat (Int32 × Mem))
  | 0, _, _, _, _, _ => none
  | n + 1, M, x1, x2, x3, x4 =>
    if 12 < x4 then
      if x1 = 0 then
        some (.ok (x3, M))
      else
        some (.ok ((-1), M))
    else
      fX12_another_l61 (fX12_another_l51 n) FU M x1 x2 x3 x4 0

def fX12_another (M : Mem) (x1 : Int32) : Option (Except Nat (Int32 × Mem)) :=
  bE (fX12_needWhat M x1 2) fun _ =>
  b1 (fX9_last M 93) fun vq1 =>
  if x1 = 2 then
    b2 (fX2_fits M 81 93 0 (-1) vq1) fun vq9 Mq10 =>
    if vq9 = 0 then
      some (.ok (0, Mq10))
    else
      some (.ok (1, Mq10))
  else
    fX12_another_l51 FU M x1 vq1 0 1

-- X12_edge
def fX12_edge_b58 (M : Mem) (s0 : Int32) (s1 : Int32) : Option Int32 :=
  pu (gI M 81 1) fun vq6 =>
  some ((s1 + s0) - (vq6 / 10))

def fX12_edge_b40 (M : Mem) (x1 : Int32) (x3 : Nat) (s0 : Int32) : Option Int32 :=
  ck (kd x3 = 3) <| ldI M (x3 + 1) 7 (x1) fun vq5 =>
  if s0 = 0 then
    fX12_edge_b58 M 0 vq5
  else
    fX12_edge_b58 M 5 vq5

def fX12_edge (M : Mem) (x1 : Int32) (x2 : Int32) : Option Int32 :=
  pu (gR M 28 0) fun oq1 =>
  ck (kd oq1 = 4) <|
  ldI M ((oq1 + 8) + 2) 7 (x1) fun vq2 =>
  pu (gR M 28 0) fun oq3 =>
  ck (kd oq3 = 4) <|
  ldI M ((oq3 + 11) + 2) 7 (x2) fun vq4 =>
  if vq2 = vq4 then
    fX12_edge_b40 M x1 ((oq1 + 8)) 1
  else
    fX12_edge_b40 M x1 ((oq1 + 8)) 0

-- X12_beatenBy
def fX12_beatenBy_b51 (a4 : Mem → Int32 → Int32 → Int32 → Option Int32) (M : Mem) (x1 : Int32) (x2 : Int32) (x3 : Int32) : Option Int32 :=
  pu (x3 + 1) fun vq6 =>
  a4 M x1 x2 vq6

def fX12_beatenBy_l4 : Nat → Mem → Int32 → Int32 → Int32 → Option Int32
  | 0, _, _, _, _ => none
  | n + 1, M, x1, x2, x3 =>
    pu (gR M 28 0) fun oq1 =>
    ck (kd oq1 = 4) <|
    pu (gI M (oq1 + 11) 0) fun vq2 =>
    if x3 < vq2 then
      b1 (fX12_edge M x1 x3) fun vq3 =>
      pu (gR M 28 0) fun oq4 =>
      ck (kd oq4 = 4) <|
      ldI M ((oq4 + 11) + 1) 7 (x3) fun vq5 =>
      if vq5 < vq3 then
        pu (x2 ||| ((1 : Int32) <<< (x3 &&& 31 : Int32))) fun vq7 =>
        fX12_beatenBy_b51 (fX12_beatenBy_l4 n) M x1 vq7 x3
      else
        fX12_beatenBy_b51 (fX12_beatenBy_l4 n) M x1 x2 x3
    else
      some (x2)

def fX12_beatenBy (M : Mem) (x1 : Int32) : Option Int32 :=
  fX12_beatenBy_l4 FU M x1 0 0

-- X12_fillReach
def fX12_fillReach_b145 (a54 : Mem → Int32 → Int32 → Int32 → Option Mem) (a73 : Mem → Int32 → Int32 → Int32 → Int32 → Int32 → Option Mem) (a81 : Mem → Int32 → Int32 → Int32 → Int32 → Int32 → Int32 → Option Mem) (M : Mem) (x1 : Int32) (x2 : Int32) (x3 : Int32) (x4 : Int32) (x5 : Int32) (x6 : Int32) : Option Mem :=
  pu (x6 + 1) fun vq11 =>
  a81 M x1 x2 x3 x4 x5 vq11

def fX12_fillReach_l81 (a54 : Mem → Int32 → Int32 → Int32 → Option Mem) (a73 : Mem → Int32 → Int32 → Int32 → Int32 → Int32 → Option Mem) : Nat → Mem → Int32 → Int32 → Int32 → Int32 → Int32 → Int32 → Option Mem
  | 0, _, _, _, _, _, _, _ => none
  | n + 1, M, x1, x2, x3, x4, x5, x6 =>
    if x6 < x2 then
      pu ((1 : Int32) <<< (x6 &&& 31 : Int32)) fun vq10 =>
      if (x5 &&& x4) &&& vq10 = 0 then
        fX12_fillReach_b145 a54 a73 (fX12_fillReach_l81 a54 a73 n) M x1 x2 x3 x4 x5 x6
      else
        ldI M 102 128 (x5 ^^^ vq10) fun vq12 =>
        ldI M 102 128 (x5) fun vq13 =>
        if vq13 < vq12 + 1 then
          ldI M 102 128 (x5 ^^^ vq10) fun vq14 =>
          stI M 102 128 (x5) (vq14 + 1) fun Mq15 =>
          fX12_fillReach_b145 a54 a73 (fX12_fillReach_l81 a54 a73 n) Mq15 x1 x2 x3 x4 x5 x6
        else
          fX12_fillReach_b145 a54 a73 (fX12_fillReach_l81 a54 a73 n) M x1 x2 x3 x4 x5 x6
    else
      pu (x5 + (-1)) fun vq9 =>
      a73 M x1 x2 x3 x4 vq9

def fX12_fillReach_l73 (a54 : Mem → Int32 → Int32 → Int32 → Option Mem) : Nat → Mem → Int32 → Int32 → Int32 → Int32 → Int32 → Option Mem
  | 0, _, _, _, _, _, _ => none
  | n + 1, M, x1, x2, x3, x4, x5 =>
    if 0 < x5 then
      fX12_fillReach_l81 a54 (fX12_fillReach_l73 a54 n) FU M x1 x2 x3 x4 x5 0
    else
      pu (x3 + (-1)) fun vq8 =>
      a54 M x1 x2 vq8

def fX12_fillReach_l54 : Nat → Mem → Int32 → Int32 → Int32 → Option Mem
  | 0, _, _, _, _ => none
  | n + 1, M, x1, x2, x3 =>
    if x3 < x1 then
      some M
    else
      b1 (fX12_beatenBy M x3) fun vq6 =>
      pu (((1 : Int32) <<< (x2 &&& 31 : Int32)) - 1) fun vq7 =>
      fX12_fillReach_l73 (fX12_fillReach_l54 n) FU M x1 x2 x3 vq6 vq7

def fX12_fillReach_l16 : Nat → Mem → Int32 → Int32 → Int32 → Option Mem
  | 0, _, _, _, _ => none
  | n + 1, M, x1, x2, x3 =>
    if x3 < 128 then
      stI M 102 128 (x3) (0) fun Mq16 =>
      pu (x3 + 1) fun vq17 =>
      fX12_fillReach_l16 n Mq16 x1 x2 vq17
    else
      pu (gR M 28 0) fun oq3 =>
      ck (kd oq3 = 4) <|
      pu (gI M (oq3 + 8) 0) fun vq4 =>
      pu (vq4 - 1) fun vq5 =>
      fX12_fillReach_l54 FU M x1 x2 vq5

def fX12_fillReach (M : Mem) (x1 : Int32) : Option Mem :=
  pu (gR M 28 0) fun oq1 =>
  ck (kd oq1 = 4) <|
  pu (gI M (oq1 + 11) 0) fun vq2 =>
  fX12_fillReach_l16 FU M x1 vq2 0

-- X12_needChampion
def fX12_needChampion_b21 (M : Mem) : Option (Except Nat Unit) :=
  some (.error 1)

def fX12_needChampion (M : Mem) (x1 : Int32) : Option (Except Nat Unit) :=
  if x1 < 0 then
    fX12_needChampion_b21 M
  else
    pu (gR M 28 0) fun oq1 =>
    ck (kd oq1 = 4) <|
    pu (gI M (oq1 + 8) 0) fun vq2 =>
    if x1 < vq2 then
      some (.ok ())
    else
      fX12_needChampion_b21 M

-- X12_bestGate
def fX12_bestGate_b70 (a17 : Mem → Int32 → Int32 → Int32 → Int32 → Int32 → Option Int32) (M : Mem) (x2 : Int32) (x3 : Int32) (x4 : Int32) (x5 : Int32) (x6 : Int32) : Option Int32 :=
  pu (x6 + 1) fun vq5 =>
  a17 M x2 x3 x4 x5 vq5

def fX12_bestGate_l17 : Nat → Mem → Int32 → Int32 → Int32 → Int32 → Int32 → Option Int32
  | 0, _, _, _, _, _, _ => none
  | n + 1, M, x2, x3, x4, x5, x6 =>
    if x6 < 7 then
      pu ((1 : Int32) <<< (x6 &&& 31 : Int32)) fun vq4 =>
      if x3 &&& vq4 = 0 then
        fX12_bestGate_b70 (fX12_bestGate_l17 n) M x2 x3 x4 x5 x6
      else
        ldI M 102 128 (x2 ^^^ vq4) fun vq6 =>
        if x5 < vq6 + 1 then
          ldI M 102 128 (x2 ^^^ vq4) fun vq7 =>
          pu (vq7 + 1) fun vq8 =>
          fX12_bestGate_b70 (fX12_bestGate_l17 n) M x2 x3 x6 vq8 x6
        else
          fX12_bestGate_b70 (fX12_bestGate_l17 n) M x2 x3 x4 x5 x6
    else
      ldI M 102 128 (x2) fun vq3 =>
      if x5 < vq3 then
        some ((-1))
      else
        some (x4)

def fX12_bestGate (M : Mem) (x1 : Int32) (x2 : Int32) : Option Int32 :=
  b1 (fX12_beatenBy M x1) fun vq1 =>
  pu (vq1 &&& x2) fun vq2 =>
  fX12_bestGate_l17 FU M x2 vq2 (-1) 0 0

-- X12_assault
def fX12_assault_b80 (a45 : Mem → Int32 → Int32 → Int32 → Int32 → Option (Except Nat (Int32 × Mem))) (M : Mem) (x1 : Int32) (x2 : Int32) (x3 : Int32) (x4 : Int32) : Option (Except Nat (Int32 × Mem)) :=
  pu (x4 + 1) fun vq6 =>
  a45 M x1 x2 x3 vq6

def fX12_assault_l45 : Nat → Mem → Int32 → Int32 → Int32 → Int32 → Option (Except Nat (Int32 × Mem))
  | 0, _, _, _, _, _ => none
  | n + 1, M, x1, x2, x3, x4 =>
    if x1 < x4 then
      some (.ok (x3, M))
    else
      b1 (fX12_fillReach M (x4 + 1)) fun Mq4 =>
      b1 (fX12_bestGate Mq4 x4 x2) fun vq5 =>
      if vq5 = (-1) then
        fX12_assault_b80 (fX12_assault_l45 n) Mq4 x1 x2 vq5 x4
      else
        pu (x2 &&& (((1 : Int32) <<< (vq5 &&& 31 : Int32)) ^^^ (-1))) fun vq7 =>
        fX12_assault_b80 (fX12_assault_l45 n) Mq4 x1 vq7 vq5 x4

def fX12_assault (M : Mem) (x1 : Int32) : Option (Except Nat (Int32 × Mem)) :=
  pu (gR M 28 0) fun oq1 =>
  ck (kd oq1 = 4) <|
  pu (gI M (oq1 + 11) 0) fun vq2 =>
  pu (((1 : Int32) <<< (vq2 &&& 31 : Int32)) - 1) fun vq3 =>
  if x1 = (-1) then
    b1 (fX12_fillReach M 0) fun Mq8 =>
    ldI Mq8 102 128 (vq3) fun vq9 =>
    some (.ok (vq9, Mq8))
  else
    bE (fX12_needChampion M x1) fun _ =>
    fX12_assault_l45 FU M x1 vq3 (-1) 0

-- X12_better
def fX12_better_b83 (a21 : Mem → Int32 → Int32 → Int32 → Option (Except Nat (Int32 × Mem))) (M : Mem) (x1 : Int32) (x3 : Int32) (s0 : Int32) (s1 : Int32) : Option (Except Nat (Int32 × Mem)) :=
  pu (s1 + s0) fun vq8 =>
  pu (x3 + 1) fun vq9 =>
  a21 M x1 vq8 vq9

def fX12_better_l21 : Nat → Mem → Int32 → Int32 → Int32 → Option (Except Nat (Int32 × Mem))
  | 0, _, _, _, _ => none
  | n + 1, M, x1, x2, x3 =>
    if x3 < 60 then
      pu (gI M 86 4) fun vq3 =>
      b1 (fX3_wealth M 86) fun vq4 =>
      b1 (fX7_passMany M 86 1) fun Mq5 =>
      b1 (fX3_wealth Mq5 86) fun vq6 =>
      pu (vq6 - vq4) fun vq7 =>
      if vq3 = 0 then
        fX12_better_b83 (fX12_better_l21 n) Mq5 x1 x3 vq7 x2
      else
        fX12_better_b83 (fX12_better_l21 n) Mq5 x1 x3 (-vq7) x2
    else
      if x1 = 0 then
        if x2 < 0 then
          some (.ok (1, M))
        else
          some (.ok (0, M))
      else
        pu (if 0 ≤ x2 then x2 else 0 - (x2)) fun vq2 =>
        some (.ok (vq2, M))

def fX12_better (M : Mem) (x1 : Int32) : Option (Except Nat (Int32 × Mem)) :=
  bE (fX12_needWhat M x1 1) fun _ =>
  b1 (fX3_become M 86 81) fun Mq1 =>
  fX12_better_l21 FU Mq1 x1 0 0

-- X12_bought
def fX12_bought_b122 (a13 : Mem → Int32 → Int32 → Int32 → Int32 → Option (Except Nat Int32)) (M : Mem) (x1 : Int32) (x2 : Int32) (x3 : Int32) (x4 : Int32) : Option (Except Nat Int32) :=
  pu (x4 + 1) fun vq9 =>
  a13 M x1 x2 x3 vq9

def fX12_bought_b110 (a13 : Mem → Int32 → Int32 → Int32 → Int32 → Option (Except Nat Int32)) (M : Mem) (x1 : Int32) (x4 : Int32) (x5 : Int32) (x6 : Int32) : Option (Except Nat Int32) :=
  pu (((x4 : Int32) <<< (7 &&& 31 : Int32)) ||| x5) fun vq8 =>
  fX12_bought_b122 a13 M x1 x6 vq8 x4

def fX12_bought_b80 (a13 : Mem → Int32 → Int32 → Int32 → Int32 → Option (Except Nat Int32)) (a39 : Mem → Int32 → Int32 → Int32 → Int32 → Int32 → Int32 → Option (Except Nat Int32)) (M : Mem) (x1 : Int32) (x2 : Int32) (x3 : Int32) (x4 : Int32) (x5 : Int32) (x6 : Int32) : Option (Except Nat Int32) :=
  pu (x6 + 1) fun vq11 =>
  a39 M x1 x2 x3 x4 x5 vq11

def fX12_bought_l39 (a13 : Mem → Int32 → Int32 → Int32 → Int32 → Option (Except Nat Int32)) : Nat → Mem → Int32 → Int32 → Int32 → Int32 → Int32 → Int32 → Option (Except Nat Int32)
  | 0, _, _, _, _, _, _, _ => none
  | n + 1, M, x1, x2, x3, x4, x5, x6 =>
    pu (gR M 28 0) fun oq3 =>
    ck (kd oq3 = 4) <|
    pu (gI M (oq3 + 8) 0) fun vq4 =>
    if x6 < vq4 then
      b1 (fX12_beatenBy M x6) fun vq10 =>
      if vq10 &&& (x4 ^^^ (-1)) = 0 then
        fX12_bought_b80 a13 (fX12_bought_l39 a13 n) M x1 x2 x3 x4 x5 x6
      else
        pu (x5 ||| ((1 : Int32) <<< (x6 &&& 31 : Int32))) fun vq12 =>
        fX12_bought_b80 a13 (fX12_bought_l39 a13 n) M x1 x2 x3 x4 vq12 x6
    else
      b1 (fJ6_bitCount_0f7a4 x4) fun vq5 =>
      b1 (fJ6_bitCount_0f7a4 x5) fun vq6 =>
      pu (vq5 + vq6) fun vq7 =>
      if x4 = 0 then
        fX12_bought_b110 a13 M x1 x4 x5 vq7
      else
        if vq7 < x2 then
          fX12_bought_b110 a13 M x1 x4 x5 vq7
        else
          fX12_bought_b122 a13 M x1 x2 x3 x4

def fX12_bought_l13 : Nat → Mem → Int32 → Int32 → Int32 → Int32 → Option (Except Nat Int32)
  | 0, _, _, _, _, _ => none
  | n + 1, M, x1, x2, x3, x4 =>
    pu (gR M 28 0) fun oq1 =>
    ck (kd oq1 = 4) <|
    pu (gI M (oq1 + 11) 0) fun vq2 =>
    if x4 < (1 : Int32) <<< (vq2 &&& 31 : Int32) then
      fX12_bought_l39 (fX12_bought_l13 n) FU M x1 x2 x3 x4 0 0
    else
      if x1 = 0 then
        some (.ok (x2))
      else
        some (.ok (x3))

def fX12_bought (M : Mem) (x1 : Int32) : Option (Except Nat Int32) :=
  bE (fX12_needWhat M x1 1) fun _ =>
  fX12_bought_l13 FU M x1 0 0 0

-- X12_needBrother
def fX12_needBrother (M : Mem) (x1 : Int32) : Option (Except Nat Unit) :=
  if x1 = 0 then
    some (.ok ())
  else
    if x1 = 1 then
      some (.ok ())
    else
      some (.error 1)

-- X12_brother
def fX12_brother (M : Mem) (x1 : Int32) (x2 : Int32) : Option (Except Nat (Int32 × Mem)) :=
  bE (fX12_needBrother M x1) fun _ =>
  if x2 = 0 then
    ldI M 83 2 (x1) fun vq1 =>
    some (.ok (vq1, M))
  else if x2 = 1 then
    ldI M 82 2 (x1) fun vq2 =>
    some (.ok (vq2, M))
  else if x2 = 2 then
    pu (gR M 28 0) fun oq3 =>
    ck (kd oq3 = 4) <|
    ldI M (oq3 + 5) 2 (x1) fun vq4 =>
    some (.ok (vq4, M))
  else if x2 = 3 then
    b2 (fX7_followers M 81 x1) fun vq5 Mq6 =>
    some (.ok (vq5, Mq6))
  else if x2 = 4 then
    b2 (fX7_followers M 81 x1) fun vq7 Mq8 =>
    b1 (fX7_menOf Mq8 vq7) fun vq9 =>
    some (.ok (vq9, Mq8))
  else if x2 = 5 then
    b1 (fX7_wayDeed M 81 x1) fun vq10 =>
    some (.ok (vq10, M))
  else 
    some (.error 1)

-- X12_chances
def fX12_chances_b44 (a6 : Int32 → Int32 → Int32 → Int32 → Int32 → Option Int32) (x1 : Int32) (x2 : Int32) (x3 : Int32) (x4 : Int32) (x5 : Int32) : Option Int32 :=
  pu (x5 + 1) fun vq1 =>
  a6 x1 x2 x3 x4 vq1

def fX12_chances_b41 (a6 : Int32 → Int32 → Int32 → Int32 → Int32 → Option Int32) (x1 : Int32) (x2 : Int32) (x3 : Int32) (x5 : Int32) (s0 : Int32) (s1 : Int32) : Option Int32 :=
  pu (s1 * s0) fun vq2 =>
  fX12_chances_b44 a6 x1 x2 x3 vq2 x5

def fX12_chances_l6 : Nat → Int32 → Int32 → Int32 → Int32 → Int32 → Option Int32
  | 0, _, _, _, _, _ => none
  | n + 1, x1, x2, x3, x4, x5 =>
    if x5 < 6 then
      if ((x1 : Int32) >>> (x5 &&& 31 : Int32)) &&& 1 = 0 then
        fX12_chances_b44 (fX12_chances_l6 n) x1 x2 x3 x4 x5
      else
        if ((x2 : Int32) >>> (x5 &&& 31 : Int32)) &&& 1 = 0 then
          fX12_chances_b41 (fX12_chances_l6 n) x1 x2 x3 x5 (10 - x3) x4
        else
          fX12_chances_b41 (fX12_chances_l6 n) x1 x2 x3 x5 x3 x4
    else
      some (x4)

def fX12_chances (x1 : Int32) (x2 : Int32) (x3 : Int32) : Option Int32 :=
  fX12_chances_l6 FU x1 x2 x3 1 0

-- X12_needDeed
def fX12_needDeed_b18 (M : Mem) : Option (Except Nat Unit) :=
  some (.error 1)

def fX12_needDeed (M : Mem) (x1 : Int32) : Option (Except Nat Unit) :=
  if x1 < 0 then
    fX12_needDeed_b18 M
  else
    pu (gR M 28 0) fun oq1 =>
    ck (kd oq1 = 4) <|
    pu (gI M oq1 0) fun vq2 =>
    if x1 < vq2 then
      some (.ok ())
    else
      fX12_needDeed_b18 M

-- X12_hasPlace
def fX12_hasPlace (M : Mem) (x1 : Int32) (x2 : Int32) : Option Int32 :=
  if x2 < 0 then
    some (0)
  else
    pu (gR M 28 0) fun oq1 =>
    ck (kd oq1 = 4) <|
    ldI M (oq1 + 5) 2 (x1) fun vq2 =>
    if x2 < vq2 then
      some (1)
    else
      some (0)

-- X12_refuse
def fX12_refuse (M : Mem) (x1 : Int32) : Option (Int32 × Mem) :=
  ldI M 2 3 (x1) fun vq1 =>
  stI M 2 3 (x1) (vq1 + 1) fun Mq2 =>
  some ((-1), Mq2)

-- X12_change
def fX12_change (M : Mem) (x1 : Int32) (x2 : Int32) (x3 : Int32) : Option (Except Nat (Int32 × Mem)) :=
  bE (fX12_needBrother M x1) fun _ =>
  bE (fX12_needDeed M x3) fun _ =>
  b1 (fX12_hasPlace M x1 x2) fun vq1 =>
  if vq1 = 0 then
    b2 (fX12_refuse M 1) fun vq6 Mq7 =>
    some (.ok (vq6, Mq7))
  else
    b1 (fX1_keep M 91 81) fun Mq2 =>
    pu ((x1 * 6) + x2) fun vq3 =>
    ldI Mq2 84 12 (vq3) fun vq4 =>
    stI Mq2 84 12 (vq3) (x3) fun Mq5 =>
    some (.ok (vq4, Mq5))

-- X12_needWithin
def fX12_needWithin_b10 (M : Mem) : Option (Except Nat Unit) :=
  some (.error 2)

def fX12_needWithin (M : Mem) (x1 : Int32) (x2 : Int32) (x3 : Int32) : Option (Except Nat Unit) :=
  if x1 < x2 then
    fX12_needWithin_b10 M
  else
    if x3 < x1 then
      fX12_needWithin_b10 M
    else
      some (.ok ())

-- X12_followingSeed
def fX12_followingSeed (x0 : Int32) : Option Int32 :=
  some ((x0 * 1103515245) + 12345)

-- X12_cities
def fX12_cities_b87 (a31 : Mem → Int32 → Int32 → Int32 → Int32 → Option (Except Nat (Int32 × Mem))) (M : Mem) (x2 : Int32) (x3 : Int32) (x4 : Int32) (x5 : Int32) (x6 : Int32) : Option (Except Nat (Int32 × Mem)) :=
  pu (gI M 86 4) fun vq9 =>
  b1 (fX7_wayDeed M 86 vq9) fun vq10 =>
  b2 (fX7_live M 86 x6 vq10) fun vq11 Mq12 =>
  pu (x5 + 1) fun vq13 =>
  a31 Mq12 x2 x3 x4 vq13

def fX12_cities_l31 : Nat → Mem → Int32 → Int32 → Int32 → Int32 → Option (Except Nat (Int32 × Mem))
  | 0, _, _, _, _, _ => none
  | n + 1, M, x2, x3, x4, x5 =>
    if x5 < x2 then
      b1 (fX12_followingSeed x4) fun vq6 =>
      pu ((((vq6.toUInt32 >>> (Int32.toUInt32 16 &&& Int32.toUInt32 31)).toInt32) &&& 32767) - (((vq6.toUInt32 >>> (Int32.toUInt32 16 &&& Int32.toUInt32 31)).toInt32) &&& 32767) / 60 * 60) fun vq7 =>
      b1 (fX12_followingSeed vq6) fun vq8 =>
      if (((vq8.toUInt32 >>> (Int32.toUInt32 16 &&& Int32.toUInt32 31)).toInt32) &&& 32767) - (((vq8.toUInt32 >>> (Int32.toUInt32 16 &&& Int32.toUInt32 31)).toInt32) &&& 32767) / 9 * 9 = 0 then
        b1 (fX3_handOver M 86) fun Mq14 =>
        fX12_cities_b87 (fX12_cities_l31 n) Mq14 x2 x3 vq8 x5 vq7
      else
        fX12_cities_b87 (fX12_cities_l31 n) M x2 x3 vq8 x5 vq7
    else
      if x3 = 0 then
        pu (gI M 86 0) fun vq2 =>
        some (.ok (vq2, M))
      else if x3 = 1 then
        pu (gI M 86 2) fun vq3 =>
        some (.ok (vq3, M))
      else 
        ldI M 88 2 (0) fun vq4 =>
        ldI M 88 2 (1) fun vq5 =>
        some (.ok (vq4 - vq5, M))

def fX12_cities (M : Mem) (x1 : Int32) (x2 : Int32) (x3 : Int32) : Option (Except Nat (Int32 × Mem)) :=
  bE (fX12_needWhat M x3 2) fun _ =>
  bE (fX12_needWithin M x2 0 60) fun _ =>
  b1 (fX3_become M 86 81) fun Mq1 =>
  fX12_cities_l31 FU Mq1 x2 x3 x1 0

-- X12_cost
def fX12_cost_l52 : Nat → Mem → Int32 → Int32 → Int32 → Option (Except Nat (Int32 × Mem))
  | 0, _, _, _, _ => none
  | n + 1, M, x1, x2, x3 =>
    if x3 < x1 then
      b1 (fX7_passAlone M 86) fun Mq6 =>
      pu (x3 + 1) fun vq7 =>
      fX12_cost_l52 n Mq6 x1 x2 vq7
    else
      b1 (fX3_wealth M 86) fun vq5 =>
      some (.ok (vq5 - x2, M))

def fX12_cost (M : Mem) (x1 : Int32) : Option (Except Nat (Int32 × Mem)) :=
  bE (fX12_needWithin M x1 1 60) fun _ =>
  b1 (fX3_become M 86 81) fun Mq1 =>
  b1 (fX7_passMany Mq1 86 x1) fun Mq2 =>
  b1 (fX3_wealth Mq2 86) fun vq3 =>
  b1 (fX3_become Mq2 86 81) fun Mq4 =>
  fX12_cost_l52 FU Mq4 x1 vq3 0

-- X12_count
def fX12_count (M : Mem) (x1 : Int32) : Option (Except Nat Int32) :=
  if x1 = 0 then
    pu (gI M 81 0) fun vq1 =>
    some (.ok (vq1))
  else if x1 = 1 then
    pu (gI M 81 1) fun vq2 =>
    some (.ok (vq2))
  else if x1 = 2 then
    pu (gI M 81 2) fun vq3 =>
    some (.ok (vq3))
  else if x1 = 3 then
    pu (gI M 81 3) fun vq4 =>
    some (.ok (vq4))
  else if x1 = 4 then
    pu (gI M 81 4) fun vq5 =>
    some (.ok (vq5))
  else if x1 = 5 then
    pu (gI M 81 5) fun vq6 =>
    some (.ok (vq6))
  else if x1 = 6 then
    pu (gI M 81 8) fun vq7 =>
    some (.ok (vq7))
  else if x1 = 7 then
    pu (gI M 81 6) fun vq8 =>
    some (.ok (vq8))
  else if x1 = 8 then
    pu (gI M 81 7) fun vq9 =>
    some (.ok (vq9))
  else if x1 = 9 then
    pu (gR M 28 0) fun oq10 =>
    ck (kd oq10 = 4) <|
    pu (gI M oq10 0) fun vq11 =>
    some (.ok (vq11))
  else if x1 = 10 then
    pu (gR M 28 0) fun oq12 =>
    ck (kd oq12 = 4) <|
    pu (gI M oq12 8) fun vq13 =>
    some (.ok (vq13))
  else if x1 = 11 then
    pu (gR M 28 0) fun oq14 =>
    ck (kd oq14 = 4) <|
    pu (gI M (oq14 + 8) 0) fun vq15 =>
    some (.ok (vq15))
  else if x1 = 12 then
    pu (gR M 28 0) fun oq16 =>
    ck (kd oq16 = 4) <|
    pu (gI M (oq16 + 11) 0) fun vq17 =>
    some (.ok (vq17))
  else if x1 = 13 then
    pu (gI M 91 0) fun vq18 =>
    some (.ok (vq18))
  else if x1 = 14 then
    pu (gI M 93 0) fun vq19 =>
    some (.ok (vq19))
  else if x1 = 15 then
    pu (gI M 0 1) fun vq20 =>
    some (.ok (vq20))
  else if x1 = 16 then
    ldI M 2 3 (0) fun vq21 =>
    some (.ok (vq21))
  else if x1 = 17 then
    ldI M 2 3 (1) fun vq22 =>
    some (.ok (vq22))
  else if x1 = 18 then
    ldI M 2 3 (2) fun vq23 =>
    some (.ok (vq23))
  else 
    some (.error 1)

-- X12_deed
def fX12_deed (M : Mem) (x1 : Int32) (x2 : Int32) : Option (Except Nat Int32) :=
  bE (fX12_needDeed M x1) fun _ =>
  pu (gR M 28 0) fun oq1 =>
  ck (kd oq1 = 4) <|
  if x2 = 0 then
    ldI M (oq1 + 1) 7 (x1) fun vq2 =>
    some (.ok (vq2))
  else if x2 = 1 then
    ldI M (oq1 + 2) 7 (x1) fun vq3 =>
    some (.ok (vq3))
  else if x2 = 2 then
    ldI M (oq1 + 3) 7 (x1) fun vq4 =>
    some (.ok (vq4))
  else if x2 = 3 then
    ldI M (oq1 + 4) 7 (x1) fun vq5 =>
    some (.ok (vq5))
  else if x2 = 4 then
    ldI M (oq1 + 1) 7 (x1) fun vq6 =>
    pu (gI M 81 0) fun vq7 =>
    if vq7 < vq6 then
      some (.ok (0))
    else
      some (.ok (1))
  else 
    some (.error 1)

-- X12_passWithTerm
def fX12_passWithTerm (M : Mem) (x1 : Int32) : Option Mem :=
  b1 (fX3_become M 86 81) fun Mq1 =>
  pu (sI Mq1 86 8 (x1)) fun Mq2 =>
  b1 (fX7_passMany Mq2 86 30) fun Mq3 =>
  some Mq3

-- X12_fair
def fX12_fair_l2 : Nat → Mem → Int32 → Option (Int32 × Mem)
  | 0, _, _ => none
  | n + 1, M, x1 =>
    if 5 < x1 then
      some ((-1), M)
    else
      b1 (fX12_passWithTerm M x1) fun Mq1 =>
      pu (gI Mq1 86 7) fun vq2 =>
      pu (gI Mq1 81 7) fun vq3 =>
      if vq2 = vq3 then
        some (x1, Mq1)
      else
        pu (x1 + 1) fun vq4 =>
        fX12_fair_l2 n Mq1 vq4

def fX12_fair (M : Mem) : Option (Int32 × Mem) :=
  fX12_fair_l2 FU M 1

-- X12_fault
def fX12_fault (M : Mem) : Option Int32 :=
  pu (gI M 0 2) fun vq1 =>
  some (vq1)

-- X12_tapeNumber
def fX12_tapeNumber_b42 (a3 : Mem → Int32 → Int32 → Option Mem) (M : Mem) (x1 : Int32) (x2 : Int32) : Option Mem :=
  pu (x2 + (-8)) fun vq2 =>
  a3 M x1 vq2

def fX12_tapeNumber_l3 : Nat → Mem → Int32 → Int32 → Option Mem
  | 0, _, _, _ => none
  | n + 1, M, x1, x2 =>
    if x2 < 0 then
      some M
    else
      pu (gI M 0 1) fun vq1 =>
      if vq1 < 700 then
        pu (gI M 0 1) fun vq3 =>
        stI M 1 700 (vq3) (vp_nar .byte ((Int32.toInt8 ((x1 : Int32) >>> (x2 &&& 31 : Int32))).toInt32)) fun Mq4 =>
        pu (gI Mq4 0 1) fun vq5 =>
        pu (sI Mq4 0 1 (vq5 + 1)) fun Mq6 =>
        fX12_tapeNumber_b42 (fX12_tapeNumber_l3 n) Mq6 x1 x2
      else
        fX12_tapeNumber_b42 (fX12_tapeNumber_l3 n) M x1 x2

def fX12_tapeNumber (M : Mem) (x1 : Int32) : Option Mem :=
  fX12_tapeNumber_l3 FU M x1 24

-- X12_feed
def fX12_feed (M : Mem) (x1 : Int32) (x2 : Int32) (x3 : Int32) (x4 : Int32) (x5 : Int32) : Option (Int32 × Mem) :=
  pu (gI M 0 1) fun vq1 =>
  if 700 < vq1 + 20 then
    some ((-1), M)
  else
    b1 (fX12_tapeNumber M x1) fun Mq2 =>
    b1 (fX12_tapeNumber Mq2 x2) fun Mq3 =>
    b1 (fX12_tapeNumber Mq3 x3) fun Mq4 =>
    b1 (fX12_tapeNumber Mq4 x4) fun Mq5 =>
    b1 (fX12_tapeNumber Mq5 x5) fun Mq6 =>
    pu (gI Mq6 0 1) fun vq7 =>
    some (vq7, Mq6)

-- X12_forget
def fX12_forget (M : Mem) : Option Mem :=
  pu (sI M 93 0 (0)) fun Mq1 =>
  some Mq1

-- X12_needFriend
def fX12_needFriend_b18 (M : Mem) : Option (Except Nat Unit) :=
  some (.error 1)

def fX12_needFriend (M : Mem) (x1 : Int32) : Option (Except Nat Unit) :=
  if x1 < 0 then
    fX12_needFriend_b18 M
  else
    pu (gR M 28 0) fun oq1 =>
    ck (kd oq1 = 4) <|
    pu (gI M oq1 8) fun vq2 =>
    if x1 < vq2 then
      some (.ok ())
    else
      fX12_needFriend_b18 M

-- X12_friend
def fX12_friend (M : Mem) (x1 : Int32) (x2 : Int32) : Option (Except Nat (Int32 × Mem)) :=
  bE (fX12_needFriend M x1) fun _ =>
  if x2 = 0 then
    ldI M 85 6 (x1) fun vq1 =>
    some (.ok (vq1, M))
  else if x2 = 1 then
    pu (gR M 28 0) fun oq2 =>
    ck (kd oq2 = 4) <|
    ldI M (oq2 + 7) 6 (x1) fun vq3 =>
    some (.ok (vq3, M))
  else if x2 = 2 then
    b2 (fX7_followers M 81 1) fun vq4 Mq5 =>
    some (.ok (((vq4 : Int32) >>> (x1 &&& 31 : Int32)) &&& 1, Mq5))
  else if x2 = 3 then
    b2 (fX7_liking M 81 x1 0) fun vq6 Mq7 =>
    some (.ok (vq6, Mq7))
  else if x2 = 4 then
    b2 (fX7_liking M 81 x1 1) fun vq8 Mq9 =>
    some (.ok (vq8, Mq9))
  else 
    some (.error 1)

-- X12_game
def fX12_game_b95 (a54 : Mem → Int32 → Int32 → Int32 → Int32 → Option (Except Nat (Int32 × Mem))) (M : Mem) (x3 : Int32) (x4 : Int32) (x5 : Int32) (x6 : Int32) : Option (Except Nat (Int32 × Mem)) :=
  pu (x6 + 1) fun vq3 =>
  a54 M x3 x4 x5 vq3

def fX12_game_l54 : Nat → Mem → Int32 → Int32 → Int32 → Int32 → Option (Except Nat (Int32 × Mem))
  | 0, _, _, _, _, _ => none
  | n + 1, M, x3, x4, x5, x6 =>
    if x6 < 4 then
      b1 (fX2_isAtRest M x6) fun vq2 =>
      if vq2 = 0 then
        fX12_game_b95 (fX12_game_l54 n) M x3 x4 x5 x6
      else
        pu (x4 + 1) fun vq4 =>
        if x5 = (-1) then
          pu ((10 * ((x6 : Int32) >>> (1 &&& 31 : Int32))) + (x6 &&& 1)) fun vq5 =>
          fX12_game_b95 (fX12_game_l54 n) M x3 vq4 vq5 x6
        else
          fX12_game_b95 (fX12_game_l54 n) M x3 vq4 x5 x6
    else
      if x3 = 0 then
        some (.ok (x4, M))
      else
        some (.ok (x5, M))

def fX12_game (M : Mem) (x1 : Int32) (x2 : Int32) (x3 : Int32) : Option (Except Nat (Int32 × Mem)) :=
  bE (fX12_needDeed M x1) fun _ =>
  bE (fX12_needDeed M x2) fun _ =>
  bE (fX12_needWhat M x3 1) fun _ =>
  if x1 = x2 then
    some (.error 2)
  else
    b1 (fX2_playOut M 81 x1 x2) fun Mq1 =>
    fX12_game_l54 FU Mq1 x3 0 (-1) 0

-- X12_gift
def fX12_gift_b27 (M : Mem) : Option (Except Nat (Int32 × Mem)) :=
  b2 (fX12_refuse M 1) fun vq1 Mq2 =>
  some (.ok (vq1, Mq2))

def fX12_gift_b83 (M : Mem) (x1 : Int32) (s0 : Int32) (s1 : Int32) : Option (Except Nat (Int32 × Mem)) :=
  pu (s1 + s0) fun vq9 =>
  pu (if vq9 < 9 then vq9 else 9) fun vq10 =>
  pu (if (-9) < vq10 then vq10 else (-9)) fun vq11 =>
  stI M 85 6 (x1) (vq11) fun Mq12 =>
  ldI Mq12 85 6 (x1) fun vq13 =>
  some (.ok (vq13, Mq12))

def fX12_gift (M : Mem) (x1 : Int32) (x2 : Int32) : Option (Except Nat (Int32 × Mem)) :=
  bE (fX12_needFriend M x1) fun _ =>
  if x2 < 1 then
    fX12_gift_b27 M
  else
    if 9 < x2 then
      fX12_gift_b27 M
    else
      pu (gI M 81 0) fun vq3 =>
      if vq3 < x2 then
        fX12_gift_b27 M
      else
        b1 (fX1_keep M 91 81) fun Mq4 =>
        pu (gI Mq4 81 0) fun vq5 =>
        pu (sI Mq4 81 0 (vq5 - x2)) fun Mq6 =>
        ldI Mq6 85 6 (x1) fun vq7 =>
        pu (gI Mq6 81 4) fun vq8 =>
        if vq8 = 1 then
          fX12_gift_b83 Mq6 x1 x2 vq7
        else
          fX12_gift_b83 Mq6 x1 (-x2) vq7

-- X12_gloryWithSwap
def fX12_gloryWithSwap (M : Mem) (x1 : Int32) (x2 : Int32) (x3 : Int32) : Option (Int32 × Mem) :=
  b1 (fX3_become M 86 81) fun Mq1 =>
  pu (x1 * 6) fun vq2 =>
  ldI Mq1 84 12 (vq2 + x3) fun vq3 =>
  stI Mq1 89 12 (vq2 + x2) (vq3) fun Mq4 =>
  ldI Mq4 84 12 (vq2 + x2) fun vq5 =>
  stI Mq4 89 12 (vq2 + x3) (vq5) fun Mq6 =>
  b1 (fX7_passMany Mq6 86 30) fun Mq7 =>
  ldI Mq7 88 2 (x1) fun vq8 =>
  some (vq8, Mq7)

-- X12_needGate
def fX12_needGate_b21 (M : Mem) : Option (Except Nat Unit) :=
  some (.error 1)

def fX12_needGate (M : Mem) (x1 : Int32) : Option (Except Nat Unit) :=
  if x1 < 0 then
    fX12_needGate_b21 M
  else
    pu (gR M 28 0) fun oq1 =>
    ck (kd oq1 = 4) <|
    pu (gI M (oq1 + 11) 0) fun vq2 =>
    if x1 < vq2 then
      some (.ok ())
    else
      fX12_needGate_b21 M

-- X12_guarded
def fX12_guarded_l9 : Nat → Mem → Int32 → Int32 → Int32 → Option (Except Nat Int32)
  | 0, _, _, _, _ => none
  | n + 1, M, x1, x2, x3 =>
    pu (gR M 28 0) fun oq1 =>
    ck (kd oq1 = 4) <|
    pu (gI M (oq1 + 8) 0) fun vq2 =>
    if x3 < vq2 then
      b1 (fX12_edge M x3 x1) fun vq3 =>
      pu (if x2 < vq3 then vq3 else x2) fun vq4 =>
      pu (x3 + 1) fun vq5 =>
      fX12_guarded_l9 n M x1 vq4 vq5
    else
      some (.ok (x2))

def fX12_guarded (M : Mem) (x1 : Int32) : Option (Except Nat Int32) :=
  bE (fX12_needGate M x1) fun _ =>
  fX12_guarded_l9 FU M x1 0 0

-- X12_highest
def fX12_highest_b71 (a30 : Mem → Int32 → Int32 → Int32 → Int32 → Option (Except Nat (Int32 × Mem))) (M : Mem) (x1 : Int32) (x2 : Int32) (x3 : Int32) (x4 : Int32) : Option (Except Nat (Int32 × Mem)) :=
  pu (x4 + 1) fun vq5 =>
  a30 M x1 x2 x3 vq5

def fX12_highest_l30 : Nat → Mem → Int32 → Int32 → Int32 → Int32 → Option (Except Nat (Int32 × Mem))
  | 0, _, _, _, _, _ => none
  | n + 1, M, x1, x2, x3, x4 =>
    if 60 < x4 then
      if x1 = 0 then
        some (.ok (x2, M))
      else
        some (.ok (x3, M))
    else
      b1 (fX7_passMany M 86 1) fun Mq3 =>
      pu (gI Mq3 86 1) fun vq4 =>
      if x3 < vq4 then
        pu (gI Mq3 86 1) fun vq6 =>
        fX12_highest_b71 (fX12_highest_l30 n) Mq3 x1 x4 vq6 x4
      else
        fX12_highest_b71 (fX12_highest_l30 n) Mq3 x1 x2 x3 x4

def fX12_highest (M : Mem) (x1 : Int32) : Option (Except Nat (Int32 × Mem)) :=
  bE (fX12_needWhat M x1 1) fun _ =>
  b1 (fX3_become M 86 81) fun Mq1 =>
  pu (gI Mq1 86 1) fun vq2 =>
  fX12_highest_l30 FU Mq1 x1 0 vq2 1

-- X12_image
def fX12_image (M : Mem) : Option Mem :=
  b1 (fX3_write M 81 96 0) fun Mq1 =>
  b1 (fX1_become Mq1 97 91) fun Mq2 =>
  b1 (fX9_become Mq2 99 93) fun Mq3 =>
  pu (sI Mq3 0 11 (1)) fun Mq4 =>
  some Mq4

-- X12_land
def fX12_land_b12 (M : Mem) : Option (Except Nat (Int32 × Mem)) :=
  some (.error 2)

def fX12_land (M : Mem) (x1 : Int32) : Option (Except Nat (Int32 × Mem)) :=
  if x1 < 0 then
    fX12_land_b12 M
  else
    pu (gI M 0 1) fun vq1 =>
    if vq1 < x1 then
      fX12_land_b12 M
    else
      pu (sI M 0 1 (0)) fun Mq2 =>
      b2 (fX6_parse Mq2 x1) fun vq3 Mq4 =>
      if vq3 = 0 then
        pu (sI Mq4 0 2 ((-1))) fun Mq5 =>
        pu (gR Mq5 3 1) fun oq6 =>
        ck (kd oq6 = 4) <|
        pu (gR Mq5 28 0) fun oq7 =>
        ck (kd oq7 = 4) <|
        pu (sR Mq5 3 1 oq7) fun Mq8 =>
        pu (sR Mq8 28 0 oq6) fun Mq9 =>
        b1 (fX3_become Mq9 81 21) fun Mq10 =>
        pu (sI Mq10 91 0 (0)) fun Mq11 =>
        pu (sI Mq11 93 0 (0)) fun Mq12 =>
        pu (sI Mq12 0 11 (0)) fun Mq13 =>
        some (.ok (0, Mq13))
      else
        pu (gI Mq4 3 4) fun vq14 =>
        pu (sI Mq4 0 2 (vq14)) fun Mq15 =>
        ldI Mq15 2 3 (0) fun vq16 =>
        stI Mq15 2 3 (0) (vq16 + 1) fun Mq17 =>
        some (.ok (vq3, Mq17))

-- X12_least
def fX12_least_b42 (a6 : Mem → Int32 → Int32 → Int32 → Option (Int32 × Mem)) (M : Mem) (x1 : Int32) (x2 : Int32) (x3 : Int32) : Option (Int32 × Mem) :=
  pu (x3 + 1) fun vq3 =>
  a6 M x1 x2 vq3

def fX12_least_b32 (a6 : Mem → Int32 → Int32 → Int32 → Option (Int32 × Mem)) (M : Mem) (x3 : Int32) : Option (Int32 × Mem) :=
  pu (gI M 86 6) fun vq2 =>
  fX12_least_b42 a6 M x3 vq2 x3

def fX12_least_l6 : Nat → Mem → Int32 → Int32 → Int32 → Option (Int32 × Mem)
  | 0, _, _, _, _ => none
  | n + 1, M, x1, x2, x3 =>
    if 5 < x3 then
      some (x1, M)
    else
      b1 (fX12_passWithTerm M x3) fun Mq1 =>
      if x3 = 1 then
        fX12_least_b32 (fX12_least_l6 n) Mq1 x3
      else
        pu (gI Mq1 86 6) fun vq4 =>
        if vq4 < x2 then
          fX12_least_b32 (fX12_least_l6 n) Mq1 x3
        else
          fX12_least_b42 (fX12_least_l6 n) Mq1 x1 x2 x3

def fX12_least (M : Mem) : Option (Int32 × Mem) :=
  fX12_least_l6 FU M 1 0 1

-- X12_loan
def fX12_loan_b11 (M : Mem) : Option (Int32 × Mem) :=
  b2 (fX12_refuse M 1) fun vq1 Mq2 =>
  some (vq1, Mq2)

def fX12_loan (M : Mem) (x1 : Int32) : Option (Int32 × Mem) :=
  if x1 < 1 then
    fX12_loan_b11 M
  else
    if 99 < x1 then
      fX12_loan_b11 M
    else
      b1 (fX1_keep M 91 81) fun Mq3 =>
      pu (gI Mq3 81 0) fun vq4 =>
      pu (if vq4 + x1 < 999 then vq4 + x1 else 999) fun vq5 =>
      pu (sI Mq3 81 0 (vq5)) fun Mq6 =>
      pu (gI Mq6 81 2) fun vq7 =>
      pu (if vq7 + x1 < 999 then vq7 + x1 else 999) fun vq8 =>
      pu (sI Mq6 81 2 (vq8)) fun Mq9 =>
      pu (gI Mq9 81 0) fun vq10 =>
      some (vq10, Mq9)

-- X12_moved
def fX12_moved (M : Mem) (x1 : Int32) (x2 : Int32) : Option (Except Nat (Int32 × Mem)) :=
  bE (fX12_needBrother M x1) fun _ =>
  bE (fX12_needWithin M x2 1 99) fun _ =>
  b1 (fX3_become M 86 81) fun Mq1 =>
  ldI Mq1 88 2 (x1) fun vq2 =>
  stI Mq1 88 2 (x1) (vq2 + x2) fun Mq3 =>
  b2 (fX7_followers Mq3 86 x1) fun vq4 Mq5 =>
  b2 (fX7_followers Mq5 81 x1) fun vq6 Mq7 =>
  some (.ok (vq4 &&& (vq6 ^^^ (-1)), Mq7))

-- X12_next
def fX12_next_b67 (a28 : Mem → Int32 → Int32 → Int32 → Int32 → Option (Except Nat (Int32 × Mem))) (M : Mem) (x1 : Int32) (x2 : Int32) (x3 : Int32) (x4 : Int32) : Option (Except Nat (Int32 × Mem)) :=
  pu (x4 + 1) fun vq3 =>
  a28 M x1 x2 x3 vq3

def fX12_next_l28 : Nat → Mem → Int32 → Int32 → Int32 → Int32 → Option (Except Nat (Int32 × Mem))
  | 0, _, _, _, _, _ => none
  | n + 1, M, x1, x2, x3, x4 =>
    if 30 < x4 then
      if x1 = 0 then
        some (.ok (x2, M))
      else
        some (.ok (x3, M))
    else
      ldI M 58 30 (x4 - 1) fun vq2 =>
      if x3 < vq2 then
        ldI M 58 30 (x4 - 1) fun vq4 =>
        fX12_next_b67 (fX12_next_l28 n) M x1 x4 vq4 x4
      else
        fX12_next_b67 (fX12_next_l28 n) M x1 x2 x3 x4

def fX12_next (M : Mem) (x1 : Int32) : Option (Except Nat (Int32 × Mem)) :=
  bE (fX12_needWhat M x1 1) fun _ =>
  b1 (fX2_survey M 81 93) fun Mq1 =>
  fX12_next_l28 FU Mq1 x1 (-1) 0 1

-- X12_odds
def fX12_odds_b85 (a41 : Mem → Int32 → Int32 → Int32 → Int32 → Int32 → Option (Except Nat (Int32 × Mem))) (M : Mem) (x2 : Int32) (x3 : Int32) (x4 : Int32) (x5 : Int32) (x6 : Int32) : Option (Except Nat (Int32 × Mem)) :=
  pu (x6 + 1) fun vq3 =>
  a41 M x2 x3 x4 x5 vq3

def fX12_odds_l41 : Nat → Mem → Int32 → Int32 → Int32 → Int32 → Int32 → Option (Except Nat (Int32 × Mem))
  | 0, _, _, _, _, _, _ => none
  | n + 1, M, x2, x3, x4, x5, x6 =>
    if x6 < 64 then
      if x6 &&& (x4 ^^^ (-1)) = 0 then
        b1 (fX7_menOf M x6) fun vq4 =>
        if vq4 < x3 then
          fX12_odds_b85 (fX12_odds_l41 n) M x2 x3 x4 x5 x6
        else
          b1 (fX12_chances x4 x6 x2) fun vq5 =>
          pu (x5 + vq5) fun vq6 =>
          fX12_odds_b85 (fX12_odds_l41 n) M x2 x3 x4 vq6 x6
      else
        fX12_odds_b85 (fX12_odds_l41 n) M x2 x3 x4 x5 x6
    else
      some (.ok (x5, M))

def fX12_odds (M : Mem) (x1 : Int32) (x2 : Int32) (x3 : Int32) : Option (Except Nat (Int32 × Mem)) :=
  bE (fX12_needBrother M x1) fun _ =>
  bE (fX12_needWithin M x2 1 9) fun _ =>
  bE (fX12_needWithin M x3 0 54) fun _ =>
  b2 (fX7_followers M 81 x1) fun vq1 Mq2 =>
  fX12_odds_l41 FU Mq2 x2 x3 vq1 0 0

-- X12_rests
def fX12_rests_b84 (a19 : Mem → Int32 → Int32 → Int32 → Int32 → Option Int32) (M : Mem) (x1 : Int32) (x2 : Int32) (x3 : Int32) (x4 : Int32) (x6 : Int32) (s0 : Int32) : Option Int32 :=
  if (s0 + (2 * (x6 - 1))) - (2 * (x2 - x6)) < 0 then
    some (0)
  else
    pu (x4 + 1) fun vq5 =>
    a19 M x1 x2 x3 vq5

def fX12_rests_b53 (a19 : Mem → Int32 → Int32 → Int32 → Int32 → Option Int32) (M : Mem) (x1 : Int32) (x2 : Int32) (x3 : Int32) (x4 : Int32) (x5 : Int32) (s0 : Int32) : Option Int32 :=
  if x5 = 0 then
    ldI M 85 6 (x4) fun vq4 =>
    fX12_rests_b84 a19 M x1 x2 x3 x4 s0 (-vq4)
  else
    ldI M 85 6 (x4) fun vq6 =>
    fX12_rests_b84 a19 M x1 x2 x3 x4 s0 vq6

def fX12_rests_b39 (a19 : Mem → Int32 → Int32 → Int32 → Int32 → Option Int32) (M : Mem) (x1 : Int32) (x2 : Int32) (x3 : Int32) (x4 : Int32) (s0 : Int32) : Option Int32 :=
  if s0 = 0 then
    fX12_rests_b53 a19 M x1 x2 x3 x4 s0 (x2 - x3)
  else
    fX12_rests_b53 a19 M x1 x2 x3 x4 s0 x3

def fX12_rests_l19 : Nat → Mem → Int32 → Int32 → Int32 → Int32 → Option Int32
  | 0, _, _, _, _, _ => none
  | n + 1, M, x1, x2, x3, x4 =>
    if x4 < x2 then
      if ((x1 : Int32) >>> (x4 &&& 31 : Int32)) &&& 1 = 0 then
        fX12_rests_b39 (fX12_rests_l19 n) M x1 x2 x3 x4 0
      else
        fX12_rests_b39 (fX12_rests_l19 n) M x1 x2 x3 x4 1
    else
      some (1)

def fX12_rests (M : Mem) (x1 : Int32) : Option Int32 :=
  pu (gR M 28 0) fun oq1 =>
  ck (kd oq1 = 4) <|
  pu (gI M oq1 8) fun vq2 =>
  b1 (fJ6_bitCount_0f7a4 x1) fun vq3 =>
  fX12_rests_l19 FU M x1 vq2 vq3 0

-- X12_parties
def fX12_parties_b50 (a13 : Mem → Int32 → Int32 → Int32 → Int32 → Option (Except Nat Int32)) (M : Mem) (x1 : Int32) (x2 : Int32) (x3 : Int32) (x4 : Int32) : Option (Except Nat Int32) :=
  pu (x4 + 1) fun vq4 =>
  a13 M x1 x2 x3 vq4

def fX12_parties_l13 : Nat → Mem → Int32 → Int32 → Int32 → Int32 → Option (Except Nat Int32)
  | 0, _, _, _, _, _ => none
  | n + 1, M, x1, x2, x3, x4 =>
    pu (gR M 28 0) fun oq1 =>
    ck (kd oq1 = 4) <|
    pu (gI M oq1 8) fun vq2 =>
    if x4 < (1 : Int32) <<< (vq2 &&& 31 : Int32) then
      b1 (fX12_rests M x4) fun vq3 =>
      if vq3 = 0 then
        fX12_parties_b50 (fX12_parties_l13 n) M x1 x2 x3 x4
      else
        pu (x2 + 1) fun vq5 =>
        if x3 = (-1) then
          fX12_parties_b50 (fX12_parties_l13 n) M x1 vq5 x4 x4
        else
          fX12_parties_b50 (fX12_parties_l13 n) M x1 vq5 x3 x4
    else
      if x1 = 0 then
        some (.ok (x2))
      else
        some (.ok (x3))

def fX12_parties (M : Mem) (x1 : Int32) : Option (Except Nat Int32) :=
  bE (fX12_needWhat M x1 1) fun _ =>
  fX12_parties_l13 FU M x1 0 (-1) 0

-- X12_plan
def fX12_plan (M : Mem) (x1 : Int32) (x2 : Int32) : Option (Except Nat (Int32 × Mem)) :=
  bE (fX12_needWhat M x2 1) fun _ =>
  bE (fX12_needWithin M x1 1 4) fun _ =>
  b2 (fX2_planned M 81 x1) fun vq1 Mq2 =>
  if x2 = 0 then
    some (.ok (vq1, Mq2))
  else
    pu (gI Mq2 49 3) fun vq3 =>
    some (.ok (vq3, Mq2))

-- X12_restore
def fX12_restore (M : Mem) : Option (Int32 × Mem) :=
  pu (gI M 0 11) fun vq1 =>
  if vq1 = 0 then
    some (0, M)
  else
    b1 (fX3_read M 81 96 0) fun Mq2 =>
    b1 (fX1_become Mq2 91 97) fun Mq3 =>
    b1 (fX9_become Mq3 93 99) fun Mq4 =>
    some (1, Mq4)

-- X12_ruin
def fX12_ruin_l13 : Nat → Mem → Int32 → Option (Int32 × Mem)
  | 0, _, _ => none
  | n + 1, M, x1 =>
    if 60 < x1 then
      some ((-1), M)
    else
      pu (gI M 86 2) fun vq2 =>
      pu (gI M 86 0) fun vq3 =>
      if vq3 < vq2 then
        some (x1, M)
      else
        b1 (fX7_passMany M 86 1) fun Mq4 =>
        pu (x1 + 1) fun vq5 =>
        fX12_ruin_l13 n Mq4 vq5

def fX12_ruin (M : Mem) : Option (Int32 × Mem) :=
  b1 (fX3_become M 86 81) fun Mq1 =>
  fX12_ruin_l13 FU Mq1 0

-- X12_see
def fX12_see_b34 (M : Mem) : Option (Int32 × Mem) :=
  b2 (fX12_refuse M 2) fun vq1 Mq2 =>
  some (vq1, Mq2)

def fX12_see (M : Mem) (x1 : Int32) (x2 : Int32) : Option (Int32 × Mem) :=
  if x1 < 1 then
    fX12_see_b34 M
  else
    if 30 < x1 then
      fX12_see_b34 M
    else
      if x2 < 0 then
        fX12_see_b34 M
      else
        if 999 < x2 then
          fX12_see_b34 M
        else
          b2 (fX9_add M 93 x1 x2) fun vq3 Mq4 =>
          if vq3 = 0 then
            fX12_see_b34 Mq4
          else
            pu (gI Mq4 93 0) fun vq5 =>
            some (vq5, Mq4)

-- X12_stays
def fX12_stays_l19 : Nat → Mem → Int32 → Int32 → Option (Except Nat (Int32 × Mem))
  | 0, _, _, _ => none
  | n + 1, M, x1, x2 =>
    if 60 < x2 then
      some (.ok ((-1), M))
    else
      b1 (fX7_passMany M 86 1) fun Mq2 =>
      pu (gI Mq2 86 7) fun vq3 =>
      pu (gI Mq2 81 7) fun vq4 =>
      if vq4 < vq3 then
        if x1 = 0 then
          some (.ok (x2, Mq2))
        else
          pu (gI Mq2 86 4) fun vq6 =>
          some (.ok (vq6, Mq2))
      else
        pu (x2 + 1) fun vq5 =>
        fX12_stays_l19 n Mq2 x1 vq5

def fX12_stays (M : Mem) (x1 : Int32) : Option (Except Nat (Int32 × Mem)) :=
  bE (fX12_needWhat M x1 1) fun _ =>
  b1 (fX3_become M 86 81) fun Mq1 =>
  fX12_stays_l19 FU Mq1 x1 1

-- X12_swap
def fX12_swap_b80 (a32 : Mem → Int32 → Int32 → Int32 → Int32 → Int32 → Option (Except Nat (Int32 × Mem))) (a44 : Mem → Int32 → Int32 → Int32 → Int32 → Int32 → Int32 → Option (Except Nat (Int32 × Mem))) (M : Mem) (x1 : Int32) (x2 : Int32) (x3 : Int32) (x4 : Int32) (x5 : Int32) (x6 : Int32) : Option (Except Nat (Int32 × Mem)) :=
  pu (x6 + 1) fun vq9 =>
  a44 M x1 x2 x3 x4 x5 vq9

def fX12_swap_l44 (a32 : Mem → Int32 → Int32 → Int32 → Int32 → Int32 → Option (Except Nat (Int32 × Mem))) : Nat → Mem → Int32 → Int32 → Int32 → Int32 → Int32 → Int32 → Option (Except Nat (Int32 × Mem))
  | 0, _, _, _, _, _, _, _ => none
  | n + 1, M, x1, x2, x3, x4, x5, x6 =>
    if x6 < x2 then
      b2 (fX12_gloryWithSwap M x1 x5 x6) fun vq7 Mq8 =>
      if x3 < vq7 then
        pu ((10 * x5) + x6) fun vq10 =>
        fX12_swap_b80 a32 (fX12_swap_l44 a32 n) Mq8 x1 x2 vq7 vq10 x5 x6
      else
        fX12_swap_b80 a32 (fX12_swap_l44 a32 n) Mq8 x1 x2 x3 x4 x5 x6
    else
      pu (x5 + 1) fun vq6 =>
      a32 M x1 x2 x3 x4 vq6

def fX12_swap_l32 : Nat → Mem → Int32 → Int32 → Int32 → Int32 → Int32 → Option (Except Nat (Int32 × Mem))
  | 0, _, _, _, _, _, _ => none
  | n + 1, M, x1, x2, x3, x4, x5 =>
    if x5 < x2 then
      pu (x5 + 1) fun vq5 =>
      fX12_swap_l44 (fX12_swap_l32 n) FU M x1 x2 x3 x4 x5 vq5
    else
      some (.ok (x4, M))

def fX12_swap (M : Mem) (x1 : Int32) : Option (Except Nat (Int32 × Mem)) :=
  bE (fX12_needBrother M x1) fun _ =>
  pu (gR M 28 0) fun oq1 =>
  ck (kd oq1 = 4) <|
  ldI M (oq1 + 5) 2 (x1) fun vq2 =>
  b2 (fX12_gloryWithSwap M x1 0 0) fun vq3 Mq4 =>
  fX12_swap_l32 FU Mq4 x1 vq2 vq3 (-1) 0

-- X12_term
def fX12_term_b10 (M : Mem) : Option (Int32 × Mem) :=
  b2 (fX12_refuse M 1) fun vq1 Mq2 =>
  some (vq1, Mq2)

def fX12_term (M : Mem) (x1 : Int32) : Option (Int32 × Mem) :=
  if x1 < 1 then
    fX12_term_b10 M
  else
    if 5 < x1 then
      fX12_term_b10 M
    else
      b1 (fX1_keep M 91 81) fun Mq3 =>
      pu (gI Mq3 81 8) fun vq4 =>
      pu (sI Mq3 81 8 (x1)) fun Mq5 =>
      some (vq4, Mq5)

-- X12_then
def fX12_then (M : Mem) (x1 : Int32) (x2 : Int32) : Option (Except Nat (Int32 × Mem)) :=
  bE (fX12_needWhat M x2 6) fun _ =>
  bE (fX12_needWithin M x1 0 60) fun _ =>
  b1 (fX3_become M 86 81) fun Mq1 =>
  b1 (fX7_passMany Mq1 86 x1) fun Mq2 =>
  if x2 = 0 then
    pu (gI Mq2 86 0) fun vq3 =>
    some (.ok (vq3, Mq2))
  else if x2 = 1 then
    pu (gI Mq2 86 1) fun vq4 =>
    some (.ok (vq4, Mq2))
  else if x2 = 2 then
    pu (gI Mq2 86 2) fun vq5 =>
    some (.ok (vq5, Mq2))
  else if x2 = 3 then
    ldI Mq2 88 2 (0) fun vq6 =>
    some (.ok (vq6, Mq2))
  else if x2 = 4 then
    ldI Mq2 88 2 (1) fun vq7 =>
    some (.ok (vq7, Mq2))
  else if x2 = 5 then
    pu (gI Mq2 86 4) fun vq8 =>
    some (.ok (vq8, Mq2))
  else 
    pu (gI Mq2 86 6) fun vq9 =>
    some (.ok (vq9, Mq2))

-- X12_undo
def fX12_undo (M : Mem) : Option (Int32 × Mem) :=
  b2 (fX1_takeBack M 91 81) fun vq1 Mq2 =>
  if vq1 = 0 then
    some ((-1), Mq2)
  else
    pu (gI Mq2 91 0) fun vq3 =>
    some (vq3, Mq2)

-- X12_way
def fX12_way (M : Mem) (x1 : Int32) (x2 : Int32) : Option (Except Nat Int32) :=
  bE (fX12_needBrother M x1) fun _ =>
  b1 (fX12_hasPlace M x1 x2) fun vq1 =>
  if vq1 = 0 then
    some (.error 1)
  else
    ldI M 84 12 ((x1 * 6) + x2) fun vq2 =>
    some (.ok (vq2))

-- X12_wins
def fX12_wins (M : Mem) (x1 : Int32) (x2 : Int32) : Option (Except Nat Int32) :=
  bE (fX12_needChampion M x1) fun _ =>
  bE (fX12_needGate M x2) fun _ =>
  b1 (fX12_edge M x1 x2) fun vq1 =>
  pu (gR M 28 0) fun oq2 =>
  ck (kd oq2 = 4) <|
  ldI M ((oq2 + 11) + 1) 7 (x2) fun vq3 =>
  if vq3 < vq1 then
    some (.ok (1))
  else
    some (.ok (0))

-- X12_years
def fX12_years_b26 (M : Mem) : Option (Int32 × Mem) :=
  b2 (fX12_refuse M 1) fun vq1 Mq2 =>
  some (vq1, Mq2)

def fX12_years (M : Mem) (x1 : Int32) : Option (Int32 × Mem) :=
  if x1 < 1 then
    fX12_years_b26 M
  else
    if 20 < x1 then
      fX12_years_b26 M
    else
      pu (gI M 81 3) fun vq3 =>
      if 999 < vq3 + x1 then
        fX12_years_b26 M
      else
        b1 (fX1_keep M 91 81) fun Mq4 =>
        b1 (fX7_passMany Mq4 81 x1) fun Mq5 =>
        pu (gI Mq5 81 3) fun vq6 =>
        some (vq6, Mq5)

-- X13_ahead0
def fX13_ahead0 (M : Mem) (x1 : Int32) (x2 : Int32) : Option Int32 :=
  ldI M 133 186 ((x1 + 6) + x2) fun vq1 =>
  ldI M 133 186 (((x1 + 6) + 1) - x2) fun vq2 =>
  some (vq1 - vq2)

-- X13_isGood
def fX13_isGood (M : Mem) : Option Int32 :=
  pu (gI M 103 22) fun vq1 =>
  if vq1 = 0 then
    some (1)
  else
    some (0)

-- X13_wrong
def fX13_wrong (M : Mem) (x1 : Int32) : Option Mem :=
  pu (gI M 103 22) fun vq1 =>
  if vq1 = 0 then
    pu (sI M 103 22 (x1)) fun Mq2 =>
    pu (gI Mq2 103 28) fun vq3 =>
    pu (sI Mq2 103 23 (vq3)) fun Mq4 =>
    some Mq4
  else
    some M

-- X13_byteAt
def fX13_byteAt (M : Mem) (x1 : Int32) : Option Int32 :=
  pu (gI M 103 25) fun vq1 =>
  if x1 < vq1 then
    ldI M 116 700 (x1) fun vq2 =>
    some (vq2)
  else
    some (0)

-- X13_isLetter
def fX13_isLetter (x0 : Int32) : Option Int32 :=
  if x0 < 97 then
    some (0)
  else
    if 122 < x0 then
      some (0)
    else
      some (1)

-- X13_isDigit
def fX13_isDigit (x0 : Int32) : Option Int32 :=
  if x0 < 48 then
    some (0)
  else
    if 57 < x0 then
      some (0)
    else
      some (1)

-- X13_goes
def fX13_goes_b331 (M : Mem) : Option Mem :=
  pu (gI M 103 26) fun vq17 =>
  pu (gI M 103 28) fun vq18 =>
  pu (sI M 103 29 (vq17 - vq18)) fun Mq19 =>
  some Mq19

def fX13_goes_b328 (M : Mem) (s0 : Int32) : Option Mem :=
  pu (sI M 103 27 (s0)) fun Mq16 =>
  fX13_goes_b331 Mq16

def fX13_goes_b323 (M : Mem) : Option Mem :=
  fX13_goes_b328 M 3

def fX13_goes_b237 (a187 : Mem → Option Mem) (M : Mem) : Option Mem :=
  pu (gI M 103 26) fun vq26 =>
  pu (sI M 103 26 (vq26 + 1)) fun Mq27 =>
  a187 Mq27

def fX13_goes_l187 : Nat → Mem → Option Mem
  | 0, _ => none
  | n + 1, M =>
    pu (gI M 103 26) fun vq20 =>
    b1 (fX13_byteAt M vq20) fun vq21 =>
    b1 (fX13_isDigit vq21) fun vq22 =>
    if vq22 = 0 then
      pu (sI M 103 27 (2)) fun Mq23 =>
      fX13_goes_b331 Mq23
    else
      pu (gI M 103 26) fun vq24 =>
      pu (gI M 103 28) fun vq25 =>
      if vq24 - vq25 < 4 then
        pu (gI M 103 30) fun vq28 =>
        pu (gI M 103 26) fun vq29 =>
        b1 (fX13_byteAt M vq29) fun vq30 =>
        pu (sI M 103 30 (((10 * vq28) + vq30) - 48)) fun Mq31 =>
        fX13_goes_b237 (fX13_goes_l187 n) Mq31
      else
        fX13_goes_b237 (fX13_goes_l187 n) M

def fX13_goes_b159 (a108 : Mem → Option Mem) (M : Mem) : Option Mem :=
  pu (gI M 103 26) fun vq38 =>
  pu (sI M 103 26 (vq38 + 1)) fun Mq39 =>
  a108 Mq39

def fX13_goes_l108 : Nat → Mem → Option Mem
  | 0, _ => none
  | n + 1, M =>
    pu (gI M 103 26) fun vq32 =>
    b1 (fX13_byteAt M vq32) fun vq33 =>
    b1 (fX13_isLetter vq33) fun vq34 =>
    if vq34 = 0 then
      pu (sI M 103 27 (1)) fun Mq35 =>
      fX13_goes_b331 Mq35
    else
      pu (gI M 103 26) fun vq36 =>
      pu (gI M 103 28) fun vq37 =>
      if vq36 - vq37 < 8 then
        pu (gL M 103 32) fun vq40 =>
        pu (gI M 103 26) fun vq41 =>
        b1 (fX13_byteAt M vq41) fun vq42 =>
        pu (sL M 103 32 (((vq40 : Int64) <<< (Int32.toInt64 5 &&& 63 : Int64)) ||| (Int32.toInt64 (vq42 - 96)))) fun Mq43 =>
        fX13_goes_b159 (fX13_goes_l108 n) Mq43
      else
        fX13_goes_b159 (fX13_goes_l108 n) M

def fX13_goes_b50 (M : Mem) : Option Mem :=
  pu (gI M 103 26) fun vq3 =>
  pu (sI M 103 28 (vq3)) fun Mq4 =>
  pu (sL Mq4 103 32 (0)) fun Mq5 =>
  pu (sI Mq5 103 30 (0)) fun Mq6 =>
  pu (gI Mq6 103 26) fun vq7 =>
  b1 (fX13_byteAt Mq6 vq7) fun vq8 =>
  pu (sI Mq6 103 31 (vq8)) fun Mq9 =>
  pu (gI Mq9 103 26) fun vq10 =>
  pu (gI Mq9 103 25) fun vq11 =>
  if vq10 < vq11 then
    b1 (fX13_isLetter vq8) fun vq12 =>
    if vq12 = 0 then
      b1 (fX13_isDigit vq8) fun vq13 =>
      if vq13 = 0 then
        pu (gI Mq9 103 26) fun vq14 =>
        pu (sI Mq9 103 26 (vq14 + 1)) fun Mq15 =>
        if vq8 = 59 then
          fX13_goes_b323 Mq15
        else
          if vq8 = 40 then
            fX13_goes_b323 Mq15
          else
            if vq8 = 41 then
              fX13_goes_b323 Mq15
            else
              if vq8 = 43 then
                fX13_goes_b323 Mq15
              else
                if vq8 = 45 then
                  fX13_goes_b323 Mq15
                else
                  if vq8 = 42 then
                    fX13_goes_b323 Mq15
                  else
                    if vq8 = 47 then
                      fX13_goes_b323 Mq15
                    else
                      if vq8 = 60 then
                        fX13_goes_b323 Mq15
                      else
                        if vq8 = 61 then
                          fX13_goes_b323 Mq15
                        else
                          fX13_goes_b328 Mq15 4
      else
        fX13_goes_l187 FU Mq9
    else
      fX13_goes_l108 FU Mq9
  else
    pu (sI Mq9 103 27 (0)) fun Mq44 =>
    fX13_goes_b331 Mq44

def fX13_goes_b37 (a0 : Mem → Option Mem) (M : Mem) : Option Mem :=
  pu (gI M 103 26) fun vq47 =>
  pu (sI M 103 26 (vq47 + 1)) fun Mq48 =>
  a0 Mq48

def fX13_goes_l0 : Nat → Mem → Option Mem
  | 0, _ => none
  | n + 1, M =>
    pu (gI M 103 26) fun vq1 =>
    pu (gI M 103 25) fun vq2 =>
    if vq1 < vq2 then
      pu (gI M 103 26) fun vq45 =>
      b1 (fX13_byteAt M vq45) fun vq46 =>
      if vq46 = 32 then
        fX13_goes_b37 (fX13_goes_l0 n) M
      else
        pu (gI M 103 26) fun vq49 =>
        b1 (fX13_byteAt M vq49) fun vq50 =>
        if vq50 = 10 then
          fX13_goes_b37 (fX13_goes_l0 n) M
        else
          fX13_goes_b50 M
    else
      fX13_goes_b50 M

def fX13_goes (M : Mem) : Option Mem :=
  fX13_goes_l0 FU M

-- X13_among
def fX13_among_b54 (M : Mem) : Option (Int32 × Mem) :=
  pu (gI M 103 30) fun vq5 =>
  b1 (fX13_isGood M) fun vq6 =>
  if vq6 = 0 then
    some (vq5, M)
  else
    b1 (fX13_goes M) fun Mq7 =>
    some (vq5, Mq7)

def fX13_among (M : Mem) (x1 : Int32) : Option (Int32 × Mem) :=
  b1 (fX13_isGood M) fun vq1 =>
  if vq1 = 0 then
    some (0, M)
  else
    pu (gI M 103 27) fun vq2 =>
    if vq2 = 2 then
      pu (gI M 103 29) fun vq3 =>
      if 4 < vq3 then
        b1 (fX13_wrong M 2) fun Mq9 =>
        fX13_among_b54 Mq9
      else
        pu (gI M 103 30) fun vq4 =>
        if vq4 < x1 then
          fX13_among_b54 M
        else
          b1 (fX13_wrong M 3) fun Mq8 =>
          fX13_among_b54 Mq8
    else
      b1 (fX13_wrong M 1) fun Mq10 =>
      fX13_among_b54 Mq10

-- X13_within
def fX13_within (x0 : Int32) (x1 : Int32) (x2 : Int32) : Option Int32 :=
  if x0 < x1 then
    some (0)
  else
    if x2 < x0 then
      some (0)
    else
      some (1)

-- X13_right
def fX13_right_b16 (M : Mem) : Option (Int32 × Mem) :=
  pu (gI M 103 0) fun vq2 =>
  if vq2 = 0 then
    some (1, M)
  else
    some (0, M)

def fX13_right (M : Mem) (x1 : Int32) (x2 : Int32) : Option (Int32 × Mem) :=
  pu (gI M 103 0) fun vq1 =>
  if vq1 = 0 then
    if x1 = 0 then
      pu (sI M 103 0 (x2)) fun Mq3 =>
      fX13_right_b16 Mq3
    else
      fX13_right_b16 M
  else
    fX13_right_b16 M

-- X13_isWhat
def fX13_isWhat (M : Mem) (x1 : Int32) (x2 : Int32) : Option (Int32 × Mem) :=
  b1 (fX13_within x1 0 x2) fun vq1 =>
  b2 (fX13_right M vq1 1) fun vq2 Mq3 =>
  zz (vq2) <|
  some (vq2, Mq3)

-- X13_lays0
def fX13_lays0_l2 : Nat → Mem → Int32 → Int32 → Int32 → Option Mem
  | 0, _, _, _, _ => none
  | n + 1, M, x1, x2, x3 =>
    if x3 < 31 then
      ldI M 133 186 (x1 + x3) fun vq1 =>
      stI M 133 186 (x2 + x3) (vq1) fun Mq2 =>
      pu (x3 + 1) fun vq3 =>
      fX13_lays0_l2 n Mq2 x1 x2 vq3
    else
      some M

def fX13_lays0 (M : Mem) (x1 : Int32) (x2 : Int32) : Option Mem :=
  fX13_lays0_l2 FU M x1 x2 0

-- X13_harvestOf
def fX13_harvestOf (M : Mem) (x1 : Int32) : Option Int32 :=
  pu (gI M 103 2) fun vq1 =>
  if vq1 = 0 then
    some (20)
  else
    pu (gI M 103 2) fun vq2 =>
    nz (vq2) <|
    ldI M 109 10 (x1 - x1 / vq2 * vq2) fun vq3 =>
    some (vq3)

-- X13_kept
def fX13_kept (x0 : Int32) (x1 : Int32) (x2 : Int32) : Option Int32 :=
  if x0 < x1 then
    some (x1)
  else
    if x2 < x0 then
      some (x2)
    else
      some (x0)

-- X13_gathers
def fX13_gathers (M : Mem) (x1 : Int32) (x2 : Int32) : Option Mem :=
  ldI M 133 186 (x1 + 0) fun vq1 =>
  b1 (fX13_kept (vq1 + x2) 0 999) fun vq2 =>
  stI M 133 186 (x1 + 0) (vq2) fun Mq3 =>
  ldI Mq3 133 186 (x1 + 2) fun vq4 =>
  ldI Mq3 133 186 (x1 + 2) fun vq5 =>
  b1 (fX13_kept (vq4 + (vq5 / 10)) 0 999) fun vq6 =>
  stI Mq3 133 186 (x1 + 2) (vq6) fun Mq7 =>
  some Mq7

-- X13_wayOf
def fX13_wayOf (M : Mem) (x1 : Int32) (x2 : Int32) : Option Int32 :=
  ldI M 108 2 (x2) fun vq1 =>
  if vq1 = 0 then
    some ((-1))
  else
    ldI M 133 186 ((x1 + 10) + x2) fun vq2 =>
    ldI M 108 2 (x2) fun vq3 =>
    nz (vq3) <|
    ldI M 133 186 (((x1 + 13) + (6 * x2)) + (vq2 - vq2 / vq3 * vq3)) fun vq4 =>
    some (vq4)

-- X13_does
def fX13_does (M : Mem) (x1 : Int32) (x2 : Int32) : Option (Int32 × Mem) :=
  if x2 = (-1) then
    some (0, M)
  else
    ldI M 104 7 (x2) fun vq1 =>
    ldI M 133 186 (x1 + 0) fun vq2 =>
    if vq2 < vq1 then
      pu (x1 + 8) fun vq20 =>
      ldI M 133 186 (vq20) fun vq21 =>
      stI M 133 186 (vq20) (vq21 + 1) fun Mq22 =>
      some (0, Mq22)
    else
      pu (x1 + 0) fun vq3 =>
      ldI M 133 186 (vq3) fun vq4 =>
      ldI M 104 7 (x2) fun vq5 =>
      stI M 133 186 (vq3) (vq4 - vq5) fun Mq6 =>
      ldI Mq6 133 186 (x1 + 1) fun vq7 =>
      ldI Mq6 105 7 (x2) fun vq8 =>
      b1 (fX13_kept (vq7 + vq8) 0 99) fun vq9 =>
      stI Mq6 133 186 (x1 + 1) (vq9) fun Mq10 =>
      ldI Mq10 133 186 (x1 + 2) fun vq11 =>
      ldI Mq10 106 7 (x2) fun vq12 =>
      b1 (fX13_kept (vq11 + vq12) 0 999) fun vq13 =>
      stI Mq10 133 186 (x1 + 2) (vq13) fun Mq14 =>
      ldI Mq14 133 186 (x1 + 4) fun vq15 =>
      pu ((x1 + 6) + vq15) fun vq16 =>
      ldI Mq14 133 186 (vq16) fun vq17 =>
      ldI Mq14 107 7 (x2) fun vq18 =>
      stI Mq14 133 186 (vq16) (vq17 + vq18) fun Mq19 =>
      some (1, Mq19)

-- X13_works
def fX13_works (x0 : Int32) (x1 : Int32) (x2 : Int32) : Option Int32 :=
  if x0 = 4 then
    if x1 = 0 then
      some (0)
    else
      if x2 = 0 then
        some (0)
      else
        some (1)
  else if x0 = 5 then
    if x1 = 0 then
      if x2 = 0 then
        some (0)
      else
        some (1)
    else
      some (1)
  else if x0 = 6 then
    if x1 < x2 then
      some (1)
    else
      some (0)
  else if x0 = 7 then
    if x1 = x2 then
      some (1)
    else
      some (0)
  else if x0 = 8 then
    some (x1 + x2)
  else if x0 = 9 then
    some (x1 - x2)
  else if x0 = 10 then
    some (x1 * x2)
  else 
    if x2 = 0 then
      some (0)
    else
      nz (x2) <|
      some (x1 / x2)

-- X13_reckons
def fX13_reckons_b140 (a4 : Mem → Int32 → Int32 → Option (Int32 × Mem)) (M : Mem) (x2 : Int32) (x3 : Int32) : Option (Int32 × Mem) :=
  a4 M x2 x3

def fX13_reckons_b67 (a4 : Mem → Int32 → Int32 → Option (Int32 × Mem)) (M : Mem) (x2 : Int32) (x3 : Int32) (s0 : Int32) (s1 : Int32) : Option (Int32 × Mem) :=
  stI M 136 950 (s1) (s0) fun Mq7 =>
  pu (x3 + 1) fun vq8 =>
  pu (x2 + 1) fun vq9 =>
  fX13_reckons_b140 a4 Mq7 vq9 vq8

def fX13_reckons_b36 (a4 : Mem → Int32 → Int32 → Option (Int32 × Mem)) (M : Mem) (x2 : Int32) (x3 : Int32) (x4 : Int32) : Option (Int32 × Mem) :=
  if x4 = 1 then
    ldI M 115 1400 (x3) fun vq10 =>
    fX13_reckons_b67 a4 M x2 x3 vq10 x2
  else
    ldI M 115 1400 (x3) fun vq5 =>
    ldI M 135 8 (vq5) fun vq6 =>
    fX13_reckons_b67 a4 M x2 x3 vq6 x2

def fX13_reckons_b106 (a4 : Mem → Int32 → Int32 → Option (Int32 × Mem)) (M : Mem) (x2 : Int32) (x3 : Int32) (s0 : Int32) (s1 : Int32) : Option (Int32 × Mem) :=
  stI M 136 950 (s1) (s0) fun Mq17 =>
  fX13_reckons_b140 a4 Mq17 x2 x3

def fX13_reckons_l4 : Nat → Mem → Int32 → Int32 → Option (Int32 × Mem)
  | 0, _, _, _ => none
  | n + 1, M, x2, x3 =>
    ldI M 115 1400 (x3) fun vq1 =>
    if vq1 = 0 then
      ldI M 136 950 (0) fun vq2 =>
      some (vq2, M)
    else
      ldI M 115 1400 (x3) fun vq3 =>
      pu (x3 + 1) fun vq4 =>
      if vq3 = 1 then
        fX13_reckons_b36 (fX13_reckons_l4 n) M x2 vq4 vq3
      else
        if vq3 = 2 then
          fX13_reckons_b36 (fX13_reckons_l4 n) M x2 vq4 vq3
        else
          if vq3 = 3 then
            ldI M 136 950 (x2 - 1) fun vq16 =>
            if vq16 = 0 then
              fX13_reckons_b106 (fX13_reckons_l4 n) M x2 vq4 1 (x2 - 1)
            else
              fX13_reckons_b106 (fX13_reckons_l4 n) M x2 vq4 0 (x2 - 1)
          else
            pu (x2 + (-1)) fun vq11 =>
            ldI M 136 950 (vq11 - 1) fun vq12 =>
            ldI M 136 950 (vq11) fun vq13 =>
            b1 (fX13_works vq3 vq12 vq13) fun vq14 =>
            stI M 136 950 (vq11 - 1) (vq14) fun Mq15 =>
            fX13_reckons_b140 (fX13_reckons_l4 n) Mq15 vq11 vq4

def fX13_reckons (M : Mem) (x1 : Int32) : Option (Int32 × Mem) :=
  fX13_reckons_l4 FU M 0 x1

-- X13_likeOf
def fX13_likeOf_b104 (M : Mem) (s0 : Int32) (s1 : Int32) : Option (Int32 × Mem) :=
  stI M 135 8 (s1) (s0) fun Mq10 =>
  pu (gI Mq10 103 7) fun vq11 =>
  b2 (fX13_reckons Mq10 vq11) fun vq12 Mq13 =>
  some (vq12, Mq13)

def fX13_likeOf_b84 (M : Mem) (x3 : Int32) (x5 : Int32) (s0 : Int32) (s1 : Int32) : Option (Int32 × Mem) :=
  stI M 135 8 (s1) (s0) fun Mq9 =>
  if x3 = 0 then
    fX13_likeOf_b104 Mq9 (0 - x5) 7
  else
    fX13_likeOf_b104 Mq9 x5 7

def fX13_likeOf (M : Mem) (x1 : Int32) (x2 : Int32) (x3 : Int32) (x4 : Int32) : Option (Int32 × Mem) :=
  ldI M 133 186 ((x1 + 25) + x2) fun vq1 =>
  ldI M 133 186 (x1 + 0) fun vq2 =>
  stI M 135 8 (3) (vq2) fun Mq3 =>
  ldI Mq3 133 186 (x1 + 2) fun vq4 =>
  stI Mq3 135 8 (4) (vq4) fun Mq5 =>
  ldI Mq5 133 186 ((x1 + 6) + x3) fun vq6 =>
  stI Mq5 135 8 (5) (vq6 + x4) fun Mq7 =>
  ldI Mq7 133 186 (x1 + 4) fun vq8 =>
  if vq8 = x3 then
    fX13_likeOf_b84 Mq7 x3 vq1 1 6
  else
    fX13_likeOf_b84 Mq7 x3 vq1 0 6

-- X13_follows
def fX13_follows_b62 (M : Mem) (x5 : Int32) (s0 : Int32) (s1 : Int32) (s2 : Int32) (s3 : Int32) : Option (Int32 × Mem) :=
  b2 (fX13_likeOf M s3 s2 s1 s0) fun vq4 Mq5 =>
  if x5 < vq4 then
    some (1, Mq5)
  else
    some (0, Mq5)

def fX13_follows_b42 (M : Mem) (x1 : Int32) (x2 : Int32) (x3 : Int32) (x4 : Int32) (s0 : Int32) (s1 : Int32) (s2 : Int32) (s3 : Int32) : Option (Int32 × Mem) :=
  b2 (fX13_likeOf M s3 s2 s1 s0) fun vq2 Mq3 =>
  if x3 = 1 then
    fX13_follows_b62 Mq3 vq2 x4 1 x2 x1
  else
    fX13_follows_b62 Mq3 vq2 0 1 x2 x1

def fX13_follows (M : Mem) (x1 : Int32) (x2 : Int32) (x3 : Int32) (x4 : Int32) : Option (Int32 × Mem) :=
  pu (gI M 103 7) fun vq1 =>
  if vq1 = (-1) then
    ldI M 133 186 ((x1 + 25) + x2) fun vq6 =>
    if 0 < vq6 then
      some (1, M)
    else
      some (0, M)
  else
    if x3 = 0 then
      fX13_follows_b42 M x1 x2 x3 x4 x4 0 x2 x1
    else
      fX13_follows_b42 M x1 x2 x3 x4 0 0 x2 x1

-- X13_followers
def fX13_followers_b36 (a5 : Mem → Int32 → Int32 → Int32 → Int32 → Option (Int32 × Mem)) (M : Mem) (x1 : Int32) (x2 : Int32) (x4 : Int32) (s0 : Int32) (s1 : Int32) : Option (Int32 × Mem) :=
  pu (s1 ||| s0) fun vq4 =>
  pu (x4 + 1) fun vq5 =>
  a5 M x1 x2 vq4 vq5

def fX13_followers_l5 : Nat → Mem → Int32 → Int32 → Int32 → Int32 → Option (Int32 × Mem)
  | 0, _, _, _, _, _ => none
  | n + 1, M, x1, x2, x3, x4 =>
    pu (gI M 103 3) fun vq1 =>
    if x4 < vq1 then
      b2 (fX13_follows M x1 x4 0 0) fun vq2 Mq3 =>
      if vq2 = x2 then
        fX13_followers_b36 (fX13_followers_l5 n) Mq3 x1 x2 x4 ((1 : Int32) <<< (x4 &&& 31 : Int32)) x3
      else
        fX13_followers_b36 (fX13_followers_l5 n) Mq3 x1 x2 x4 0 x3
    else
      some (x3, M)

def fX13_followers (M : Mem) (x1 : Int32) (x2 : Int32) : Option (Int32 × Mem) :=
  fX13_followers_l5 FU M x1 x2 0 0

-- X13_menOf
def fX13_menOf_b32 (a4 : Mem → Int32 → Int32 → Int32 → Option Int32) (M : Mem) (x1 : Int32) (x3 : Int32) (s0 : Int32) (s1 : Int32) : Option Int32 :=
  pu (s1 + s0) fun vq2 =>
  pu (x3 + 1) fun vq3 =>
  a4 M x1 vq2 vq3

def fX13_menOf_l4 : Nat → Mem → Int32 → Int32 → Int32 → Option Int32
  | 0, _, _, _, _ => none
  | n + 1, M, x1, x2, x3 =>
    pu (gI M 103 3) fun vq1 =>
    if x3 < vq1 then
      if ((x1 : Int32) >>> (x3 &&& 31 : Int32)) &&& 1 = 1 then
        ldI M 110 6 (x3) fun vq4 =>
        fX13_menOf_b32 (fX13_menOf_l4 n) M x1 x3 vq4 x2
      else
        fX13_menOf_b32 (fX13_menOf_l4 n) M x1 x3 0 x2
    else
      some (x2)

def fX13_menOf (M : Mem) (x1 : Int32) : Option Int32 :=
  fX13_menOf_l4 FU M x1 0 0

-- X13_isStaying
def fX13_isStaying (M : Mem) (x1 : Int32) : Option (Int32 × Mem) :=
  pu (gI M 103 6) fun vq1 =>
  if vq1 = (-1) then
    some (0, M)
  else
    ldI M 133 186 (x1 + 4) fun vq2 =>
    b2 (fX13_followers M x1 vq2) fun vq3 Mq4 =>
    b1 (fX13_menOf Mq4 vq3) fun vq5 =>
    ldI Mq4 133 186 (x1 + 1) fun vq6 =>
    stI Mq4 135 8 (0) (vq6) fun Mq7 =>
    ldI Mq7 133 186 (x1 + 3) fun vq8 =>
    stI Mq7 135 8 (1) (vq8) fun Mq9 =>
    stI Mq9 135 8 (2) (vq5) fun Mq10 =>
    ldI Mq10 133 186 (x1 + 0) fun vq11 =>
    stI Mq10 135 8 (3) (vq11) fun Mq12 =>
    ldI Mq12 133 186 (x1 + 2) fun vq13 =>
    stI Mq12 135 8 (4) (vq13) fun Mq14 =>
    ldI Mq14 133 186 ((x1 + 6) + vq2) fun vq15 =>
    stI Mq14 135 8 (5) (vq15) fun Mq16 =>
    pu (gI Mq16 103 6) fun vq17 =>
    b2 (fX13_reckons Mq16 vq17) fun vq18 Mq19 =>
    if 0 < vq18 then
      some (1, Mq19)
    else
      some (0, Mq19)

-- X13_ends
def fX13_ends (M : Mem) (x1 : Int32) (x2 : Int32) : Option Mem :=
  pu (x1 + 3) fun vq1 =>
  ldI M 133 186 (vq1) fun vq2 =>
  stI M 133 186 (vq1) (vq2 + 1) fun Mq3 =>
  ldI Mq3 133 186 (x1 + 4) fun vq4 =>
  pu ((x1 + 10) + vq4) fun vq5 =>
  ldI Mq3 133 186 (vq5) fun vq6 =>
  stI Mq3 133 186 (vq5) (vq6 + 1) fun Mq7 =>
  pu (x1 + 5) fun vq8 =>
  ldI Mq7 133 186 (vq8) fun vq9 =>
  stI Mq7 133 186 (vq8) (vq9 + 1) fun Mq10 =>
  if x2 = 0 then
    some Mq10
  else
    ldI Mq10 133 186 (x1 + 5) fun vq11 =>
    ldI Mq10 133 186 (x1 + 12) fun vq12 =>
    if vq11 < vq12 then
      some Mq10
    else
      b2 (fX13_isStaying Mq10 x1) fun vq13 Mq14 =>
      if vq13 = 0 then
        ldI Mq14 133 186 (x1 + 4) fun vq15 =>
        stI Mq14 133 186 (x1 + 4) (1 - vq15) fun Mq16 =>
        stI Mq16 133 186 (x1 + 5) (0) fun Mq17 =>
        some Mq17
      else
        pu (x1 + 9) fun vq18 =>
        ldI Mq14 133 186 (vq18) fun vq19 =>
        stI Mq14 133 186 (vq18) (vq19 + 1) fun Mq20 =>
        some Mq20

-- X13_goesBy
def fX13_goesBy_b42 (M : Mem) (x1 : Int32) (s0 : Int32) (s1 : Int32) : Option Mem :=
  b2 (fX13_does M s1 s0) fun vq4 Mq5 =>
  b1 (fX13_ends Mq5 x1 1) fun Mq6 =>
  some Mq6

def fX13_goesBy (M : Mem) (x1 : Int32) (x2 : Int32) : Option Mem :=
  ldI M 133 186 (x1 + 3) fun vq1 =>
  b1 (fX13_harvestOf M vq1) fun vq2 =>
  b1 (fX13_gathers M x1 vq2) fun Mq3 =>
  if x2 = (-2) then
    ldI Mq3 133 186 (x1 + 4) fun vq7 =>
    b1 (fX13_wayOf Mq3 x1 vq7) fun vq8 =>
    fX13_goesBy_b42 Mq3 x1 vq8 x1
  else
    fX13_goesBy_b42 Mq3 x1 x2 x1

-- X13_isSeen
def fX13_isSeen_l55 : Nat → Mem → Int32 → Option (Int32 × Mem)
  | 0, _, _ => none
  | n + 1, M, x3 =>
    pu (gI M 103 69) fun vq2 =>
    if x3 < vq2 then
      ldI M 138 16 (2 * x3) fun vq3 =>
      ldI M 139 30 (vq3 - 1) fun vq4 =>
      ldI M 138 16 ((2 * x3) + 1) fun vq5 =>
      if vq4 = vq5 then
        pu (x3 + 1) fun vq6 =>
        fX13_isSeen_l55 n M vq6
      else
        some (0, M)
    else
      some (1, M)

def fX13_isSeen_b29 (a9 : Mem → Int32 → Int32 → Int32 → Option (Int32 × Mem)) (M : Mem) (x1 : Int32) (x2 : Int32) (x3 : Int32) (s0 : Int32) (s1 : Int32) : Option (Int32 × Mem) :=
  b1 (fX13_goesBy M s1 s0) fun Mq7 =>
  ldI Mq7 133 186 (31) fun vq8 =>
  stI Mq7 139 30 (x3 - 1) (vq8) fun Mq9 =>
  pu (x3 + 1) fun vq10 =>
  a9 Mq9 x1 x2 vq10

def fX13_isSeen_l9 : Nat → Mem → Int32 → Int32 → Int32 → Option (Int32 × Mem)
  | 0, _, _, _, _ => none
  | n + 1, M, x1, x2, x3 =>
    if 30 < x3 then
      fX13_isSeen_l55 FU M 0
    else
      if x3 = x1 then
        fX13_isSeen_b29 (fX13_isSeen_l9 n) M x1 x2 x3 x2 31
      else
        fX13_isSeen_b29 (fX13_isSeen_l9 n) M x1 x2 x3 (-2) 31

def fX13_isSeen (M : Mem) (x1 : Int32) (x2 : Int32) : Option (Int32 × Mem) :=
  b1 (fX13_lays0 M 0 31) fun Mq1 =>
  fX13_isSeen_l9 FU Mq1 x1 x2 1

-- X13_another
def fX13_another_b93 (a43 : Mem → Int32 → Int32 → Int32 → Int32 → Option (Int32 × Mem)) (a53 : Mem → Int32 → Int32 → Int32 → Int32 → Int32 → Option (Int32 × Mem)) (M : Mem) (x1 : Int32) (x2 : Int32) (x3 : Int32) (x4 : Int32) (x5 : Int32) : Option (Int32 × Mem) :=
  pu (x5 + 1) fun vq9 =>
  a53 M x1 x2 x3 x4 vq9

def fX13_another_l53 (a43 : Mem → Int32 → Int32 → Int32 → Int32 → Option (Int32 × Mem)) : Nat → Mem → Int32 → Int32 → Int32 → Int32 → Int32 → Option (Int32 × Mem)
  | 0, _, _, _, _, _, _ => none
  | n + 1, M, x1, x2, x3, x4, x5 =>
    pu (gI M 103 1) fun vq4 =>
    if x5 < vq4 then
      b2 (fX13_isSeen M x4 x5) fun vq6 Mq7 =>
      if vq6 = 0 then
        fX13_another_b93 a43 (fX13_another_l53 a43 n) Mq7 x1 x2 x3 x4 x5
      else
        pu (x2 + 1) fun vq8 =>
        if x3 = (-1) then
          pu ((10 * x4) + x5) fun vq10 =>
          fX13_another_b93 a43 (fX13_another_l53 a43 n) Mq7 x1 vq8 vq10 x4 x5
        else
          fX13_another_b93 a43 (fX13_another_l53 a43 n) Mq7 x1 vq8 x3 x4 x5
    else
      pu (x4 + 1) fun vq5 =>
      a43 M x1 x2 x3 vq5

def fX13_another_l43 : Nat → Mem → Int32 → Int32 → Int32 → Int32 → Option (Int32 × Mem)
  | 0, _, _, _, _, _ => none
  | n + 1, M, x1, x2, x3, x4 =>
    if 12 < x4 then
      if x1 = 0 then
        some (x2, M)
      else
        some (x3, M)
    else
      fX13_another_l53 (fX13_another_l43 n) FU M x1 x2 x3 x4 0

def fX13_another (M : Mem) (x1 : Int32) : Option (Int32 × Mem) :=
  pu (sI M 103 0 (0)) fun Mq1 =>
  b2 (fX13_isWhat Mq1 x1 2) fun vq2 Mq3 =>
  if vq2 = 0 then
    some (0, Mq3)
  else
    if x1 = 2 then
      b2 (fX13_isSeen Mq3 0 (-1)) fun vq11 Mq12 =>
      if vq11 = 0 then
        some (0, Mq12)
      else
        some (1, Mq12)
    else
      fX13_another_l43 FU Mq3 x1 0 (-1) 1

-- X13_mostOf
def fX13_mostOf (M : Mem) (x1 : Int32) (x2 : Int32) : Option Int32 :=
  pu (gI M 103 4) fun vq1 =>
  if x1 = vq1 then
    some (0)
  else
    ldI M 137 1024 ((128 * x1) + x2) fun vq2 =>
    some (vq2)

-- X13_isWin
def fX13_isWin_b26 (M : Mem) (x2 : Int32) (s0 : Int32) (s1 : Int32) : Option Int32 :=
  ldI M 113 7 (x2) fun vq4 =>
  ldI M 133 186 (1) fun vq5 =>
  if vq4 + (vq5 / 10) < s1 + s0 then
    some (1)
  else
    some (0)

def fX13_isWin (M : Mem) (x1 : Int32) (x2 : Int32) : Option Int32 :=
  ldI M 111 7 (x1) fun vq1 =>
  ldI M 112 7 (x1) fun vq2 =>
  ldI M 114 7 (x2) fun vq3 =>
  if vq2 = vq3 then
    fX13_isWin_b26 M x2 5 vq1
  else
    fX13_isWin_b26 M x2 0 vq1

-- X13_assault
def fX13_assault_b272 (a185 : Mem → Int32 → Int32 → Int32 → Int32 → Option (Int32 × Mem)) (M : Mem) (x1 : Int32) (x2 : Int32) (x3 : Int32) (x4 : Int32) : Option (Int32 × Mem) :=
  pu (x4 + 1) fun vq8 =>
  a185 M x1 x2 x3 vq8

def fX13_assault_b255 (a185 : Mem → Int32 → Int32 → Int32 → Int32 → Option (Int32 × Mem)) (a201 : Mem → Int32 → Int32 → Int32 → Int32 → Int32 → Option (Int32 × Mem)) (M : Mem) (x1 : Int32) (x2 : Int32) (x3 : Int32) (x4 : Int32) (x5 : Int32) : Option (Int32 × Mem) :=
  pu (x5 + (-1)) fun vq10 =>
  a201 M x1 x2 x3 x4 vq10

def fX13_assault_l201 (a185 : Mem → Int32 → Int32 → Int32 → Int32 → Option (Int32 × Mem)) : Nat → Mem → Int32 → Int32 → Int32 → Int32 → Int32 → Option (Int32 × Mem)
  | 0, _, _, _, _, _, _ => none
  | n + 1, M, x1, x2, x3, x4, x5 =>
    if x5 < 0 then
      if x3 = (-1) then
        fX13_assault_b272 a185 M x1 x2 x3 x4
      else
        pu (x2 ||| ((1 : Int32) <<< (x3 &&& 31 : Int32))) fun vq9 =>
        fX13_assault_b272 a185 M x1 vq9 x3 x4
    else
      if ((x2 : Int32) >>> (x5 &&& 31 : Int32)) &&& 1 = 0 then
        b1 (fX13_isWin M x4 x5) fun vq11 =>
        if vq11 = 0 then
          fX13_assault_b255 a185 (fX13_assault_l201 a185 n) M x1 x2 x3 x4 x5
        else
          b1 (fX13_mostOf M (x4 + 1) (x2 ||| ((1 : Int32) <<< (x5 &&& 31 : Int32)))) fun vq12 =>
          b1 (fX13_mostOf M x4 x2) fun vq13 =>
          if 1 + vq12 = vq13 then
            fX13_assault_b255 a185 (fX13_assault_l201 a185 n) M x1 x2 x5 x4 x5
          else
            fX13_assault_b255 a185 (fX13_assault_l201 a185 n) M x1 x2 x3 x4 x5
      else
        fX13_assault_b255 a185 (fX13_assault_l201 a185 n) M x1 x2 x3 x4 x5

def fX13_assault_l185 : Nat → Mem → Int32 → Int32 → Int32 → Int32 → Option (Int32 × Mem)
  | 0, _, _, _, _, _ => none
  | n + 1, M, x1, x2, x3, x4 =>
    if x1 < x4 then
      some (x3, M)
    else
      pu (gI M 103 5) fun vq6 =>
      pu (vq6 - 1) fun vq7 =>
      fX13_assault_l201 (fX13_assault_l185 n) FU M x1 x2 (-1) x4 vq7

def fX13_assault_b134 (a40 : Mem → Int32 → Int32 → Option (Int32 × Mem)) (a46 : Mem → Int32 → Int32 → Int32 → Option (Int32 × Mem)) (a69 : Mem → Int32 → Int32 → Int32 → Int32 → Int32 → Option (Int32 × Mem)) (M : Mem) (x1 : Int32) (x2 : Int32) (x3 : Int32) (x4 : Int32) (x5 : Int32) : Option (Int32 × Mem) :=
  pu (x5 + 1) fun vq21 =>
  a69 M x1 x2 x3 x4 vq21

def fX13_assault_l69 (a40 : Mem → Int32 → Int32 → Option (Int32 × Mem)) (a46 : Mem → Int32 → Int32 → Int32 → Option (Int32 × Mem)) : Nat → Mem → Int32 → Int32 → Int32 → Int32 → Int32 → Option (Int32 × Mem)
  | 0, _, _, _, _, _, _ => none
  | n + 1, M, x1, x2, x3, x4, x5 =>
    pu (gI M 103 5) fun vq18 =>
    if x5 < vq18 then
      if ((x3 : Int32) >>> (x5 &&& 31 : Int32)) &&& 1 = 0 then
        b1 (fX13_isWin M x2 x5) fun vq22 =>
        if vq22 = 0 then
          fX13_assault_b134 a40 a46 (fX13_assault_l69 a40 a46 n) M x1 x2 x3 x4 x5
        else
          b1 (fX13_mostOf M (x2 + 1) (x3 ||| ((1 : Int32) <<< (x5 &&& 31 : Int32)))) fun vq23 =>
          if x4 < 1 + vq23 then
            b1 (fX13_mostOf M (x2 + 1) (x3 ||| ((1 : Int32) <<< (x5 &&& 31 : Int32)))) fun vq24 =>
            pu (1 + vq24) fun vq25 =>
            fX13_assault_b134 a40 a46 (fX13_assault_l69 a40 a46 n) M x1 x2 x3 vq25 x5
          else
            fX13_assault_b134 a40 a46 (fX13_assault_l69 a40 a46 n) M x1 x2 x3 x4 x5
      else
        fX13_assault_b134 a40 a46 (fX13_assault_l69 a40 a46 n) M x1 x2 x3 x4 x5
    else
      stI M 137 1024 ((128 * x2) + x3) (x4) fun Mq19 =>
      pu (x3 + 1) fun vq20 =>
      a46 Mq19 x1 x2 vq20

def fX13_assault_l46 (a40 : Mem → Int32 → Int32 → Option (Int32 × Mem)) : Nat → Mem → Int32 → Int32 → Int32 → Option (Int32 × Mem)
  | 0, _, _, _, _ => none
  | n + 1, M, x1, x2, x3 =>
    pu (gI M 103 5) fun vq15 =>
    if x3 < (1 : Int32) <<< (vq15 &&& 31 : Int32) then
      b1 (fX13_mostOf M (x2 + 1) x3) fun vq17 =>
      fX13_assault_l69 a40 (fX13_assault_l46 a40 n) FU M x1 x2 x3 vq17 0
    else
      pu (x2 + (-1)) fun vq16 =>
      a40 M x1 vq16

def fX13_assault_l40 : Nat → Mem → Int32 → Int32 → Option (Int32 × Mem)
  | 0, _, _, _ => none
  | n + 1, M, x1, x2 =>
    if x2 < 0 then
      if x1 = (-1) then
        b1 (fX13_mostOf M 0 0) fun vq14 =>
        some (vq14, M)
      else
        fX13_assault_l185 FU M x1 0 (-1) 0
    else
      fX13_assault_l46 (fX13_assault_l40 n) FU M x1 x2 0

def fX13_assault_b24 (M : Mem) (x1 : Int32) (s0 : Int32) : Option (Int32 × Mem) :=
  b2 (fX13_right M s0 1) fun vq2 Mq3 =>
  if vq2 = 0 then
    some (0, Mq3)
  else
    pu (gI Mq3 103 4) fun vq4 =>
    pu (vq4 - 1) fun vq5 =>
    fX13_assault_l40 FU Mq3 x1 vq5

def fX13_assault_b23 (M : Mem) (x1 : Int32) : Option (Int32 × Mem) :=
  fX13_assault_b24 M x1 0

def fX13_assault (M : Mem) (x1 : Int32) : Option (Int32 × Mem) :=
  pu (sI M 103 0 (0)) fun Mq1 =>
  if x1 < (-1) then
    fX13_assault_b23 Mq1 x1
  else
    pu (gI Mq1 103 4) fun vq26 =>
    if x1 < vq26 then
      fX13_assault_b24 Mq1 x1 1
    else
      fX13_assault_b23 Mq1 x1

-- X13_better
def fX13_better_b103 (a27 : Mem → Int32 → Int32 → Int32 → Option (Int32 × Mem)) (M : Mem) (x1 : Int32) (x3 : Int32) (s0 : Int32) (s1 : Int32) : Option (Int32 × Mem) :=
  pu (s1 + s0) fun vq13 =>
  pu (x3 + 1) fun vq14 =>
  a27 M x1 vq13 vq14

def fX13_better_l27 : Nat → Mem → Int32 → Int32 → Int32 → Option (Int32 × Mem)
  | 0, _, _, _, _ => none
  | n + 1, M, x1, x2, x3 =>
    if x3 < 60 then
      ldI M 133 186 (35) fun vq5 =>
      ldI M 133 186 (31) fun vq6 =>
      ldI M 133 186 (33) fun vq7 =>
      pu (vq6 - vq7) fun vq8 =>
      b1 (fX13_goesBy M 31 (-2)) fun Mq9 =>
      ldI Mq9 133 186 (31) fun vq10 =>
      ldI Mq9 133 186 (33) fun vq11 =>
      pu ((vq10 - vq11) - vq8) fun vq12 =>
      if vq5 = 1 then
        fX13_better_b103 (fX13_better_l27 n) Mq9 x1 x3 vq12 x2
      else
        fX13_better_b103 (fX13_better_l27 n) Mq9 x1 x3 (0 - vq12) x2
    else
      if x1 = 0 then
        if 0 < x2 then
          some (1, M)
        else
          some (0, M)
      else
        if 0 < x2 then
          some (x2, M)
        else
          some (0 - x2, M)

def fX13_better (M : Mem) (x1 : Int32) : Option (Int32 × Mem) :=
  pu (sI M 103 0 (0)) fun Mq1 =>
  b2 (fX13_isWhat Mq1 x1 1) fun vq2 Mq3 =>
  if vq2 = 0 then
    some (0, Mq3)
  else
    b1 (fX13_lays0 Mq3 0 31) fun Mq4 =>
    fX13_better_l27 FU Mq4 x1 0 0

-- X13_bits
def fX13_bits_l4 : Nat → Int32 → Int32 → Int32 → Option Int32
  | 0, _, _, _ => none
  | n + 1, x0, x1, x2 =>
    if x2 < 14 then
      pu (x1 + (((x0 : Int32) >>> (x2 &&& 31 : Int32)) &&& 1)) fun vq1 =>
      pu (x2 + 1) fun vq2 =>
      fX13_bits_l4 n x0 vq1 vq2
    else
      some (x1)

def fX13_bits (x0 : Int32) : Option Int32 :=
  fX13_bits_l4 FU x0 0 0

-- X13_isBought
def fX13_isBought_b50 (a2 : Mem → Int32 → Int32 → Option Int32) (a12 : Mem → Int32 → Int32 → Int32 → Option Int32) (M : Mem) (x1 : Int32) (x2 : Int32) (x3 : Int32) : Option Int32 :=
  pu (x3 + 1) fun vq4 =>
  a12 M x1 x2 vq4

def fX13_isBought_l12 (a2 : Mem → Int32 → Int32 → Option Int32) : Nat → Mem → Int32 → Int32 → Int32 → Option Int32
  | 0, _, _, _, _ => none
  | n + 1, M, x1, x2, x3 =>
    pu (gI M 103 5) fun vq2 =>
    if x3 < vq2 then
      if ((x1 : Int32) >>> (x2 &&& 31 : Int32)) &&& 1 = 0 then
        if ((x1 : Int32) >>> ((7 + x3) &&& 31 : Int32)) &&& 1 = 0 then
          b1 (fX13_isWin M x2 x3) fun vq5 =>
          if vq5 = 0 then
            fX13_isBought_b50 a2 (fX13_isBought_l12 a2 n) M x1 x2 x3
          else
            some (0)
        else
          fX13_isBought_b50 a2 (fX13_isBought_l12 a2 n) M x1 x2 x3
      else
        fX13_isBought_b50 a2 (fX13_isBought_l12 a2 n) M x1 x2 x3
    else
      pu (x2 + 1) fun vq3 =>
      a2 M x1 vq3

def fX13_isBought_l2 : Nat → Mem → Int32 → Int32 → Option Int32
  | 0, _, _, _ => none
  | n + 1, M, x1, x2 =>
    pu (gI M 103 4) fun vq1 =>
    if x2 < vq1 then
      fX13_isBought_l12 (fX13_isBought_l2 n) FU M x1 x2 0
    else
      some (1)

def fX13_isBought (M : Mem) (x1 : Int32) : Option Int32 :=
  fX13_isBought_l2 FU M x1 0

-- X13_bought
def fX13_bought_b86 (a42 : Mem → Int32 → Int32 → Int32 → Int32 → Option (Int32 × Mem)) (M : Mem) (x1 : Int32) (x2 : Int32) (x3 : Int32) (x4 : Int32) : Option (Int32 × Mem) :=
  pu (x4 + 1) fun vq8 =>
  a42 M x1 x2 x3 vq8

def fX13_bought_b74 (a42 : Mem → Int32 → Int32 → Int32 → Int32 → Option (Int32 × Mem)) (M : Mem) (x1 : Int32) (x2 : Int32) (x3 : Int32) (x4 : Int32) : Option (Int32 × Mem) :=
  b1 (fX13_isBought M x4) fun vq9 =>
  if vq9 = 0 then
    fX13_bought_b86 a42 M x1 x2 x3 x4
  else
    fX13_bought_b86 a42 M x1 x2 x4 x4

def fX13_bought_l42 : Nat → Mem → Int32 → Int32 → Int32 → Int32 → Option (Int32 × Mem)
  | 0, _, _, _, _, _ => none
  | n + 1, M, x1, x2, x3, x4 =>
    if x2 < x4 then
      if x1 = 0 then
        b1 (fX13_bits x3) fun vq7 =>
        some (vq7, M)
      else
        some (x3, M)
    else
      if x4 &&& (x2 ^^^ (-1)) = 0 then
        if x3 = (-1) then
          fX13_bought_b74 (fX13_bought_l42 n) M x1 x2 x3 x4
        else
          b1 (fX13_bits x4) fun vq10 =>
          b1 (fX13_bits x3) fun vq11 =>
          if vq10 < vq11 then
            fX13_bought_b74 (fX13_bought_l42 n) M x1 x2 x3 x4
          else
            fX13_bought_b86 (fX13_bought_l42 n) M x1 x2 x3 x4
      else
        fX13_bought_b86 (fX13_bought_l42 n) M x1 x2 x3 x4

def fX13_bought (M : Mem) (x1 : Int32) : Option (Int32 × Mem) :=
  pu (sI M 103 0 (0)) fun Mq1 =>
  b2 (fX13_isWhat Mq1 x1 1) fun vq2 Mq3 =>
  if vq2 = 0 then
    some (0, Mq3)
  else
    pu (gI Mq3 103 4) fun vq4 =>
    pu (gI Mq3 103 5) fun vq5 =>
    pu ((((1 : Int32) <<< (vq4 &&& 31 : Int32)) - 1) ||| ((((1 : Int32) <<< (vq5 &&& 31 : Int32)) - 1 : Int32) <<< (7 &&& 31 : Int32))) fun vq6 =>
    fX13_bought_l42 FU Mq3 x1 vq6 (-1) 0

-- X13_isBrother
def fX13_isBrother (M : Mem) (x1 : Int32) : Option (Int32 × Mem) :=
  b1 (fX13_within x1 0 1) fun vq1 =>
  b2 (fX13_right M vq1 1) fun vq2 Mq3 =>
  zz (vq2) <|
  some (vq2, Mq3)

-- X13_brother
def fX13_brother (M : Mem) (x1 : Int32) (x2 : Int32) : Option (Int32 × Mem) :=
  pu (sI M 103 0 (0)) fun Mq1 =>
  b2 (fX13_isBrother Mq1 x1) fun vq2 Mq3 =>
  if vq2 = 0 then
    some (0, Mq3)
  else
    b2 (fX13_isWhat Mq3 x2 5) fun vq4 Mq5 =>
    if vq4 = 0 then
      some (0, Mq5)
    else
      if x2 = 0 then
        ldI Mq5 133 186 (6 + x1) fun vq6 =>
        some (vq6, Mq5)
      else if x2 = 1 then
        ldI Mq5 133 186 (10 + x1) fun vq7 =>
        some (vq7, Mq5)
      else if x2 = 2 then
        ldI Mq5 108 2 (x1) fun vq8 =>
        some (vq8, Mq5)
      else if x2 = 3 then
        b2 (fX13_followers Mq5 0 x1) fun vq9 Mq10 =>
        some (vq9, Mq10)
      else if x2 = 4 then
        b2 (fX13_followers Mq5 0 x1) fun vq11 Mq12 =>
        b1 (fX13_menOf Mq12 vq11) fun vq13 =>
        some (vq13, Mq12)
      else 
        b1 (fX13_wayOf Mq5 0 x1) fun vq14 =>
        some (vq14, Mq5)

-- X13_isDeed
def fX13_isDeed_b18 (M : Mem) (s0 : Int32) : Option (Int32 × Mem) :=
  b2 (fX13_right M s0 1) fun vq1 Mq2 =>
  zz (vq1) <|
  some (vq1, Mq2)

def fX13_isDeed_b17 (M : Mem) : Option (Int32 × Mem) :=
  fX13_isDeed_b18 M 0

def fX13_isDeed (M : Mem) (x1 : Int32) : Option (Int32 × Mem) :=
  if x1 < 0 then
    fX13_isDeed_b17 M
  else
    pu (gI M 103 1) fun vq3 =>
    if x1 < vq3 then
      fX13_isDeed_b18 M 1
    else
      fX13_isDeed_b17 M

-- X13_refuses
def fX13_refuses (M : Mem) (x1 : Int32) : Option (Int32 × Mem) :=
  ldI M 117 3 (x1) fun vq1 =>
  stI M 117 3 (x1) (vq1 + 1) fun Mq2 =>
  some ((-1), Mq2)

-- X13_keeps
def fX13_keeps_l52 : Nat → Mem → Int32 → Option Mem
  | 0, _, _ => none
  | n + 1, M, x1 =>
    if x1 < 31 then
      pu (gI M 103 64) fun vq4 =>
      ldI M 133 186 (x1) fun vq5 =>
      stI M 134 1240 ((31 * vq4) + x1) (vq5) fun Mq6 =>
      pu (x1 + 1) fun vq7 =>
      fX13_keeps_l52 n Mq6 vq7
    else
      pu (gI M 103 64) fun vq2 =>
      pu (sI M 103 64 (vq2 + 1)) fun Mq3 =>
      some Mq3

def fX13_keeps_b50 (M : Mem) : Option Mem :=
  fX13_keeps_l52 FU M 0

def fX13_keeps_l12 : Nat → Mem → Int32 → Option Mem
  | 0, _, _ => none
  | n + 1, M, x1 =>
    if x1 < 1240 then
      ldI M 134 1240 (x1) fun vq10 =>
      stI M 134 1240 (x1 - 31) (vq10) fun Mq11 =>
      pu (x1 + 1) fun vq12 =>
      fX13_keeps_l12 n Mq11 vq12
    else
      pu (gI M 103 64) fun vq8 =>
      pu (sI M 103 64 (vq8 - 1)) fun Mq9 =>
      fX13_keeps_b50 Mq9

def fX13_keeps (M : Mem) : Option Mem :=
  pu (gI M 103 64) fun vq1 =>
  if vq1 = 40 then
    fX13_keeps_l12 FU M 31
  else
    fX13_keeps_b50 M

-- X13_change
def fX13_change_b37 (M : Mem) : Option (Int32 × Mem) :=
  b2 (fX13_refuses M 1) fun vq6 Mq7 =>
  some (vq6, Mq7)

def fX13_change (M : Mem) (x1 : Int32) (x2 : Int32) (x3 : Int32) : Option (Int32 × Mem) :=
  pu (sI M 103 0 (0)) fun Mq1 =>
  b2 (fX13_isBrother Mq1 x1) fun vq2 Mq3 =>
  if vq2 = 0 then
    some (0, Mq3)
  else
    b2 (fX13_isDeed Mq3 x3) fun vq4 Mq5 =>
    if vq4 = 0 then
      some (0, Mq5)
    else
      if x2 < 0 then
        fX13_change_b37 Mq5
      else
        ldI Mq5 108 2 (x1) fun vq8 =>
        if x2 < vq8 then
          b1 (fX13_keeps Mq5) fun Mq9 =>
          ldI Mq9 133 186 ((13 + (6 * x1)) + x2) fun vq10 =>
          stI Mq9 133 186 ((13 + (6 * x1)) + x2) (x3) fun Mq11 =>
          some (vq10, Mq11)
        else
          fX13_change_b37 Mq5

-- X13_draw
def fX13_draw (M : Mem) (x1 : Int32) : Option (Int32 × Mem) :=
  pu (gI M 103 73) fun vq1 =>
  pu (sI M 103 73 ((vq1 * 1103515245) + 12345)) fun Mq2 =>
  pu (gI Mq2 103 73) fun vq3 =>
  nz (x1) <|
  some ((((vq3 : Int32) >>> (16 &&& 31 : Int32)) &&& 32767) - (((vq3 : Int32) >>> (16 &&& 31 : Int32)) &&& 32767) / x1 * x1, Mq2)

-- X13_cities
def fX13_cities_b93 (a46 : Mem → Int32 → Int32 → Int32 → Option (Int32 × Mem)) (M : Mem) (x2 : Int32) (x3 : Int32) (x4 : Int32) (x5 : Int32) : Option (Int32 × Mem) :=
  b1 (fX13_gathers M 31 x5) fun Mq17 =>
  ldI Mq17 133 186 (35) fun vq18 =>
  b1 (fX13_wayOf Mq17 31 vq18) fun vq19 =>
  b2 (fX13_does Mq17 31 vq19) fun vq20 Mq21 =>
  b1 (fX13_ends Mq21 31 1) fun Mq22 =>
  pu (x4 + 1) fun vq23 =>
  a46 Mq22 x2 x3 vq23

def fX13_cities_l46 : Nat → Mem → Int32 → Int32 → Int32 → Option (Int32 × Mem)
  | 0, _, _, _, _ => none
  | n + 1, M, x2, x3, x4 =>
    if x4 < x2 then
      b2 (fX13_draw M 60) fun vq13 Mq14 =>
      b2 (fX13_draw Mq14 9) fun vq15 Mq16 =>
      if vq15 = 0 then
        ldI Mq16 133 186 (35) fun vq24 =>
        stI Mq16 133 186 (35) (1 - vq24) fun Mq25 =>
        stI Mq25 133 186 (36) (0) fun Mq26 =>
        fX13_cities_b93 (fX13_cities_l46 n) Mq26 x2 x3 x4 vq13
      else
        fX13_cities_b93 (fX13_cities_l46 n) Mq16 x2 x3 x4 vq13
    else
      if x3 = 0 then
        ldI M 133 186 (31) fun vq12 =>
        some (vq12, M)
      else
        if x3 = 1 then
          ldI M 133 186 (33) fun vq11 =>
          some (vq11, M)
        else
          ldI M 133 186 (37) fun vq9 =>
          ldI M 133 186 (38) fun vq10 =>
          some (vq9 - vq10, M)

def fX13_cities (M : Mem) (x1 : Int32) (x2 : Int32) (x3 : Int32) : Option (Int32 × Mem) :=
  pu (sI M 103 0 (0)) fun Mq1 =>
  b2 (fX13_isWhat Mq1 x3 2) fun vq2 Mq3 =>
  if vq2 = 0 then
    some (0, Mq3)
  else
    b1 (fX13_within x2 0 60) fun vq4 =>
    b2 (fX13_right Mq3 vq4 2) fun vq5 Mq6 =>
    if vq5 = 0 then
      some (0, Mq6)
    else
      b1 (fX13_lays0 Mq6 0 31) fun Mq7 =>
      pu (sI Mq7 103 73 (x1)) fun Mq8 =>
      fX13_cities_l46 FU Mq8 x2 x3 0

-- X13_isOpen
def fX13_isOpen (x0 : Int32) : Option Int32 :=
  if x0 < 14 then
    some (0)
  else
    some (1)

-- X13_strength
def fX13_strength (x0 : Int32) : Option Int32 :=
  if x0 = 5 then
    some (1)
  else
    if x0 = 4 then
      some (2)
    else
      if x0 = 3 then
        some (3)
      else
        if x0 = 6 then
          some (4)
        else
          if x0 = 7 then
            some (4)
          else
            if x0 = 8 then
              some (5)
            else
              if x0 = 9 then
                some (5)
              else
                some (6)

-- X13_puts
def fX13_puts (M : Mem) (x1 : Int32) : Option Mem :=
  pu (gI M 103 40) fun vq1 =>
  stI M 130 1400 (vq1) (x1) fun Mq2 =>
  pu (gI Mq2 103 40) fun vq3 =>
  pu (sI Mq2 103 40 (vq3 + 1)) fun Mq4 =>
  some Mq4

-- X13_drops
def fX13_drops_l0 : Nat → Mem → Int32 → Option Mem
  | 0, _, _ => none
  | n + 1, M, x1 =>
    pu (gI M 103 43) fun vq1 =>
    if 0 < vq1 then
      pu (gI M 103 43) fun vq2 =>
      ldI M 131 950 (vq2 - 1) fun vq3 =>
      b1 (fX13_isOpen vq3) fun vq4 =>
      if vq4 = 0 then
        pu (gI M 103 43) fun vq5 =>
        ldI M 131 950 (vq5 - 1) fun vq6 =>
        b1 (fX13_strength vq6) fun vq7 =>
        if vq7 < x1 then
          some M
        else
          pu (gI M 103 43) fun vq8 =>
          pu (sI M 103 43 (vq8 - 1)) fun Mq9 =>
          pu (gI Mq9 103 43) fun vq10 =>
          ldI Mq9 131 950 (vq10) fun vq11 =>
          b1 (fX13_puts Mq9 vq11) fun Mq12 =>
          fX13_drops_l0 n Mq12 x1
      else
        some M
    else
      some M

def fX13_drops (M : Mem) (x1 : Int32) : Option Mem :=
  fX13_drops_l0 FU M x1

-- X13_closes
def fX13_closes (M : Mem) : Option Mem :=
  b1 (fX13_drops M 0) fun Mq1 =>
  pu (gI Mq1 103 43) fun vq2 =>
  pu (sI Mq1 103 43 (vq2 - 1)) fun Mq3 =>
  pu (gI Mq3 103 44) fun vq4 =>
  pu (sI Mq3 103 44 (vq4 - 1)) fun Mq5 =>
  b1 (fX13_goes Mq5) fun Mq6 =>
  some Mq6

-- X13_copies
def fX13_copies_l2 : Nat → Mem → Nat → Nat → Int32 → Option Mem
  | 0, _, _, _, _ => none
  | n + 1, M, x1, x2, x3 =>
    ck (kd x1 = 20) <| ck (kd x2 = 20) <| if x3 < Int32.ofNat (ln x1) then
      ldI M x1 (ln x1) (x3) fun vq1 =>
      stI M x2 (ln x2) (x3) (vq1) fun Mq2 =>
      pu (x3 + 1) fun vq3 =>
      fX13_copies_l2 n Mq2 x1 x2 vq3
    else
      some M

def fX13_copies (M : Mem) (x1 : Nat) (x2 : Nat) : Option Mem :=
  ck (kd x1 = 20) <| ck (kd x2 = 20) <| fX13_copies_l2 FU M x1 x2 0

-- X13_goesYears
def fX13_goesYears_l2 : Nat → Mem → Int32 → Int32 → Int32 → Option Mem
  | 0, _, _, _, _ => none
  | n + 1, M, x1, x2, x3 =>
    if x3 < x2 then
      b1 (fX13_goesBy M x1 (-2)) fun Mq1 =>
      pu (x3 + 1) fun vq2 =>
      fX13_goesYears_l2 n Mq1 x1 x2 vq2
    else
      some M

def fX13_goesYears (M : Mem) (x1 : Int32) (x2 : Int32) : Option Mem :=
  fX13_goesYears_l2 FU M x1 x2 0

-- X13_cost
def fX13_cost_l61 : Nat → Mem → Int32 → Int32 → Int32 → Option (Int32 × Mem)
  | 0, _, _, _, _ => none
  | n + 1, M, x1, x2, x3 =>
    if x3 < x1 then
      ldI M 133 186 (34) fun vq13 =>
      b1 (fX13_harvestOf M vq13) fun vq14 =>
      b1 (fX13_gathers M 31 vq14) fun Mq15 =>
      ldI Mq15 133 186 (35) fun vq16 =>
      b1 (fX13_wayOf Mq15 31 vq16) fun vq17 =>
      b2 (fX13_does Mq15 31 vq17) fun vq18 Mq19 =>
      b1 (fX13_ends Mq19 31 0) fun Mq20 =>
      pu (x3 + 1) fun vq21 =>
      fX13_cost_l61 n Mq20 x1 x2 vq21
    else
      ldI M 133 186 (31) fun vq11 =>
      ldI M 133 186 (33) fun vq12 =>
      some ((vq11 - vq12) - x2, M)

def fX13_cost (M : Mem) (x1 : Int32) : Option (Int32 × Mem) :=
  pu (sI M 103 0 (0)) fun Mq1 =>
  b1 (fX13_within x1 1 60) fun vq2 =>
  b2 (fX13_right Mq1 vq2 1) fun vq3 Mq4 =>
  if vq3 = 0 then
    some (0, Mq4)
  else
    b1 (fX13_lays0 Mq4 0 31) fun Mq5 =>
    b1 (fX13_goesYears Mq5 31 x1) fun Mq6 =>
    ldI Mq6 133 186 (31) fun vq7 =>
    ldI Mq6 133 186 (33) fun vq8 =>
    pu (vq7 - vq8) fun vq9 =>
    b1 (fX13_lays0 Mq6 0 31) fun Mq10 =>
    fX13_cost_l61 FU Mq10 x1 vq9 0

-- X13_count
def fX13_count (M : Mem) (x1 : Int32) : Option (Int32 × Mem) :=
  pu (sI M 103 0 (0)) fun Mq1 =>
  b1 (fX13_within x1 0 18) fun vq2 =>
  b2 (fX13_right Mq1 vq2 1) fun vq3 Mq4 =>
  if vq3 = 0 then
    some (0, Mq4)
  else
    if x1 = 0 then
      ldI Mq4 133 186 (0 + x1) fun vq5 =>
      some (vq5, Mq4)
    else if x1 = 1 then
      ldI Mq4 133 186 (0 + x1) fun vq6 =>
      some (vq6, Mq4)
    else if x1 = 2 then
      ldI Mq4 133 186 (0 + x1) fun vq7 =>
      some (vq7, Mq4)
    else if x1 = 3 then
      ldI Mq4 133 186 (0 + x1) fun vq8 =>
      some (vq8, Mq4)
    else if x1 = 4 then
      ldI Mq4 133 186 (0 + x1) fun vq9 =>
      some (vq9, Mq4)
    else if x1 = 5 then
      ldI Mq4 133 186 (0 + x1) fun vq10 =>
      some (vq10, Mq4)
    else if x1 = 6 then
      ldI Mq4 133 186 (12) fun vq11 =>
      some (vq11, Mq4)
    else if x1 = 7 then
      ldI Mq4 133 186 (8) fun vq12 =>
      some (vq12, Mq4)
    else if x1 = 8 then
      ldI Mq4 133 186 (9) fun vq13 =>
      some (vq13, Mq4)
    else if x1 = 9 then
      pu (gI Mq4 103 1) fun vq14 =>
      some (vq14, Mq4)
    else if x1 = 10 then
      pu (gI Mq4 103 3) fun vq15 =>
      some (vq15, Mq4)
    else if x1 = 11 then
      pu (gI Mq4 103 4) fun vq16 =>
      some (vq16, Mq4)
    else if x1 = 12 then
      pu (gI Mq4 103 5) fun vq17 =>
      some (vq17, Mq4)
    else if x1 = 13 then
      pu (gI Mq4 103 64) fun vq18 =>
      some (vq18, Mq4)
    else if x1 = 14 then
      pu (gI Mq4 103 69) fun vq19 =>
      some (vq19, Mq4)
    else if x1 = 15 then
      pu (gI Mq4 103 21) fun vq20 =>
      some (vq20, Mq4)
    else 
      ldI Mq4 117 3 (x1 - 16) fun vq21 =>
      some (vq21, Mq4)

-- X13_deed
def fX13_deed (M : Mem) (x1 : Int32) (x2 : Int32) : Option (Int32 × Mem) :=
  pu (sI M 103 0 (0)) fun Mq1 =>
  b2 (fX13_isDeed Mq1 x1) fun vq2 Mq3 =>
  if vq2 = 0 then
    some (0, Mq3)
  else
    b2 (fX13_isWhat Mq3 x2 4) fun vq4 Mq5 =>
    if vq4 = 0 then
      some (0, Mq5)
    else
      if x2 = 0 then
        ldI Mq5 104 7 (x1) fun vq11 =>
        some (vq11, Mq5)
      else
        if x2 = 1 then
          ldI Mq5 105 7 (x1) fun vq10 =>
          some (vq10, Mq5)
        else
          if x2 = 2 then
            ldI Mq5 106 7 (x1) fun vq9 =>
            some (vq9, Mq5)
          else
            if x2 = 3 then
              ldI Mq5 107 7 (x1) fun vq8 =>
              some (vq8, Mq5)
            else
              ldI Mq5 104 7 (x1) fun vq6 =>
              ldI Mq5 133 186 (0) fun vq7 =>
              if vq7 < vq6 then
                some (0, Mq5)
              else
                some (1, Mq5)

-- X13_isSign
def fX13_isSign (M : Mem) (x1 : Int32) : Option Int32 :=
  pu (gI M 103 27) fun vq1 =>
  if vq1 = 3 then
    pu (gI M 103 31) fun vq2 =>
    if vq2 = x1 then
      some (1)
    else
      some (0)
  else
    some (0)

-- X13_deeper
def fX13_deeper_b61 (M : Mem) (s0 : Int32) : Option Mem :=
  b1 (fX13_wrong M s0) fun Mq3 =>
  some Mq3

def fX13_deeper_b56 (M : Mem) : Option Mem :=
  fX13_deeper_b61 M 2

def fX13_deeper (M : Mem) : Option Mem :=
  pu (gI M 103 44) fun vq1 =>
  if vq1 < 6 then
    pu (gI M 103 44) fun vq6 =>
    pu (sI M 103 44 (vq6 + 1)) fun Mq7 =>
    pu (gI Mq7 103 44) fun vq8 =>
    stI Mq7 132 9 (vq8) (vp_nar .boolean (0)) fun Mq9 =>
    some Mq9
  else
    pu (gI M 103 27) fun vq2 =>
    if vq2 = 2 then
      fX13_deeper_b56 M
    else
      pu (gI M 103 27) fun vq4 =>
      if vq4 = 1 then
        fX13_deeper_b56 M
      else
        b1 (fX13_isSign M 40) fun vq5 =>
        if vq5 = 0 then
          fX13_deeper_b61 M 1
        else
          fX13_deeper_b56 M

-- X13_spelled
def fX13_spelled_b102 (x7 : Int32) (x8 : Int64) : Option Int64 :=
  if x7 = 0 then
    some (x8)
  else
    pu (((x8 : Int64) <<< (Int32.toInt64 5 &&& 63 : Int64)) ||| (Int32.toInt64 (x7 - 96))) fun vq2 =>
    some (vq2)

def fX13_spelled_b84 (x6 : Int32) (x7 : Int32) (x8 : Int64) : Option Int64 :=
  if x6 = 0 then
    fX13_spelled_b102 x7 x8
  else
    pu (((x8 : Int64) <<< (Int32.toInt64 5 &&& 63 : Int64)) ||| (Int32.toInt64 (x6 - 96))) fun vq3 =>
    fX13_spelled_b102 x7 vq3

def fX13_spelled_b66 (x5 : Int32) (x6 : Int32) (x7 : Int32) (x8 : Int64) : Option Int64 :=
  if x5 = 0 then
    fX13_spelled_b84 x6 x7 x8
  else
    pu (((x8 : Int64) <<< (Int32.toInt64 5 &&& 63 : Int64)) ||| (Int32.toInt64 (x5 - 96))) fun vq4 =>
    fX13_spelled_b84 x6 x7 vq4

def fX13_spelled_b48 (x4 : Int32) (x5 : Int32) (x6 : Int32) (x7 : Int32) (x8 : Int64) : Option Int64 :=
  if x4 = 0 then
    fX13_spelled_b66 x5 x6 x7 x8
  else
    pu (((x8 : Int64) <<< (Int32.toInt64 5 &&& 63 : Int64)) ||| (Int32.toInt64 (x4 - 96))) fun vq5 =>
    fX13_spelled_b66 x5 x6 x7 vq5

def fX13_spelled_b32 (x3 : Int32) (x4 : Int32) (x5 : Int32) (x6 : Int32) (x7 : Int32) (x8 : Int64) : Option Int64 :=
  if x3 = 0 then
    fX13_spelled_b48 x4 x5 x6 x7 x8
  else
    pu (((x8 : Int64) <<< (Int32.toInt64 5 &&& 63 : Int64)) ||| (Int32.toInt64 (x3 - 96))) fun vq6 =>
    fX13_spelled_b48 x4 x5 x6 x7 vq6

def fX13_spelled (x0 : Int32) (x1 : Int32) (x2 : Int32) (x3 : Int32) (x4 : Int32) (x5 : Int32) (x6 : Int32) (x7 : Int32) : Option Int64 :=
  pu ((((Int32.toInt64 x0) - 96 : Int64) <<< (Int32.toInt64 5 &&& 63 : Int64)) ||| (Int32.toInt64 (x1 - 96))) fun vq1 =>
  if x2 = 0 then
    fX13_spelled_b32 x3 x4 x5 x6 x7 vq1
  else
    pu (((vq1 : Int64) <<< (Int32.toInt64 5 &&& 63 : Int64)) ||| (Int32.toInt64 (x2 - 96))) fun vq7 =>
    fX13_spelled_b32 x3 x4 x5 x6 x7 vq7

-- X13_letters
def fX13_letters (x0 : Int32) : Option Int64 :=
  if x0 = 0 then
    b1 (fX13_spelled 119 97 108 108 115 0 0 0) fun vq1 =>
    some (vq1)
  else if x0 = 1 then
    b1 (fX13_spelled 121 101 97 114 0 0 0 0) fun vq2 =>
    some (vq2)
  else if x0 = 2 then
    b1 (fX13_spelled 109 101 110 0 0 0 0 0) fun vq3 =>
    some (vq3)
  else if x0 = 3 then
    b1 (fX13_spelled 115 116 111 114 101 0 0 0) fun vq4 =>
    some (vq4)
  else if x0 = 4 then
    b1 (fX13_spelled 100 101 98 116 0 0 0 0) fun vq5 =>
    some (vq5)
  else if x0 = 5 then
    b1 (fX13_spelled 103 108 111 114 121 0 0 0) fun vq6 =>
    some (vq6)
  else if x0 = 6 then
    b1 (fX13_spelled 114 117 108 101 115 0 0 0) fun vq7 =>
    some (vq7)
  else if x0 = 7 then
    b1 (fX13_spelled 108 101 97 110 0 0 0 0) fun vq8 =>
    some (vq8)
  else if x0 = 8 then
    b1 (fX13_spelled 99 105 116 121 0 0 0 0) fun vq9 =>
    some (vq9)
  else if x0 = 9 then
    b1 (fX13_spelled 100 101 101 100 0 0 0 0) fun vq10 =>
    some (vq10)
  else if x0 = 10 then
    b1 (fX13_spelled 101 108 100 101 114 0 0 0) fun vq11 =>
    some (vq11)
  else if x0 = 11 then
    b1 (fX13_spelled 121 111 117 110 103 101 114 0) fun vq12 =>
    some (vq12)
  else if x0 = 12 then
    b1 (fX13_spelled 104 97 114 118 101 115 116 115) fun vq13 =>
    some (vq13)
  else if x0 = 13 then
    b1 (fX13_spelled 116 101 114 109 0 0 0 0) fun vq14 =>
    some (vq14)
  else if x0 = 14 then
    b1 (fX13_spelled 102 114 105 101 110 100 0 0) fun vq15 =>
    some (vq15)
  else if x0 = 15 then
    b1 (fX13_spelled 99 104 97 109 112 105 111 110) fun vq16 =>
    some (vq16)
  else if x0 = 16 then
    b1 (fX13_spelled 103 97 116 101 0 0 0 0) fun vq17 =>
    some (vq17)
  else if x0 = 17 then
    b1 (fX13_spelled 115 116 97 121 115 0 0 0) fun vq18 =>
    some (vq18)
  else if x0 = 18 then
    b1 (fX13_spelled 108 105 107 101 115 0 0 0) fun vq19 =>
    some (vq19)
  else if x0 = 19 then
    b1 (fX13_spelled 97 110 100 0 0 0 0 0) fun vq20 =>
    some (vq20)
  else if x0 = 20 then
    b1 (fX13_spelled 111 114 0 0 0 0 0 0) fun vq21 =>
    some (vq21)
  else 
    b1 (fX13_spelled 110 111 116 0 0 0 0 0) fun vq22 =>
    some (vq22)

-- X13_knownWord
def fX13_knownWord_l21 : Nat → Mem → Int32 → Option Int32
  | 0, _, _ => none
  | n + 1, M, x1 =>
    if x1 < 22 then
      b1 (fX13_letters x1) fun vq3 =>
      pu (gL M 103 32) fun vq4 =>
      if lg_cmp (vq3) (vq4) = 0 then
        some (x1)
      else
        pu (x1 + 1) fun vq5 =>
        fX13_knownWord_l21 n M vq5
    else
      some ((-1))

def fX13_knownWord (M : Mem) : Option Int32 :=
  pu (gI M 103 27) fun vq1 =>
  if vq1 = 1 then
    pu (gI M 103 29) fun vq2 =>
    if 8 < vq2 then
      some ((-1))
    else
      fX13_knownWord_l21 FU M 0
  else
    some ((-1))

-- X13_waitsFor
def fX13_waitsFor (M : Mem) (x1 : Int32) : Option Mem :=
  pu (gI M 103 43) fun vq1 =>
  stI M 131 950 (vq1) (x1) fun Mq2 =>
  pu (gI Mq2 103 43) fun vq3 =>
  pu (sI Mq2 103 43 (vq3 + 1)) fun Mq4 =>
  some Mq4

-- X13_part
def fX13_part_b97 (M : Mem) : Option Mem :=
  b1 (fX13_isGood M) fun vq5 =>
  if vq5 = 0 then
    some M
  else
    b1 (fX13_goes M) fun Mq6 =>
    some Mq6

def fX13_part_b79 (M : Mem) (x1 : Int32) : Option Mem :=
  b1 (fX13_puts M 2) fun Mq10 =>
  b1 (fX13_puts Mq10 x1) fun Mq11 =>
  fX13_part_b97 Mq11

def fX13_part_b74 (M : Mem) (x1 : Int32) : Option Mem :=
  b1 (fX13_wrong M 3) fun Mq9 =>
  fX13_part_b79 Mq9 x1

def fX13_part_b29 (M : Mem) : Option Mem :=
  b1 (fX13_puts M 1) fun Mq14 =>
  pu (gI Mq14 103 30) fun vq15 =>
  b1 (fX13_puts Mq14 vq15) fun Mq16 =>
  fX13_part_b97 Mq16

def fX13_part (M : Mem) : Option Mem :=
  b1 (fX13_isGood M) fun vq1 =>
  if vq1 = 0 then
    some M
  else
    pu (gI M 103 27) fun vq2 =>
    if vq2 = 2 then
      pu (gI M 103 29) fun vq13 =>
      if 4 < vq13 then
        b1 (fX13_wrong M 2) fun Mq17 =>
        fX13_part_b29 Mq17
      else
        fX13_part_b29 M
    else
      pu (gI M 103 27) fun vq3 =>
      if vq3 = 1 then
        b1 (fX13_knownWord M) fun vq7 =>
        pu (gI M 103 41) fun vq8 =>
        if vq7 < vq8 then
          fX13_part_b74 M vq7
        else
          pu (gI M 103 42) fun vq12 =>
          if vq12 < vq7 then
            fX13_part_b74 M vq7
          else
            fX13_part_b79 M vq7
      else
        b1 (fX13_wrong M 1) fun Mq4 =>
        fX13_part_b97 Mq4

-- X13_operand
def fX13_operand_b120 (M : Mem) : Option Mem :=
  b1 (fX13_part M) fun Mq1 =>
  some Mq1

def fX13_operand_b117 (a4 : Mem → Int32 → Int32 → Option Mem) (M : Mem) (x2 : Int32) (x3 : Int32) : Option Mem :=
  a4 M x2 x3

def fX13_operand_b96 (a4 : Mem → Int32 → Int32 → Option Mem) (M : Mem) (x2 : Int32) (s0 : Int32) : Option Mem :=
  if s0 = 0 then
    fX13_operand_b117 a4 M x2 s0
  else
    b1 (fX13_waitsFor M 14) fun Mq5 =>
    b1 (fX13_goes Mq5) fun Mq6 =>
    b1 (fX13_deeper Mq6) fun Mq7 =>
    fX13_operand_b117 a4 Mq7 1 s0

def fX13_operand_b95 (a4 : Mem → Int32 → Int32 → Option Mem) (M : Mem) (x2 : Int32) : Option Mem :=
  fX13_operand_b96 a4 M x2 0

def fX13_operand_b75 (a4 : Mem → Int32 → Int32 → Option Mem) (M : Mem) (x2 : Int32) : Option Mem :=
  b1 (fX13_isGood M) fun vq4 =>
  if vq4 = 0 then
    fX13_operand_b95 a4 M x2
  else
    b1 (fX13_isSign M 40) fun vq8 =>
    if vq8 = 0 then
      fX13_operand_b95 a4 M x2
    else
      fX13_operand_b96 a4 M x2 1

def fX13_operand_b50 (a4 : Mem → Int32 → Int32 → Option Mem) (a18 : Mem → Int32 → Int32 → Option Mem) (M : Mem) (x2 : Int32) (x4 : Int32) : Option Mem :=
  pu (x4 + 1) fun vq10 =>
  b1 (fX13_isGood M) fun vq11 =>
  if vq11 = 0 then
    a18 M x2 vq10
  else
    b1 (fX13_waitsFor M 3) fun Mq12 =>
    b1 (fX13_goes Mq12) fun Mq13 =>
    a18 Mq13 x2 vq10

def fX13_operand_l18 (a4 : Mem → Int32 → Int32 → Option Mem) : Nat → Mem → Int32 → Int32 → Option Mem
  | 0, _, _, _ => none
  | n + 1, M, x2, x4 =>
    b1 (fX13_isGood M) fun vq3 =>
    if vq3 = 0 then
      fX13_operand_b75 a4 M x2
    else
      if x2 = 0 then
        fX13_operand_b75 a4 M x2
      else
        b1 (fX13_knownWord M) fun vq9 =>
        if vq9 = 21 then
          if x4 = 6 then
            b1 (fX13_wrong M 2) fun Mq14 =>
            fX13_operand_b50 a4 (fX13_operand_l18 a4 n) Mq14 x2 x4
          else
            fX13_operand_b50 a4 (fX13_operand_l18 a4 n) M x2 x4
        else
          fX13_operand_b75 a4 M x2

def fX13_operand_l4 : Nat → Mem → Int32 → Int32 → Option Mem
  | 0, _, _, _ => none
  | n + 1, M, x2, x3 =>
    if x3 = 0 then
      fX13_operand_b120 M
    else
      b1 (fX13_isGood M) fun vq2 =>
      if vq2 = 0 then
        fX13_operand_b120 M
      else
        fX13_operand_l18 (fX13_operand_l4 n) FU M x2 0

def fX13_operand (M : Mem) (x1 : Int32) : Option Mem :=
  fX13_operand_l4 FU M x1 1

-- X13_isOpened
def fX13_isOpened_b29 (M : Mem) (x1 : Int32) : Option Int32 :=
  if x1 < 0 then
    some (0)
  else
    some (1)

def fX13_isOpened_l7 : Nat → Mem → Int32 → Option Int32
  | 0, _, _ => none
  | n + 1, M, x1 =>
    if x1 < 0 then
      fX13_isOpened_b29 M x1
    else
      ldI M 131 950 (x1) fun vq3 =>
      b1 (fX13_isOpen vq3) fun vq4 =>
      if vq4 = 0 then
        pu (x1 + (-1)) fun vq5 =>
        fX13_isOpened_l7 n M vq5
      else
        fX13_isOpened_b29 M x1

def fX13_isOpened (M : Mem) : Option Int32 :=
  pu (gI M 103 43) fun vq1 =>
  pu (vq1 - 1) fun vq2 =>
  fX13_isOpened_l7 FU M vq2

-- X13_expression
def fX13_expression_b360 (M : Mem) : Option Mem :=
  b1 (fX13_drops M 0) fun Mq9 =>
  b1 (fX13_puts Mq9 0) fun Mq10 =>
  some Mq10

def fX13_expression_b340 (M : Mem) : Option Mem :=
  b1 (fX13_isGood M) fun vq8 =>
  if vq8 = 0 then
    fX13_expression_b360 M
  else
    pu (gI M 103 44) fun vq11 =>
    if 1 < vq11 then
      b1 (fX13_wrong M 1) fun Mq12 =>
      fX13_expression_b360 Mq12
    else
      fX13_expression_b360 M

def fX13_expression_b337 (a39 : Mem → Int32 → Option Mem) (M : Mem) (x3 : Int32) : Option Mem :=
  a39 M x3

def fX13_expression_b99 (a39 : Mem → Int32 → Option Mem) (M : Mem) (x3 : Int32) (s0 : Int32) : Option Mem :=
  b1 (fX13_waitsFor M s0) fun Mq16 =>
  pu (gI Mq16 103 44) fun vq17 =>
  stI Mq16 132 9 (vq17) (vp_nar .boolean (0)) fun Mq18 =>
  b1 (fX13_goes Mq18) fun Mq19 =>
  b1 (fX13_operand Mq19 1) fun Mq20 =>
  fX13_expression_b337 a39 Mq20 x3

def fX13_expression_b83 (a39 : Mem → Int32 → Option Mem) (M : Mem) (x3 : Int32) (x4 : Int32) (s0 : Int32) : Option Mem :=
  b1 (fX13_drops M s0) fun Mq15 =>
  if x4 = 19 then
    fX13_expression_b99 a39 Mq15 x3 4
  else
    fX13_expression_b99 a39 Mq15 x3 5

def fX13_expression_b70 (a39 : Mem → Int32 → Option Mem) (M : Mem) (x3 : Int32) (x4 : Int32) : Option Mem :=
  if x4 = 19 then
    fX13_expression_b83 a39 M x3 x4 2
  else
    fX13_expression_b83 a39 M x3 x4 1

def fX13_expression_b241 (a39 : Mem → Int32 → Option Mem) (M : Mem) (x3 : Int32) (s0 : Int32) : Option Mem :=
  b1 (fX13_waitsFor M s0) fun Mq27 =>
  b1 (fX13_goes Mq27) fun Mq28 =>
  b1 (fX13_operand Mq28 0) fun Mq29 =>
  fX13_expression_b337 a39 Mq29 x3

def fX13_expression_b219 (a39 : Mem → Int32 → Option Mem) (M : Mem) (x3 : Int32) : Option Mem :=
  b1 (fX13_drops M 5) fun Mq25 =>
  b1 (fX13_isSign Mq25 43) fun vq26 =>
  if vq26 = 0 then
    fX13_expression_b241 a39 Mq25 x3 9
  else
    fX13_expression_b241 a39 Mq25 x3 8

def fX13_expression_b297 (a39 : Mem → Int32 → Option Mem) (M : Mem) (x3 : Int32) (s0 : Int32) : Option Mem :=
  b1 (fX13_waitsFor M s0) fun Mq34 =>
  b1 (fX13_goes Mq34) fun Mq35 =>
  b1 (fX13_operand Mq35 0) fun Mq36 =>
  fX13_expression_b337 a39 Mq36 x3

def fX13_expression_b274 (a39 : Mem → Int32 → Option Mem) (M : Mem) (x3 : Int32) : Option Mem :=
  b1 (fX13_drops M 6) fun Mq32 =>
  b1 (fX13_isSign Mq32 42) fun vq33 =>
  if vq33 = 0 then
    fX13_expression_b297 a39 Mq32 x3 11
  else
    fX13_expression_b297 a39 Mq32 x3 10

def fX13_expression_b335 (a39 : Mem → Int32 → Option Mem) (M : Mem) : Option Mem :=
  fX13_expression_b337 a39 M 0

def fX13_expression_b201 (a39 : Mem → Int32 → Option Mem) (M : Mem) (x3 : Int32) : Option Mem :=
  b1 (fX13_isSign M 43) fun vq24 =>
  if vq24 = 0 then
    b1 (fX13_isSign M 45) fun vq30 =>
    if vq30 = 0 then
      b1 (fX13_isSign M 42) fun vq31 =>
      if vq31 = 0 then
        b1 (fX13_isSign M 47) fun vq37 =>
        if vq37 = 0 then
          b1 (fX13_isSign M 41) fun vq38 =>
          if vq38 = 0 then
            fX13_expression_b335 a39 M
          else
            b1 (fX13_isOpened M) fun vq39 =>
            if vq39 = 0 then
              fX13_expression_b335 a39 M
            else
              b1 (fX13_closes M) fun Mq40 =>
              fX13_expression_b337 a39 Mq40 x3
        else
          fX13_expression_b274 a39 M x3
      else
        fX13_expression_b274 a39 M x3
    else
      fX13_expression_b219 a39 M x3
  else
    fX13_expression_b219 a39 M x3

def fX13_expression_b176 (a39 : Mem → Int32 → Option Mem) (M : Mem) (x3 : Int32) (s0 : Int32) : Option Mem :=
  b1 (fX13_waitsFor M s0) fun Mq43 =>
  pu (gI Mq43 103 44) fun vq44 =>
  stI Mq43 132 9 (vq44) (vp_nar .boolean (1)) fun Mq45 =>
  b1 (fX13_goes Mq45) fun Mq46 =>
  b1 (fX13_operand Mq46 0) fun Mq47 =>
  fX13_expression_b337 a39 Mq47 x3

def fX13_expression_b142 (a39 : Mem → Int32 → Option Mem) (M : Mem) (x3 : Int32) : Option Mem :=
  pu (gI M 103 44) fun vq22 =>
  ldI M 132 9 (vq22) fun vq23 =>
  if vq23 = 0 then
    b1 (fX13_drops M 4) fun Mq41 =>
    b1 (fX13_isSign Mq41 60) fun vq42 =>
    if vq42 = 0 then
      fX13_expression_b176 a39 Mq41 x3 7
    else
      fX13_expression_b176 a39 Mq41 x3 6
  else
    fX13_expression_b201 a39 M x3

def fX13_expression_l39 : Nat → Mem → Int32 → Option Mem
  | 0, _, _ => none
  | n + 1, M, x3 =>
    if x3 = 0 then
      fX13_expression_b340 M
    else
      b1 (fX13_isGood M) fun vq13 =>
      if vq13 = 0 then
        fX13_expression_b340 M
      else
        b1 (fX13_knownWord M) fun vq14 =>
        if vq14 = 19 then
          fX13_expression_b70 (fX13_expression_l39 n) M x3 vq14
        else
          if vq14 = 20 then
            fX13_expression_b70 (fX13_expression_l39 n) M x3 vq14
          else
            b1 (fX13_isSign M 60) fun vq21 =>
            if vq21 = 0 then
              b1 (fX13_isSign M 61) fun vq48 =>
              if vq48 = 0 then
                fX13_expression_b201 (fX13_expression_l39 n) M x3
              else
                fX13_expression_b142 (fX13_expression_l39 n) M x3
            else
              fX13_expression_b142 (fX13_expression_l39 n) M x3

def fX13_expression (M : Mem) (x1 : Int32) (x2 : Int32) : Option Mem :=
  b1 (fX13_isGood M) fun vq1 =>
  if vq1 = 0 then
    some M
  else
    pu (sI M 103 41 (x1)) fun Mq2 =>
    pu (sI Mq2 103 42 (x2)) fun Mq3 =>
    pu (sI Mq3 103 43 (0)) fun Mq4 =>
    pu (sI Mq4 103 44 (0)) fun Mq5 =>
    b1 (fX13_deeper Mq5) fun Mq6 =>
    b1 (fX13_operand Mq6 1) fun Mq7 =>
    fX13_expression_l39 FU Mq7 1

-- X13_goesByTerm
def fX13_goesByTerm (M : Mem) (x1 : Int32) : Option Mem :=
  b1 (fX13_lays0 M 0 31) fun Mq1 =>
  stI Mq1 133 186 (43) (x1) fun Mq2 =>
  b1 (fX13_goesYears Mq2 31 30) fun Mq3 =>
  some Mq3

-- X13_fair
def fX13_fair_l7 : Nat → Mem → Int32 → Option (Int32 × Mem)
  | 0, _, _ => none
  | n + 1, M, x1 =>
    if 5 < x1 then
      some ((-1), M)
    else
      b1 (fX13_goesByTerm M x1) fun Mq2 =>
      ldI Mq2 133 186 (40) fun vq3 =>
      ldI Mq2 133 186 (9) fun vq4 =>
      if vq3 = vq4 then
        some (x1, Mq2)
      else
        pu (x1 + 1) fun vq5 =>
        fX13_fair_l7 n Mq2 vq5

def fX13_fair (M : Mem) : Option (Int32 × Mem) :=
  pu (sI M 103 0 (0)) fun Mq1 =>
  fX13_fair_l7 FU Mq1 1

-- X13_fault
def fX13_fault (M : Mem) : Option (Int32 × Mem) :=
  pu (sI M 103 0 (0)) fun Mq1 =>
  pu (gI Mq1 103 23) fun vq2 =>
  some (vq2, Mq1)

-- X13_lays
def fX13_lays_l3 : Nat → Mem → Int32 → Int32 → Option Mem
  | 0, _, _, _ => none
  | n + 1, M, x1, x2 =>
    if x2 < 0 then
      some M
    else
      pu (gI M 103 21) fun vq1 =>
      stI M 116 700 (vq1) (((x1 : Int32) >>> (x2 &&& 31 : Int32)) &&& 255) fun Mq2 =>
      pu (gI Mq2 103 21) fun vq3 =>
      pu (sI Mq2 103 21 (vq3 + 1)) fun Mq4 =>
      pu (x2 + (-8)) fun vq5 =>
      fX13_lays_l3 n Mq4 x1 vq5

def fX13_lays (M : Mem) (x1 : Int32) : Option Mem :=
  fX13_lays_l3 FU M x1 24

-- X13_feed
def fX13_feed (M : Mem) (x1 : Int32) (x2 : Int32) (x3 : Int32) (x4 : Int32) (x5 : Int32) : Option (Int32 × Mem) :=
  pu (sI M 103 0 (0)) fun Mq1 =>
  pu (gI Mq1 103 21) fun vq2 =>
  if 700 < vq2 + 20 then
    some ((-1), Mq1)
  else
    b1 (fX13_lays Mq1 x1) fun Mq3 =>
    b1 (fX13_lays Mq3 x2) fun Mq4 =>
    b1 (fX13_lays Mq4 x3) fun Mq5 =>
    b1 (fX13_lays Mq5 x4) fun Mq6 =>
    b1 (fX13_lays Mq6 x5) fun Mq7 =>
    pu (gI Mq7 103 21) fun vq8 =>
    some (vq8, Mq7)

-- X13_forget
def fX13_forget (M : Mem) : Option Mem :=
  pu (sI M 103 0 (0)) fun Mq1 =>
  pu (sI Mq1 103 69 (0)) fun Mq2 =>
  some Mq2

-- X13_isFriend
def fX13_isFriend_b18 (M : Mem) (s0 : Int32) : Option (Int32 × Mem) :=
  b2 (fX13_right M s0 1) fun vq1 Mq2 =>
  zz (vq1) <|
  some (vq1, Mq2)

def fX13_isFriend_b17 (M : Mem) : Option (Int32 × Mem) :=
  fX13_isFriend_b18 M 0

def fX13_isFriend (M : Mem) (x1 : Int32) : Option (Int32 × Mem) :=
  if x1 < 0 then
    fX13_isFriend_b17 M
  else
    pu (gI M 103 3) fun vq3 =>
    if x1 < vq3 then
      fX13_isFriend_b18 M 1
    else
      fX13_isFriend_b17 M

-- X13_friend
def fX13_friend (M : Mem) (x1 : Int32) (x2 : Int32) : Option (Int32 × Mem) :=
  pu (sI M 103 0 (0)) fun Mq1 =>
  b2 (fX13_isFriend Mq1 x1) fun vq2 Mq3 =>
  if vq2 = 0 then
    some (0, Mq3)
  else
    b2 (fX13_isWhat Mq3 x2 4) fun vq4 Mq5 =>
    if vq4 = 0 then
      some (0, Mq5)
    else
      if x2 < 3 then
        if x2 = 0 then
          ldI Mq5 133 186 (25 + x1) fun vq12 =>
          some (vq12, Mq5)
        else
          if x2 = 1 then
            ldI Mq5 110 6 (x1) fun vq11 =>
            some (vq11, Mq5)
          else
            b2 (fX13_follows Mq5 0 x1 0 0) fun vq9 Mq10 =>
            some (vq9, Mq10)
      else
        pu (gI Mq5 103 7) fun vq6 =>
        if vq6 = (-1) then
          some (0, Mq5)
        else
          b2 (fX13_likeOf Mq5 0 x1 (x2 - 3) 0) fun vq7 Mq8 =>
          some (vq7, Mq8)

-- X13_gains
def fX13_gains_b70 (a13 : Mem → Int32 → Int32 → Int32 → Int32 → Int32 → Option (Int32 × Mem)) (M : Mem) (x1 : Int32) (x2 : Int32) (x3 : Int32) (x5 : Int32) (s0 : Int32) : Option (Int32 × Mem) :=
  b1 (fX13_ends M 31 1) fun Mq7 =>
  pu (x5 + 1) fun vq8 =>
  a13 Mq7 x1 x2 x3 s0 vq8

def fX13_gains_b46 (a13 : Mem → Int32 → Int32 → Int32 → Int32 → Int32 → Option (Int32 × Mem)) (M : Mem) (x1 : Int32) (x2 : Int32) (x3 : Int32) (x5 : Int32) (s0 : Int32) : Option (Int32 × Mem) :=
  b2 (fX13_does M 31 s0) fun vq5 Mq6 =>
  if vq5 = 0 then
    fX13_gains_b70 a13 Mq6 x1 x2 x3 x5 0
  else
    ldI Mq6 107 7 (s0) fun vq9 =>
    fX13_gains_b70 a13 Mq6 x1 x2 x3 x5 vq9

def fX13_gains_l13 : Nat → Mem → Int32 → Int32 → Int32 → Int32 → Int32 → Option (Int32 × Mem)
  | 0, _, _, _, _, _, _ => none
  | n + 1, M, x1, x2, x3, x4, x5 =>
    if x1 < x5 then
      if x2 = x3 then
        some (x4 - 3, M)
      else
        some (x4, M)
    else
      ldI M 133 186 (34) fun vq2 =>
      b1 (fX13_harvestOf M vq2) fun vq3 =>
      b1 (fX13_gathers M 31 vq3) fun Mq4 =>
      if x5 = 0 then
        fX13_gains_b46 (fX13_gains_l13 n) Mq4 x1 x2 x3 x5 x2
      else
        fX13_gains_b46 (fX13_gains_l13 n) Mq4 x1 x2 x3 x5 x3

def fX13_gains (M : Mem) (x1 : Int32) (x2 : Int32) (x3 : Int32) : Option (Int32 × Mem) :=
  b1 (fX13_lays0 M 0 31) fun Mq1 =>
  fX13_gains_l13 FU Mq1 x1 x2 x3 0 0

-- X13_game
def fX13_game_b189 (a59 : Mem → Int32 → Int32 → Int32 → Int32 → Int32 → Int32 → Option (Int32 × Mem)) (M : Mem) (x1 : Int32) (x2 : Int32) (x3 : Int32) (x4 : Int32) (x5 : Int32) (x6 : Int32) : Option (Int32 × Mem) :=
  pu (x6 + 1) fun vq14 =>
  a59 M x1 x2 x3 x4 x5 vq14

def fX13_game_b119 (a59 : Mem → Int32 → Int32 → Int32 → Int32 → Int32 → Int32 → Option (Int32 × Mem)) (M : Mem) (x1 : Int32) (x2 : Int32) (x3 : Int32) (x4 : Int32) (x5 : Int32) (x6 : Int32) (x7 : Int32) (x8 : Int32) (x9 : Int32) (s0 : Int32) : Option (Int32 × Mem) :=
  b2 (fX13_gains M 0 x8 x9) fun vq10 Mq11 =>
  b2 (fX13_gains Mq11 0 x7 x9) fun vq12 Mq13 =>
  if vq12 < vq10 then
    fX13_game_b189 a59 Mq13 x1 x2 x3 x4 x5 x6
  else
    b2 (fX13_gains Mq13 1 x7 s0) fun vq15 Mq16 =>
    b2 (fX13_gains Mq16 1 x7 x9) fun vq17 Mq18 =>
    if vq17 < vq15 then
      fX13_game_b189 a59 Mq18 x1 x2 x3 x4 x5 x6
    else
      pu (x4 + 1) fun vq19 =>
      if x5 = (-1) then
        pu ((10 * (x6 / 2)) + (x6 - x6 / 2 * 2)) fun vq20 =>
        fX13_game_b189 a59 Mq18 x1 x2 x3 vq19 vq20 x6
      else
        fX13_game_b189 a59 Mq18 x1 x2 x3 vq19 x5 x6

def fX13_game_b105 (a59 : Mem → Int32 → Int32 → Int32 → Int32 → Int32 → Int32 → Option (Int32 × Mem)) (M : Mem) (x1 : Int32) (x2 : Int32) (x3 : Int32) (x4 : Int32) (x5 : Int32) (x6 : Int32) (x7 : Int32) (x8 : Int32) (s0 : Int32) : Option (Int32 × Mem) :=
  if x6 - x6 / 2 * 2 = 0 then
    fX13_game_b119 a59 M x1 x2 x3 x4 x5 x6 x7 x8 s0 x2
  else
    fX13_game_b119 a59 M x1 x2 x3 x4 x5 x6 x7 x8 s0 x1

def fX13_game_b91 (a59 : Mem → Int32 → Int32 → Int32 → Int32 → Int32 → Int32 → Option (Int32 × Mem)) (M : Mem) (x1 : Int32) (x2 : Int32) (x3 : Int32) (x4 : Int32) (x5 : Int32) (x6 : Int32) (x7 : Int32) (s0 : Int32) : Option (Int32 × Mem) :=
  if x6 - x6 / 2 * 2 = 0 then
    fX13_game_b105 a59 M x1 x2 x3 x4 x5 x6 x7 s0 x1
  else
    fX13_game_b105 a59 M x1 x2 x3 x4 x5 x6 x7 s0 x2

def fX13_game_b77 (a59 : Mem → Int32 → Int32 → Int32 → Int32 → Int32 → Int32 → Option (Int32 × Mem)) (M : Mem) (x1 : Int32) (x2 : Int32) (x3 : Int32) (x4 : Int32) (x5 : Int32) (x6 : Int32) (s0 : Int32) : Option (Int32 × Mem) :=
  if x6 / 2 = 0 then
    fX13_game_b91 a59 M x1 x2 x3 x4 x5 x6 s0 x2
  else
    fX13_game_b91 a59 M x1 x2 x3 x4 x5 x6 s0 x1

def fX13_game_l59 : Nat → Mem → Int32 → Int32 → Int32 → Int32 → Int32 → Int32 → Option (Int32 × Mem)
  | 0, _, _, _, _, _, _, _ => none
  | n + 1, M, x1, x2, x3, x4, x5, x6 =>
    if x6 < 4 then
      if x6 / 2 = 0 then
        fX13_game_b77 (fX13_game_l59 n) M x1 x2 x3 x4 x5 x6 x1
      else
        fX13_game_b77 (fX13_game_l59 n) M x1 x2 x3 x4 x5 x6 x2
    else
      if x3 = 0 then
        some (x4, M)
      else
        some (x5, M)

def fX13_game_b41 (M : Mem) (x1 : Int32) (x2 : Int32) (x3 : Int32) (s0 : Int32) : Option (Int32 × Mem) :=
  b2 (fX13_right M s0 2) fun vq8 Mq9 =>
  if vq8 = 0 then
    some (0, Mq9)
  else
    fX13_game_l59 FU Mq9 x1 x2 x3 0 (-1) 0

def fX13_game (M : Mem) (x1 : Int32) (x2 : Int32) (x3 : Int32) : Option (Int32 × Mem) :=
  pu (sI M 103 0 (0)) fun Mq1 =>
  b2 (fX13_isDeed Mq1 x1) fun vq2 Mq3 =>
  if vq2 = 0 then
    some (0, Mq3)
  else
    b2 (fX13_isDeed Mq3 x2) fun vq4 Mq5 =>
    if vq4 = 0 then
      some (0, Mq5)
    else
      b2 (fX13_isWhat Mq5 x3 1) fun vq6 Mq7 =>
      if vq6 = 0 then
        some (0, Mq7)
      else
        if x1 = x2 then
          fX13_game_b41 Mq7 x1 x2 x3 0
        else
          fX13_game_b41 Mq7 x1 x2 x3 1

-- X13_gift
def fX13_gift_b35 (M : Mem) : Option (Int32 × Mem) :=
  b2 (fX13_refuses M 1) fun vq5 Mq6 =>
  some (vq5, Mq6)

def fX13_gift_b89 (M : Mem) (x1 : Int32) (s0 : Int32) (s1 : Int32) (s2 : Int32) : Option (Int32 × Mem) :=
  b1 (fX13_kept (s1 + s0) (-9) 9) fun vq13 =>
  stI M 133 186 (s2) (vq13) fun Mq14 =>
  ldI Mq14 133 186 (25 + x1) fun vq15 =>
  some (vq15, Mq14)

def fX13_gift (M : Mem) (x1 : Int32) (x2 : Int32) : Option (Int32 × Mem) :=
  pu (sI M 103 0 (0)) fun Mq1 =>
  b2 (fX13_isFriend Mq1 x1) fun vq2 Mq3 =>
  if vq2 = 0 then
    some (0, Mq3)
  else
    b1 (fX13_within x2 1 9) fun vq4 =>
    if vq4 = 0 then
      fX13_gift_b35 Mq3
    else
      ldI Mq3 133 186 (0) fun vq7 =>
      if vq7 < x2 then
        fX13_gift_b35 Mq3
      else
        b1 (fX13_keeps Mq3) fun Mq8 =>
        ldI Mq8 133 186 (0) fun vq9 =>
        stI Mq8 133 186 (0) (vq9 - x2) fun Mq10 =>
        ldI Mq10 133 186 (25 + x1) fun vq11 =>
        ldI Mq10 133 186 (4) fun vq12 =>
        if vq12 = 1 then
          fX13_gift_b89 Mq10 x1 x2 vq11 (25 + x1)
        else
          fX13_gift_b89 Mq10 x1 (0 - x2) vq11 (25 + x1)

-- X13_gloryIn
def fX13_gloryIn (M : Mem) (x1 : Int32) : Option (Int32 × Mem) :=
  b1 (fX13_lays0 M 0 31) fun Mq1 =>
  b1 (fX13_goesYears Mq1 31 30) fun Mq2 =>
  ldI Mq2 133 186 (37 + x1) fun vq3 =>
  some (vq3, Mq2)

-- X13_guarded
def fX13_guarded_b95 (a36 : Mem → Int32 → Int32 → Int32 → Option (Int32 × Mem)) (M : Mem) (x1 : Int32) (x3 : Int32) (s0 : Int32) : Option (Int32 × Mem) :=
  pu (x3 + 1) fun vq10 =>
  a36 M x1 s0 vq10

def fX13_guarded_b70 (a36 : Mem → Int32 → Int32 → Int32 → Option (Int32 × Mem)) (M : Mem) (x1 : Int32) (x2 : Int32) (x3 : Int32) (s0 : Int32) (s1 : Int32) : Option (Int32 × Mem) :=
  ldI M 133 186 (1) fun vq8 =>
  pu ((s1 + s0) - (vq8 / 10)) fun vq9 =>
  if x2 < vq9 then
    fX13_guarded_b95 a36 M x1 x3 vq9
  else
    fX13_guarded_b95 a36 M x1 x3 x2

def fX13_guarded_l36 : Nat → Mem → Int32 → Int32 → Int32 → Option (Int32 × Mem)
  | 0, _, _, _, _ => none
  | n + 1, M, x1, x2, x3 =>
    pu (gI M 103 4) fun vq4 =>
    if x3 < vq4 then
      ldI M 111 7 (x3) fun vq5 =>
      ldI M 112 7 (x3) fun vq6 =>
      ldI M 114 7 (x1) fun vq7 =>
      if vq6 = vq7 then
        fX13_guarded_b70 (fX13_guarded_l36 n) M x1 x2 x3 5 vq5
      else
        fX13_guarded_b70 (fX13_guarded_l36 n) M x1 x2 x3 0 vq5
    else
      some (x2, M)

def fX13_guarded_b23 (M : Mem) (x1 : Int32) (s0 : Int32) : Option (Int32 × Mem) :=
  b2 (fX13_right M s0 1) fun vq2 Mq3 =>
  if vq2 = 0 then
    some (0, Mq3)
  else
    fX13_guarded_l36 FU Mq3 x1 0 0

def fX13_guarded_b22 (M : Mem) (x1 : Int32) : Option (Int32 × Mem) :=
  fX13_guarded_b23 M x1 0

def fX13_guarded (M : Mem) (x1 : Int32) : Option (Int32 × Mem) :=
  pu (sI M 103 0 (0)) fun Mq1 =>
  if x1 < 0 then
    fX13_guarded_b22 Mq1 x1
  else
    pu (gI Mq1 103 5) fun vq11 =>
    if x1 < vq11 then
      fX13_guarded_b23 Mq1 x1 1
    else
      fX13_guarded_b22 Mq1 x1

-- X13_highest
def fX13_highest_b75 (a35 : Mem → Int32 → Int32 → Int32 → Int32 → Option (Int32 × Mem)) (M : Mem) (x1 : Int32) (x2 : Int32) (x3 : Int32) (x4 : Int32) : Option (Int32 × Mem) :=
  pu (x4 + 1) fun vq9 =>
  a35 M x1 x2 x3 vq9

def fX13_highest_l35 : Nat → Mem → Int32 → Int32 → Int32 → Int32 → Option (Int32 × Mem)
  | 0, _, _, _, _, _ => none
  | n + 1, M, x1, x2, x3, x4 =>
    if 60 < x4 then
      if x1 = 0 then
        some (x2, M)
      else
        some (x3, M)
    else
      b1 (fX13_goesBy M 31 (-2)) fun Mq6 =>
      ldI Mq6 133 186 (32) fun vq7 =>
      if x3 < vq7 then
        ldI Mq6 133 186 (32) fun vq8 =>
        fX13_highest_b75 (fX13_highest_l35 n) Mq6 x1 x4 vq8 x4
      else
        fX13_highest_b75 (fX13_highest_l35 n) Mq6 x1 x2 x3 x4

def fX13_highest (M : Mem) (x1 : Int32) : Option (Int32 × Mem) :=
  pu (sI M 103 0 (0)) fun Mq1 =>
  b2 (fX13_isWhat Mq1 x1 1) fun vq2 Mq3 =>
  if vq2 = 0 then
    some (0, Mq3)
  else
    b1 (fX13_lays0 Mq3 0 31) fun Mq4 =>
    ldI Mq4 133 186 (1) fun vq5 =>
    fX13_highest_l35 FU Mq4 x1 0 vq5 1

-- X13_image
def fX13_image_l28 : Nat → Mem → Int32 → Option Mem
  | 0, _, _ => none
  | n + 1, M, x1 =>
    if x1 < 31 then
      ldI M 133 186 (x1) fun vq9 =>
      stI M 141 31 (x1) (vq9) fun Mq10 =>
      pu (x1 + 1) fun vq11 =>
      fX13_image_l28 n Mq10 vq11
    else
      b1 (fX13_copies M 134 142) fun Mq7 =>
      b1 (fX13_copies Mq7 138 143) fun Mq8 =>
      some Mq8

def fX13_image (M : Mem) : Option Mem :=
  pu (sI M 103 0 (0)) fun Mq1 =>
  pu (sI Mq1 103 74 (1)) fun Mq2 =>
  pu (gI Mq2 103 64) fun vq3 =>
  pu (sI Mq2 103 75 (vq3)) fun Mq4 =>
  pu (gI Mq4 103 69) fun vq5 =>
  pu (sI Mq4 103 76 (vq5)) fun Mq6 =>
  fX13_image_l28 FU Mq6 0

-- X13_isResting
def fX13_isResting_b85 (a2 : Mem → Int32 → Int32 → Option Int32) (a49 : Mem → Int32 → Int32 → Int32 → Int32 → Int32 → Option Int32) (M : Mem) (x1 : Int32) (x2 : Int32) (x3 : Int32) (x4 : Int32) (x5 : Int32) : Option Int32 :=
  pu (x5 + 1) fun vq6 =>
  a49 M x1 x2 x3 x4 vq6

def fX13_isResting_b82 (a2 : Mem → Int32 → Int32 → Option Int32) (a49 : Mem → Int32 → Int32 → Int32 → Int32 → Int32 → Option Int32) (M : Mem) (x1 : Int32) (x2 : Int32) (x3 : Int32) (x5 : Int32) (s0 : Int32) (s1 : Int32) : Option Int32 :=
  pu (s1 + s0) fun vq7 =>
  fX13_isResting_b85 a2 a49 M x1 x2 x3 vq7 x5

def fX13_isResting_l49 (a2 : Mem → Int32 → Int32 → Option Int32) : Nat → Mem → Int32 → Int32 → Int32 → Int32 → Int32 → Option Int32
  | 0, _, _, _, _, _, _ => none
  | n + 1, M, x1, x2, x3, x4, x5 =>
    pu (gI M 103 3) fun vq4 =>
    if x5 < vq4 then
      if x5 = x2 then
        fX13_isResting_b85 a2 (fX13_isResting_l49 a2 n) M x1 x2 x3 x4 x5
      else
        if ((x1 : Int32) >>> (x5 &&& 31 : Int32)) &&& 1 = x3 then
          fX13_isResting_b82 a2 (fX13_isResting_l49 a2 n) M x1 x2 x3 x5 2 x4
        else
          fX13_isResting_b82 a2 (fX13_isResting_l49 a2 n) M x1 x2 x3 x5 (-2) x4
    else
      if x4 < 0 then
        some (0)
      else
        pu (x2 + 1) fun vq5 =>
        a2 M x1 vq5

def fX13_isResting_b44 (a2 : Mem → Int32 → Int32 → Option Int32) (M : Mem) (x1 : Int32) (x2 : Int32) (x3 : Int32) (s0 : Int32) : Option Int32 :=
  fX13_isResting_l49 a2 FU M x1 x2 x3 s0 0

def fX13_isResting_l2 : Nat → Mem → Int32 → Int32 → Option Int32
  | 0, _, _, _ => none
  | n + 1, M, x1, x2 =>
    pu (gI M 103 3) fun vq1 =>
    if x2 < vq1 then
      pu (((x1 : Int32) >>> (x2 &&& 31 : Int32)) &&& 1) fun vq2 =>
      if vq2 = 1 then
        ldI M 133 186 (25 + x2) fun vq8 =>
        fX13_isResting_b44 (fX13_isResting_l2 n) M x1 x2 vq2 vq8
      else
        ldI M 133 186 (25 + x2) fun vq3 =>
        fX13_isResting_b44 (fX13_isResting_l2 n) M x1 x2 vq2 (0 - vq3)
    else
      some (1)

def fX13_isResting (M : Mem) (x1 : Int32) : Option Int32 :=
  fX13_isResting_l2 FU M x1 0

-- X13_number
def fX13_number_b54 (M : Mem) : Option (Int32 × Mem) :=
  pu (gI M 103 30) fun vq5 =>
  b1 (fX13_isGood M) fun vq6 =>
  if vq6 = 0 then
    some (vq5, M)
  else
    b1 (fX13_goes M) fun Mq7 =>
    some (vq5, Mq7)

def fX13_number_b49 (M : Mem) : Option (Int32 × Mem) :=
  b1 (fX13_wrong M 2) fun Mq4 =>
  fX13_number_b54 Mq4

def fX13_number (M : Mem) (x1 : Int32) (x2 : Int32) : Option (Int32 × Mem) :=
  b1 (fX13_isGood M) fun vq1 =>
  if vq1 = 0 then
    some (0, M)
  else
    pu (gI M 103 27) fun vq2 =>
    if vq2 = 2 then
      pu (gI M 103 29) fun vq3 =>
      if 4 < vq3 then
        fX13_number_b49 M
      else
        pu (gI M 103 30) fun vq8 =>
        if vq8 < x1 then
          fX13_number_b49 M
        else
          pu (gI M 103 30) fun vq9 =>
          if x2 < vq9 then
            fX13_number_b49 M
          else
            fX13_number_b54 M
    else
      b1 (fX13_wrong M 1) fun Mq10 =>
      fX13_number_b54 Mq10

-- X13_readsCity
def fX13_readsCity_b12 (M : Mem) : Option Mem :=
  b1 (fX13_isGood M) fun vq2 =>
  if vq2 = 0 then
    some M
  else
    pu (sI M 103 45 (1)) fun Mq3 =>
    b1 (fX13_goes Mq3) fun Mq4 =>
    b2 (fX13_number Mq4 0 999) fun vq5 Mq6 =>
    stI Mq6 129 31 (0) (vq5) fun Mq7 =>
    b2 (fX13_number Mq7 0 99) fun vq8 Mq9 =>
    stI Mq9 129 31 (1) (vq8) fun Mq10 =>
    b2 (fX13_number Mq10 0 999) fun vq11 Mq12 =>
    stI Mq12 129 31 (2) (vq11) fun Mq13 =>
    some Mq13

def fX13_readsCity (M : Mem) : Option Mem :=
  pu (gI M 103 45) fun vq1 =>
  if vq1 = 0 then
    fX13_readsCity_b12 M
  else
    b1 (fX13_wrong M 5) fun Mq14 =>
    fX13_readsCity_b12 Mq14

-- X13_signed
def fX13_signed_b22 (M : Mem) (x1 : Int32) (x2 : Int32) : Option (Int32 × Mem) :=
  b2 (fX13_number M 0 x1) fun vq3 Mq4 =>
  if x2 = 0 then
    some (vq3, Mq4)
  else
    some (0 - vq3, Mq4)

def fX13_signed (M : Mem) (x1 : Int32) : Option (Int32 × Mem) :=
  b1 (fX13_isSign M 45) fun vq1 =>
  b1 (fX13_isGood M) fun vq2 =>
  if vq2 = 0 then
    fX13_signed_b22 M x1 vq1
  else
    if vq1 = 0 then
      fX13_signed_b22 M x1 vq1
    else
      b1 (fX13_goes M) fun Mq5 =>
      fX13_signed_b22 Mq5 x1 vq1

-- X13_readsDeed
def fX13_readsDeed_b14 (M : Mem) : Option Mem :=
  b1 (fX13_isGood M) fun vq2 =>
  if vq2 = 0 then
    some M
  else
    b1 (fX13_goes M) fun Mq3 =>
    pu (gI Mq3 103 33) fun vq4 =>
    b2 (fX13_number Mq3 0 99) fun vq5 Mq6 =>
    stI Mq6 118 7 (vq4) (vq5) fun Mq7 =>
    pu (gI Mq7 103 33) fun vq8 =>
    b2 (fX13_signed Mq7 20) fun vq9 Mq10 =>
    stI Mq10 119 7 (vq8) (vq9) fun Mq11 =>
    pu (gI Mq11 103 33) fun vq12 =>
    b2 (fX13_signed Mq11 99) fun vq13 Mq14 =>
    stI Mq14 120 7 (vq12) (vq13) fun Mq15 =>
    pu (gI Mq15 103 33) fun vq16 =>
    b2 (fX13_signed Mq15 20) fun vq17 Mq18 =>
    stI Mq18 121 7 (vq16) (vq17) fun Mq19 =>
    b1 (fX13_isGood Mq19) fun vq20 =>
    if vq20 = 0 then
      some Mq19
    else
      pu (gI Mq19 103 33) fun vq21 =>
      pu (sI Mq19 103 33 (vq21 + 1)) fun Mq22 =>
      some Mq22

def fX13_readsDeed (M : Mem) : Option Mem :=
  pu (gI M 103 33) fun vq1 =>
  if vq1 = 7 then
    b1 (fX13_wrong M 2) fun Mq23 =>
    fX13_readsDeed_b14 Mq23
  else
    fX13_readsDeed_b14 M

-- X13_readsWay
def fX13_readsWay_b123 (a28 : Mem → Int32 → Int32 → Option Mem) (M : Mem) (x1 : Int32) (s0 : Int32) : Option Mem :=
  a28 M x1 s0

def fX13_readsWay_b63 (a28 : Mem → Int32 → Int32 → Option Mem) (M : Mem) (x1 : Int32) : Option Mem :=
  pu (gI M 103 33) fun vq6 =>
  b2 (fX13_among M vq6) fun vq7 Mq8 =>
  b1 (fX13_isGood Mq8) fun vq9 =>
  if vq9 = 0 then
    some Mq8
  else
    ldI Mq8 122 2 (x1) fun vq10 =>
    stI Mq8 129 31 ((13 + (6 * x1)) + vq10) (vq7) fun Mq11 =>
    ldI Mq11 122 2 (x1) fun vq12 =>
    stI Mq11 122 2 (x1) (vq12 + 1) fun Mq13 =>
    pu (gI Mq13 103 27) fun vq14 =>
    if vq14 = 2 then
      fX13_readsWay_b123 a28 Mq13 x1 1
    else
      fX13_readsWay_b123 a28 Mq13 x1 0

def fX13_readsWay_l28 : Nat → Mem → Int32 → Int32 → Option Mem
  | 0, _, _, _ => none
  | n + 1, M, x1, x2 =>
    if x2 = 0 then
      some M
    else
      b1 (fX13_isGood M) fun vq4 =>
      if vq4 = 0 then
        some M
      else
        ldI M 122 2 (x1) fun vq5 =>
        if vq5 = 6 then
          pu (gI M 103 27) fun vq15 =>
          if vq15 = 2 then
            b1 (fX13_wrong M 2) fun Mq16 =>
            fX13_readsWay_b63 (fX13_readsWay_l28 n) Mq16 x1
          else
            fX13_readsWay_b63 (fX13_readsWay_l28 n) M x1
        else
          fX13_readsWay_b63 (fX13_readsWay_l28 n) M x1

def fX13_readsWay_b14 (M : Mem) (x1 : Int32) : Option Mem :=
  b1 (fX13_isGood M) fun vq2 =>
  if vq2 = 0 then
    some M
  else
    b1 (fX13_goes M) fun Mq3 =>
    fX13_readsWay_l28 FU Mq3 x1 1

def fX13_readsWay (M : Mem) (x1 : Int32) : Option Mem :=
  ldI M 122 2 (x1) fun vq1 =>
  if 0 < vq1 then
    b1 (fX13_wrong M 5) fun Mq17 =>
    fX13_readsWay_b14 Mq17 x1
  else
    fX13_readsWay_b14 M x1

-- X13_readsHarvests
def fX13_readsHarvests_b108 (a26 : Mem → Int32 → Option Mem) (M : Mem) (s0 : Int32) : Option Mem :=
  a26 M s0

def fX13_readsHarvests_b59 (a26 : Mem → Int32 → Option Mem) (M : Mem) : Option Mem :=
  b2 (fX13_number M 0 99) fun vq6 Mq7 =>
  b1 (fX13_isGood Mq7) fun vq8 =>
  if vq8 = 0 then
    some Mq7
  else
    pu (gI Mq7 103 34) fun vq9 =>
    stI Mq7 123 10 (vq9) (vq6) fun Mq10 =>
    pu (gI Mq10 103 34) fun vq11 =>
    pu (sI Mq10 103 34 (vq11 + 1)) fun Mq12 =>
    pu (gI Mq12 103 27) fun vq13 =>
    if vq13 = 2 then
      fX13_readsHarvests_b108 a26 Mq12 1
    else
      fX13_readsHarvests_b108 a26 Mq12 0

def fX13_readsHarvests_l26 : Nat → Mem → Int32 → Option Mem
  | 0, _, _ => none
  | n + 1, M, x1 =>
    if x1 = 0 then
      some M
    else
      b1 (fX13_isGood M) fun vq4 =>
      if vq4 = 0 then
        some M
      else
        pu (gI M 103 34) fun vq5 =>
        if vq5 = 10 then
          pu (gI M 103 27) fun vq14 =>
          if vq14 = 2 then
            b1 (fX13_wrong M 2) fun Mq15 =>
            fX13_readsHarvests_b59 (fX13_readsHarvests_l26 n) Mq15
          else
            fX13_readsHarvests_b59 (fX13_readsHarvests_l26 n) M
        else
          fX13_readsHarvests_b59 (fX13_readsHarvests_l26 n) M

def fX13_readsHarvests_b12 (M : Mem) : Option Mem :=
  b1 (fX13_isGood M) fun vq2 =>
  if vq2 = 0 then
    some M
  else
    b1 (fX13_goes M) fun Mq3 =>
    fX13_readsHarvests_l26 FU Mq3 1

def fX13_readsHarvests (M : Mem) : Option Mem :=
  pu (gI M 103 34) fun vq1 =>
  if 0 < vq1 then
    b1 (fX13_wrong M 5) fun Mq16 =>
    fX13_readsHarvests_b12 Mq16
  else
    fX13_readsHarvests_b12 M

-- X13_readsFriend
def fX13_readsFriend_b14 (M : Mem) : Option Mem :=
  b1 (fX13_isGood M) fun vq2 =>
  if vq2 = 0 then
    some M
  else
    b1 (fX13_goes M) fun Mq3 =>
    pu (gI Mq3 103 35) fun vq4 =>
    b2 (fX13_signed Mq3 9) fun vq5 Mq6 =>
    stI Mq6 129 31 (25 + vq4) (vq5) fun Mq7 =>
    pu (gI Mq7 103 35) fun vq8 =>
    b2 (fX13_number Mq7 0 9) fun vq9 Mq10 =>
    stI Mq10 124 6 (vq8) (vq9) fun Mq11 =>
    b1 (fX13_isGood Mq11) fun vq12 =>
    if vq12 = 0 then
      some Mq11
    else
      pu (gI Mq11 103 35) fun vq13 =>
      pu (sI Mq11 103 35 (vq13 + 1)) fun Mq14 =>
      some Mq14

def fX13_readsFriend (M : Mem) : Option Mem :=
  pu (gI M 103 35) fun vq1 =>
  if vq1 = 6 then
    b1 (fX13_wrong M 2) fun Mq15 =>
    fX13_readsFriend_b14 Mq15
  else
    fX13_readsFriend_b14 M

-- X13_readsFighter
def fX13_readsFighter_b25 (M : Mem) (x1 : Int32) : Option Mem :=
  b1 (fX13_isGood M) fun vq2 =>
  if vq2 = 0 then
    some M
  else
    b1 (fX13_goes M) fun Mq3 =>
    b2 (fX13_number Mq3 0 20) fun vq4 Mq5 =>
    b2 (fX13_number Mq5 0 3) fun vq6 Mq7 =>
    b1 (fX13_isGood Mq7) fun vq8 =>
    if vq8 = 0 then
      some Mq7
    else
      if x1 = 0 then
        pu (gI Mq7 103 36) fun vq9 =>
        stI Mq7 125 7 (vq9) (vq4) fun Mq10 =>
        pu (gI Mq10 103 36) fun vq11 =>
        stI Mq10 126 7 (vq11) (vq6) fun Mq12 =>
        pu (gI Mq12 103 36) fun vq13 =>
        pu (sI Mq12 103 36 (vq13 + 1)) fun Mq14 =>
        some Mq14
      else
        pu (gI Mq7 103 37) fun vq15 =>
        stI Mq7 127 7 (vq15) (vq4) fun Mq16 =>
        pu (gI Mq16 103 37) fun vq17 =>
        stI Mq16 128 7 (vq17) (vq6) fun Mq18 =>
        pu (gI Mq18 103 37) fun vq19 =>
        pu (sI Mq18 103 37 (vq19 + 1)) fun Mq20 =>
        some Mq20

def fX13_readsFighter_b15 (M : Mem) (x1 : Int32) (s0 : Int32) : Option Mem :=
  if s0 = 7 then
    b1 (fX13_wrong M 2) fun Mq21 =>
    fX13_readsFighter_b25 Mq21 x1
  else
    fX13_readsFighter_b25 M x1

def fX13_readsFighter (M : Mem) (x1 : Int32) : Option Mem :=
  if x1 = 0 then
    pu (gI M 103 36) fun vq1 =>
    fX13_readsFighter_b15 M x1 vq1
  else
    pu (gI M 103 37) fun vq22 =>
    fX13_readsFighter_b15 M x1 vq22

-- X13_need
def fX13_need (M : Mem) (x1 : Int32) : Option Mem :=
  b1 (fX13_isGood M) fun vq1 =>
  if vq1 = 0 then
    some M
  else
    if x1 = 0 then
      b1 (fX13_wrong M 1) fun Mq2 =>
      some Mq2
    else
      b1 (fX13_goes M) fun Mq3 =>
      some Mq3

-- X13_line
def fX13_line_b263 (M : Mem) : Option Mem :=
  b1 (fX13_isSign M 59) fun vq3 =>
  b1 (fX13_need M vq3) fun Mq4 =>
  some Mq4

def fX13_line_b43 (M : Mem) (x1 : Int32) : Option Mem :=
  b1 (fX13_readsWay M (x1 - 10)) fun Mq2 =>
  fX13_line_b263 Mq2

def fX13_line_b155 (M : Mem) (s0 : Int32) : Option Mem :=
  b1 (fX13_readsFighter M s0) fun Mq5 =>
  fX13_line_b263 Mq5

def fX13_line_b143 (M : Mem) (x1 : Int32) : Option Mem :=
  if x1 = 16 then
    fX13_line_b155 M 1
  else
    fX13_line_b155 M 0

def fX13_line_b228 (M : Mem) : Option Mem :=
  b1 (fX13_isGood M) fun vq8 =>
  if vq8 = 0 then
    some M
  else
    b1 (fX13_goes M) fun Mq9 =>
    pu (gI Mq9 103 40) fun vq10 =>
    pu (sI Mq9 103 39 (vq10)) fun Mq11 =>
    b1 (fX13_expression Mq11 3 7) fun Mq12 =>
    fX13_line_b263 Mq12

def fX13_line_b180 (M : Mem) : Option Mem :=
  b1 (fX13_isGood M) fun vq15 =>
  if vq15 = 0 then
    some M
  else
    b1 (fX13_goes M) fun Mq16 =>
    pu (gI Mq16 103 40) fun vq17 =>
    pu (sI Mq16 103 38 (vq17)) fun Mq18 =>
    b1 (fX13_expression Mq18 0 5) fun Mq19 =>
    fX13_line_b263 Mq19

def fX13_line_b85 (M : Mem) : Option Mem :=
  b1 (fX13_isGood M) fun vq23 =>
  if vq23 = 0 then
    some M
  else
    pu (sI M 103 46 (1)) fun Mq24 =>
    b1 (fX13_goes Mq24) fun Mq25 =>
    b2 (fX13_number Mq25 1 5) fun vq26 Mq27 =>
    stI Mq27 129 31 (12) (vq26) fun Mq28 =>
    fX13_line_b263 Mq28

def fX13_line (M : Mem) : Option Mem :=
  b1 (fX13_knownWord M) fun vq1 =>
  if vq1 = 8 then
    b1 (fX13_readsCity M) fun Mq32 =>
    fX13_line_b263 Mq32
  else
    if vq1 = 9 then
      b1 (fX13_readsDeed M) fun Mq31 =>
      fX13_line_b263 Mq31
    else
      if vq1 = 10 then
        fX13_line_b43 M vq1
      else
        if vq1 = 11 then
          fX13_line_b43 M vq1
        else
          if vq1 = 12 then
            b1 (fX13_readsHarvests M) fun Mq30 =>
            fX13_line_b263 Mq30
          else
            if vq1 = 13 then
              pu (gI M 103 46) fun vq22 =>
              if vq22 = 0 then
                fX13_line_b85 M
              else
                b1 (fX13_wrong M 5) fun Mq29 =>
                fX13_line_b85 Mq29
            else
              if vq1 = 14 then
                b1 (fX13_readsFriend M) fun Mq21 =>
                fX13_line_b263 Mq21
              else
                if vq1 = 15 then
                  fX13_line_b143 M vq1
                else
                  if vq1 = 16 then
                    fX13_line_b143 M vq1
                  else
                    if vq1 = 17 then
                      pu (gI M 103 38) fun vq14 =>
                      if vq14 = (-1) then
                        fX13_line_b180 M
                      else
                        b1 (fX13_wrong M 5) fun Mq20 =>
                        fX13_line_b180 Mq20
                    else
                      if vq1 = 18 then
                        pu (gI M 103 39) fun vq7 =>
                        if vq7 = (-1) then
                          fX13_line_b228 M
                        else
                          b1 (fX13_wrong M 5) fun Mq13 =>
                          fX13_line_b228 Mq13
                      else
                        b1 (fX13_wrong M 1) fun Mq6 =>
                        fX13_line_b263 Mq6

-- X13_land
def fX13_land_l415 : Nat → Mem → Int32 → Option (Int32 × Mem)
  | 0, _, _ => none
  | n + 1, M, x2 =>
    if x2 < 31 then
      ldI M 129 31 (x2) fun vq56 =>
      stI M 133 186 (x2) (vq56) fun Mq57 =>
      pu (x2 + 1) fun vq58 =>
      fX13_land_l415 n Mq57 vq58
    else
      pu (sI M 103 64 (0)) fun Mq53 =>
      pu (sI Mq53 103 69 (0)) fun Mq54 =>
      pu (sI Mq54 103 74 (0)) fun Mq55 =>
      some (0, Mq55)

def fX13_land_b191 (M : Mem) : Option (Int32 × Mem) :=
  b1 (fX13_isGood M) fun vq26 =>
  if vq26 = 0 then
    ldI M 117 3 (0) fun vq59 =>
    stI M 117 3 (0) (vq59 + 1) fun Mq60 =>
    pu (gI Mq60 103 22) fun vq61 =>
    some (vq61, Mq60)
  else
    pu (gI M 103 33) fun vq27 =>
    pu (sI M 103 1 (vq27)) fun Mq28 =>
    pu (gI Mq28 103 34) fun vq29 =>
    pu (sI Mq28 103 2 (vq29)) fun Mq30 =>
    pu (gI Mq30 103 35) fun vq31 =>
    pu (sI Mq30 103 3 (vq31)) fun Mq32 =>
    pu (gI Mq32 103 36) fun vq33 =>
    pu (sI Mq32 103 4 (vq33)) fun Mq34 =>
    pu (gI Mq34 103 37) fun vq35 =>
    pu (sI Mq34 103 5 (vq35)) fun Mq36 =>
    pu (gI Mq36 103 38) fun vq37 =>
    pu (sI Mq36 103 6 (vq37)) fun Mq38 =>
    pu (gI Mq38 103 39) fun vq39 =>
    pu (sI Mq38 103 7 (vq39)) fun Mq40 =>
    b1 (fX13_copies Mq40 118 104) fun Mq41 =>
    b1 (fX13_copies Mq41 119 105) fun Mq42 =>
    b1 (fX13_copies Mq42 120 106) fun Mq43 =>
    b1 (fX13_copies Mq43 121 107) fun Mq44 =>
    b1 (fX13_copies Mq44 122 108) fun Mq45 =>
    b1 (fX13_copies Mq45 123 109) fun Mq46 =>
    b1 (fX13_copies Mq46 124 110) fun Mq47 =>
    b1 (fX13_copies Mq47 125 111) fun Mq48 =>
    b1 (fX13_copies Mq48 126 112) fun Mq49 =>
    b1 (fX13_copies Mq49 127 113) fun Mq50 =>
    b1 (fX13_copies Mq50 128 114) fun Mq51 =>
    b1 (fX13_copies Mq51 130 115) fun Mq52 =>
    fX13_land_l415 FU Mq52 0

def fX13_land_l170 : Nat → Mem → Option (Int32 × Mem)
  | 0, _ => none
  | n + 1, M =>
    b1 (fX13_isGood M) fun vq25 =>
    if vq25 = 0 then
      fX13_land_b191 M
    else
      pu (gI M 103 27) fun vq62 =>
      if vq62 = 0 then
        fX13_land_b191 M
      else
        b1 (fX13_line M) fun Mq63 =>
        fX13_land_l170 n Mq63

def fX13_land_l118 : Nat → Mem → Int32 → Option (Int32 × Mem)
  | 0, _, _ => none
  | n + 1, M, x2 =>
    if x2 < 31 then
      stI M 129 31 (x2) (0) fun Mq64 =>
      pu (x2 + 1) fun vq65 =>
      fX13_land_l118 n Mq64 vq65
    else
      stI M 129 31 (0) (50) fun Mq20 =>
      stI Mq20 129 31 (1) (20) fun Mq21 =>
      stI Mq21 129 31 (12) (1) fun Mq22 =>
      pu (sI Mq22 103 40 (0)) fun Mq23 =>
      b1 (fX13_goes Mq23) fun Mq24 =>
      fX13_land_l170 FU Mq24

def fX13_land_b23 (M : Mem) (x1 : Int32) (s0 : Int32) : Option (Int32 × Mem) :=
  b2 (fX13_right M s0 1) fun vq2 Mq3 =>
  if vq2 = 0 then
    some (0, Mq3)
  else
    pu (sI Mq3 103 21 (0)) fun Mq4 =>
    pu (sI Mq4 103 23 ((-1))) fun Mq5 =>
    pu (sI Mq5 103 22 (0)) fun Mq6 =>
    pu (sI Mq6 103 25 (x1)) fun Mq7 =>
    pu (sI Mq7 103 26 (0)) fun Mq8 =>
    pu (sI Mq8 103 33 (0)) fun Mq9 =>
    pu (sI Mq9 103 34 (0)) fun Mq10 =>
    pu (sI Mq10 103 35 (0)) fun Mq11 =>
    pu (sI Mq11 103 36 (0)) fun Mq12 =>
    pu (sI Mq12 103 37 (0)) fun Mq13 =>
    pu (sI Mq13 103 38 ((-1))) fun Mq14 =>
    pu (sI Mq14 103 39 ((-1))) fun Mq15 =>
    stI Mq15 122 2 (0) (0) fun Mq16 =>
    stI Mq16 122 2 (1) (0) fun Mq17 =>
    pu (sI Mq17 103 45 (0)) fun Mq18 =>
    pu (sI Mq18 103 46 (0)) fun Mq19 =>
    fX13_land_l118 FU Mq19 0

def fX13_land_b22 (M : Mem) (x1 : Int32) : Option (Int32 × Mem) :=
  fX13_land_b23 M x1 0

def fX13_land (M : Mem) (x1 : Int32) : Option (Int32 × Mem) :=
  pu (sI M 103 0 (0)) fun Mq1 =>
  if x1 < 0 then
    fX13_land_b22 Mq1 x1
  else
    pu (gI Mq1 103 21) fun vq66 =>
    if vq66 < x1 then
      fX13_land_b22 Mq1 x1
    else
      fX13_land_b23 Mq1 x1 1

-- X13_least
def fX13_least_b49 (a11 : Mem → Int32 → Int32 → Int32 → Option (Int32 × Mem)) (M : Mem) (x1 : Int32) (x2 : Int32) (x3 : Int32) : Option (Int32 × Mem) :=
  pu (x3 + 1) fun vq4 =>
  a11 M x1 x2 vq4

def fX13_least_b39 (a11 : Mem → Int32 → Int32 → Int32 → Option (Int32 × Mem)) (M : Mem) (x3 : Int32) : Option (Int32 × Mem) :=
  ldI M 133 186 (39) fun vq3 =>
  fX13_least_b49 a11 M x3 vq3 x3

def fX13_least_l11 : Nat → Mem → Int32 → Int32 → Int32 → Option (Int32 × Mem)
  | 0, _, _, _, _ => none
  | n + 1, M, x1, x2, x3 =>
    if 5 < x3 then
      some (x1, M)
    else
      b1 (fX13_goesByTerm M x3) fun Mq2 =>
      if x1 = 0 then
        fX13_least_b39 (fX13_least_l11 n) Mq2 x3
      else
        ldI Mq2 133 186 (39) fun vq5 =>
        if vq5 < x2 then
          fX13_least_b39 (fX13_least_l11 n) Mq2 x3
        else
          fX13_least_b49 (fX13_least_l11 n) Mq2 x1 x2 x3

def fX13_least (M : Mem) : Option (Int32 × Mem) :=
  pu (sI M 103 0 (0)) fun Mq1 =>
  fX13_least_l11 FU Mq1 0 0 1

-- X13_loan
def fX13_loan (M : Mem) (x1 : Int32) : Option (Int32 × Mem) :=
  pu (sI M 103 0 (0)) fun Mq1 =>
  b1 (fX13_within x1 1 99) fun vq2 =>
  if vq2 = 0 then
    b2 (fX13_refuses Mq1 1) fun vq11 Mq12 =>
    some (vq11, Mq12)
  else
    b1 (fX13_keeps Mq1) fun Mq3 =>
    ldI Mq3 133 186 (0) fun vq4 =>
    b1 (fX13_kept (vq4 + x1) 0 999) fun vq5 =>
    stI Mq3 133 186 (0) (vq5) fun Mq6 =>
    ldI Mq6 133 186 (2) fun vq7 =>
    b1 (fX13_kept (vq7 + x1) 0 999) fun vq8 =>
    stI Mq6 133 186 (2) (vq8) fun Mq9 =>
    ldI Mq9 133 186 (0) fun vq10 =>
    some (vq10, Mq9)

-- X13_moved
def fX13_moved_b79 (a35 : Mem → Int32 → Int32 → Int32 → Int32 → Option (Int32 × Mem)) (M : Mem) (x1 : Int32) (x2 : Int32) (x4 : Int32) (s0 : Int32) (s1 : Int32) : Option (Int32 × Mem) :=
  pu (s1 ||| s0) fun vq10 =>
  pu (x4 + 1) fun vq11 =>
  a35 M x1 x2 vq10 vq11

def fX13_moved_b78 (a35 : Mem → Int32 → Int32 → Int32 → Int32 → Option (Int32 × Mem)) (M : Mem) (x1 : Int32) (x2 : Int32) (x4 : Int32) (s0 : Int32) : Option (Int32 × Mem) :=
  fX13_moved_b79 a35 M x1 x2 x4 0 s0

def fX13_moved_l35 : Nat → Mem → Int32 → Int32 → Int32 → Int32 → Option (Int32 × Mem)
  | 0, _, _, _, _, _ => none
  | n + 1, M, x1, x2, x3, x4 =>
    pu (gI M 103 3) fun vq7 =>
    if x4 < vq7 then
      b2 (fX13_follows M 0 x4 0 0) fun vq8 Mq9 =>
      if vq8 = x1 then
        fX13_moved_b78 (fX13_moved_l35 n) Mq9 x1 x2 x4 x3
      else
        b2 (fX13_follows Mq9 0 x4 x1 x2) fun vq12 Mq13 =>
        if vq12 = x1 then
          fX13_moved_b79 (fX13_moved_l35 n) Mq13 x1 x2 x4 ((1 : Int32) <<< (x4 &&& 31 : Int32)) x3
        else
          fX13_moved_b78 (fX13_moved_l35 n) Mq13 x1 x2 x4 x3
    else
      some (x3, M)

def fX13_moved (M : Mem) (x1 : Int32) (x2 : Int32) : Option (Int32 × Mem) :=
  pu (sI M 103 0 (0)) fun Mq1 =>
  b2 (fX13_isBrother Mq1 x1) fun vq2 Mq3 =>
  if vq2 = 0 then
    some (0, Mq3)
  else
    b1 (fX13_within x2 1 99) fun vq4 =>
    b2 (fX13_right Mq3 vq4 2) fun vq5 Mq6 =>
    if vq5 = 0 then
      some (0, Mq6)
    else
      fX13_moved_l35 FU Mq6 x1 x2 0 0

-- X13_next
def fX13_next_b228 (a109 : Mem → Int32 → Int32 → Int32 → Int32 → Int32 → Option (Int32 × Mem)) (M : Mem) (x1 : Int32) (x2 : Int32) (x3 : Int32) (x4 : Int32) (x5 : Int32) : Option (Int32 × Mem) :=
  pu (x5 + 1) fun vq5 =>
  a109 M x1 x2 x3 x4 vq5

def fX13_next_b200 (a109 : Mem → Int32 → Int32 → Int32 → Int32 → Int32 → Option (Int32 × Mem)) (a122 : Mem → Int32 → Int32 → Int32 → Int32 → Int32 → Int32 → Int32 → Option (Int32 × Mem)) (M : Mem) (x1 : Int32) (x2 : Int32) (x3 : Int32) (x4 : Int32) (x5 : Int32) (x7 : Int32) (s0 : Int32) (s1 : Int32) : Option (Int32 × Mem) :=
  pu (s1 + s0) fun vq6 =>
  pu (x7 + 1) fun vq7 =>
  a122 M x1 x2 x3 x4 x5 vq6 vq7

def fX13_next_b188 (a109 : Mem → Int32 → Int32 → Int32 → Int32 → Int32 → Option (Int32 × Mem)) (a122 : Mem → Int32 → Int32 → Int32 → Int32 → Int32 → Int32 → Int32 → Option (Int32 × Mem)) (M : Mem) (x1 : Int32) (x2 : Int32) (x3 : Int32) (x4 : Int32) (x5 : Int32) (x6 : Int32) (x7 : Int32) (x8 : Int32) : Option (Int32 × Mem) :=
  if x8 = 0 then
    fX13_next_b200 a109 a122 M x1 x2 x3 x4 x5 x7 0 x6
  else
    fX13_next_b200 a109 a122 M x1 x2 x3 x4 x5 x7 1 x6

def fX13_next_b180 (a109 : Mem → Int32 → Int32 → Int32 → Int32 → Int32 → Option (Int32 × Mem)) (a122 : Mem → Int32 → Int32 → Int32 → Int32 → Int32 → Int32 → Int32 → Option (Int32 × Mem)) (a134 : Mem → Int32 → Int32 → Int32 → Int32 → Int32 → Int32 → Int32 → Int32 → Int32 → Option (Int32 × Mem)) (M : Mem) (x1 : Int32) (x2 : Int32) (x3 : Int32) (x4 : Int32) (x5 : Int32) (x6 : Int32) (x7 : Int32) (x9 : Int32) (s0 : Int32) : Option (Int32 × Mem) :=
  pu (x9 + 1) fun vq10 =>
  a134 M x1 x2 x3 x4 x5 x6 x7 s0 vq10

def fX13_next_l134 (a109 : Mem → Int32 → Int32 → Int32 → Int32 → Int32 → Option (Int32 × Mem)) (a122 : Mem → Int32 → Int32 → Int32 → Int32 → Int32 → Int32 → Int32 → Option (Int32 × Mem)) : Nat → Mem → Int32 → Int32 → Int32 → Int32 → Int32 → Int32 → Int32 → Int32 → Int32 → Option (Int32 × Mem)
  | 0, _, _, _, _, _, _, _, _, _, _ => none
  | n + 1, M, x1, x2, x3, x4, x5, x6, x7, x8, x9 =>
    if x9 < x7 then
      if x8 = 0 then
        fX13_next_b188 a109 a122 M x1 x2 x3 x4 x5 x6 x7 x8
      else
        ldI M 140 2520 ((30 * x7) + x5) fun vq8 =>
        ldI M 140 2520 ((30 * x9) + x5) fun vq9 =>
        if vq8 = vq9 then
          fX13_next_b180 a109 a122 (fX13_next_l134 a109 a122 n) M x1 x2 x3 x4 x5 x6 x7 x9 0
        else
          fX13_next_b180 a109 a122 (fX13_next_l134 a109 a122 n) M x1 x2 x3 x4 x5 x6 x7 x9 1
    else
      fX13_next_b188 a109 a122 M x1 x2 x3 x4 x5 x6 x7 x8

def fX13_next_l122 (a109 : Mem → Int32 → Int32 → Int32 → Int32 → Int32 → Option (Int32 × Mem)) : Nat → Mem → Int32 → Int32 → Int32 → Int32 → Int32 → Int32 → Int32 → Option (Int32 × Mem)
  | 0, _, _, _, _, _, _, _, _ => none
  | n + 1, M, x1, x2, x3, x4, x5, x6, x7 =>
    if x7 < x2 then
      fX13_next_l134 a109 (fX13_next_l122 a109 n) FU M x1 x2 x3 x4 x5 x6 x7 1 0
    else
      if x4 < x6 then
        pu (x5 + 1) fun vq4 =>
        fX13_next_b228 a109 M x1 x2 vq4 x6 x5
      else
        fX13_next_b228 a109 M x1 x2 x3 x4 x5

def fX13_next_l109 : Nat → Mem → Int32 → Int32 → Int32 → Int32 → Int32 → Option (Int32 × Mem)
  | 0, _, _, _, _, _, _ => none
  | n + 1, M, x1, x2, x3, x4, x5 =>
    if x5 < 30 then
      fX13_next_l122 (fX13_next_l109 n) FU M x1 x2 x3 x4 x5 0 0
    else
      if x1 = 0 then
        some (x3, M)
      else
        some (x4, M)

def fX13_next_b89 (a20 : Mem → Int32 → Int32 → Int32 → Option (Int32 × Mem)) (a29 : Mem → Int32 → Int32 → Int32 → Int32 → Option (Int32 × Mem)) (M : Mem) (x1 : Int32) (x2 : Int32) (x3 : Int32) (x4 : Int32) : Option (Int32 × Mem) :=
  pu (x4 + 1) fun vq16 =>
  a29 M x1 x2 x3 vq16

def fX13_next_l54 (a20 : Mem → Int32 → Int32 → Int32 → Option (Int32 × Mem)) (a29 : Mem → Int32 → Int32 → Int32 → Int32 → Option (Int32 × Mem)) : Nat → Mem → Int32 → Int32 → Int32 → Int32 → Int32 → Option (Int32 × Mem)
  | 0, _, _, _, _, _, _ => none
  | n + 1, M, x1, x2, x3, x4, x5 =>
    if x5 < 30 then
      ldI M 139 30 (x5) fun vq17 =>
      stI M 140 2520 ((30 * x2) + x5) (vq17) fun Mq18 =>
      pu (x5 + 1) fun vq19 =>
      fX13_next_l54 a20 a29 n Mq18 x1 x2 x3 x4 vq19
    else
      pu (x2 + 1) fun vq15 =>
      fX13_next_b89 a20 a29 M x1 vq15 x3 x4

def fX13_next_l29 (a20 : Mem → Int32 → Int32 → Int32 → Option (Int32 × Mem)) : Nat → Mem → Int32 → Int32 → Int32 → Int32 → Option (Int32 × Mem)
  | 0, _, _, _, _, _ => none
  | n + 1, M, x1, x2, x3, x4 =>
    pu (gI M 103 1) fun vq11 =>
    if x4 < vq11 then
      b2 (fX13_isSeen M x3 x4) fun vq13 Mq14 =>
      if vq13 = 0 then
        fX13_next_b89 a20 (fX13_next_l29 a20 n) Mq14 x1 x2 x3 x4
      else
        fX13_next_l54 a20 (fX13_next_l29 a20 n) FU Mq14 x1 x2 x3 x4 0
    else
      pu (x3 + 1) fun vq12 =>
      a20 M x1 x2 vq12

def fX13_next_l20 : Nat → Mem → Int32 → Int32 → Int32 → Option (Int32 × Mem)
  | 0, _, _, _, _ => none
  | n + 1, M, x1, x2, x3 =>
    if 12 < x3 then
      fX13_next_l109 FU M x1 x2 (-1) 0 0
    else
      fX13_next_l29 (fX13_next_l20 n) FU M x1 x2 x3 0

def fX13_next (M : Mem) (x1 : Int32) : Option (Int32 × Mem) :=
  pu (sI M 103 0 (0)) fun Mq1 =>
  b2 (fX13_isWhat Mq1 x1 1) fun vq2 Mq3 =>
  if vq2 = 0 then
    some (0, Mq3)
  else
    fX13_next_l20 FU Mq3 x1 0 1

-- X13_odds
def fX13_odds_b155 (a62 : Mem → Int32 → Int32 → Int32 → Int32 → Int32 → Option (Int32 × Mem)) (M : Mem) (x2 : Int32) (x3 : Int32) (x4 : Int32) (x5 : Int32) (x6 : Int32) : Option (Int32 × Mem) :=
  pu (x6 + 1) fun vq9 =>
  a62 M x2 x3 x4 x5 vq9

def fX13_odds_b142 (a62 : Mem → Int32 → Int32 → Int32 → Int32 → Int32 → Option (Int32 × Mem)) (a98 : Mem → Int32 → Int32 → Int32 → Int32 → Int32 → Int32 → Int32 → Option (Int32 × Mem)) (M : Mem) (x2 : Int32) (x3 : Int32) (x4 : Int32) (x5 : Int32) (x6 : Int32) (x7 : Int32) (x8 : Int32) : Option (Int32 × Mem) :=
  pu (x8 + 1) fun vq13 =>
  a98 M x2 x3 x4 x5 x6 x7 vq13

def fX13_odds_b139 (a62 : Mem → Int32 → Int32 → Int32 → Int32 → Int32 → Option (Int32 × Mem)) (a98 : Mem → Int32 → Int32 → Int32 → Int32 → Int32 → Int32 → Int32 → Option (Int32 × Mem)) (M : Mem) (x2 : Int32) (x3 : Int32) (x4 : Int32) (x5 : Int32) (x6 : Int32) (x8 : Int32) (s0 : Int32) (s1 : Int32) : Option (Int32 × Mem) :=
  pu (s1 * s0) fun vq14 =>
  fX13_odds_b142 a62 a98 M x2 x3 x4 x5 x6 vq14 x8

def fX13_odds_l98 (a62 : Mem → Int32 → Int32 → Int32 → Int32 → Int32 → Option (Int32 × Mem)) : Nat → Mem → Int32 → Int32 → Int32 → Int32 → Int32 → Int32 → Int32 → Option (Int32 × Mem)
  | 0, _, _, _, _, _, _, _, _ => none
  | n + 1, M, x2, x3, x4, x5, x6, x7, x8 =>
    pu (gI M 103 3) fun vq11 =>
    if x8 < vq11 then
      if ((x4 : Int32) >>> (x8 &&& 31 : Int32)) &&& 1 = 1 then
        if ((x6 : Int32) >>> (x8 &&& 31 : Int32)) &&& 1 = 1 then
          fX13_odds_b139 a62 (fX13_odds_l98 a62 n) M x2 x3 x4 x5 x6 x8 x2 x7
        else
          fX13_odds_b139 a62 (fX13_odds_l98 a62 n) M x2 x3 x4 x5 x6 x8 (10 - x2) x7
      else
        fX13_odds_b142 a62 (fX13_odds_l98 a62 n) M x2 x3 x4 x5 x6 x7 x8
    else
      pu (x5 + x7) fun vq12 =>
      fX13_odds_b155 a62 M x2 x3 x4 vq12 x6

def fX13_odds_l62 : Nat → Mem → Int32 → Int32 → Int32 → Int32 → Int32 → Option (Int32 × Mem)
  | 0, _, _, _, _, _, _ => none
  | n + 1, M, x2, x3, x4, x5, x6 =>
    if x4 < x6 then
      some (x5, M)
    else
      if x6 &&& (x4 ^^^ (-1)) = 0 then
        b1 (fX13_menOf M x6) fun vq10 =>
        if vq10 < x3 then
          fX13_odds_b155 (fX13_odds_l62 n) M x2 x3 x4 x5 x6
        else
          fX13_odds_l98 (fX13_odds_l62 n) FU M x2 x3 x4 x5 x6 1 0
      else
        fX13_odds_b155 (fX13_odds_l62 n) M x2 x3 x4 x5 x6

def fX13_odds_b39 (M : Mem) (x1 : Int32) (x2 : Int32) (x3 : Int32) (s0 : Int32) : Option (Int32 × Mem) :=
  b2 (fX13_right M s0 2) fun vq5 Mq6 =>
  if vq5 = 0 then
    some (0, Mq6)
  else
    b2 (fX13_followers Mq6 0 x1) fun vq7 Mq8 =>
    fX13_odds_l62 FU Mq8 x2 x3 vq7 0 0

def fX13_odds_b38 (M : Mem) (x1 : Int32) (x2 : Int32) (x3 : Int32) : Option (Int32 × Mem) :=
  fX13_odds_b39 M x1 x2 x3 0

def fX13_odds (M : Mem) (x1 : Int32) (x2 : Int32) (x3 : Int32) : Option (Int32 × Mem) :=
  pu (sI M 103 0 (0)) fun Mq1 =>
  b2 (fX13_isBrother Mq1 x1) fun vq2 Mq3 =>
  if vq2 = 0 then
    some (0, Mq3)
  else
    b1 (fX13_within x2 1 9) fun vq4 =>
    if vq4 = 0 then
      fX13_odds_b38 Mq3 x1 x2 x3
    else
      b1 (fX13_within x3 0 54) fun vq15 =>
      if vq15 = 0 then
        fX13_odds_b38 Mq3 x1 x2 x3
      else
        fX13_odds_b39 Mq3 x1 x2 x3 1

-- X13_parties
def fX13_parties_b57 (a23 : Mem → Int32 → Int32 → Int32 → Int32 → Option (Int32 × Mem)) (M : Mem) (x1 : Int32) (x2 : Int32) (x3 : Int32) (x4 : Int32) : Option (Int32 × Mem) :=
  pu (x4 + 1) fun vq7 =>
  a23 M x1 x2 x3 vq7

def fX13_parties_l23 : Nat → Mem → Int32 → Int32 → Int32 → Int32 → Option (Int32 × Mem)
  | 0, _, _, _, _, _ => none
  | n + 1, M, x1, x2, x3, x4 =>
    pu (gI M 103 3) fun vq4 =>
    if x4 < (1 : Int32) <<< (vq4 &&& 31 : Int32) then
      b1 (fX13_isResting M x4) fun vq5 =>
      if vq5 = 0 then
        fX13_parties_b57 (fX13_parties_l23 n) M x1 x2 x3 x4
      else
        pu (x2 + 1) fun vq6 =>
        if x3 = (-1) then
          fX13_parties_b57 (fX13_parties_l23 n) M x1 vq6 x4 x4
        else
          fX13_parties_b57 (fX13_parties_l23 n) M x1 vq6 x3 x4
    else
      if x1 = 0 then
        some (x2, M)
      else
        some (x3, M)

def fX13_parties (M : Mem) (x1 : Int32) : Option (Int32 × Mem) :=
  pu (sI M 103 0 (0)) fun Mq1 =>
  b2 (fX13_isWhat Mq1 x1 1) fun vq2 Mq3 =>
  if vq2 = 0 then
    some (0, Mq3)
  else
    fX13_parties_l23 FU Mq3 x1 0 (-1) 0

-- X13_triesDeed
def fX13_triesDeed_b56 (M : Mem) (x1 : Int32) (x2 : Int32) : Option (Int32 × Mem) :=
  b2 (fX13_does M (x1 + 31) x2) fun vq5 Mq6 =>
  b1 (fX13_ends Mq6 (x1 + 31) 1) fun Mq7 =>
  some (1, Mq7)

def fX13_triesDeed (M : Mem) (x1 : Int32) (x2 : Int32) : Option (Int32 × Mem) :=
  b1 (fX13_lays0 M x1 (x1 + 31)) fun Mq1 =>
  ldI Mq1 133 186 (x1 + 3) fun vq2 =>
  b1 (fX13_harvestOf Mq1 vq2) fun vq3 =>
  b1 (fX13_gathers Mq1 (x1 + 31) vq3) fun Mq4 =>
  if x2 = (-1) then
    fX13_triesDeed_b56 Mq4 x1 x2
  else
    ldI Mq4 104 7 (x2) fun vq8 =>
    ldI Mq4 133 186 ((x1 + 31) + 0) fun vq9 =>
    if vq9 < vq8 then
      some (0, Mq4)
    else
      fX13_triesDeed_b56 Mq4 x1 x2

-- X13_planOne
def fX13_planOne_b103 (a9 : Mem → Int32 → Int32 → Int32 → Int32 → Int32 → Option (Int32 × Mem)) (M : Mem) (x1 : Int32) (x2 : Int32) (x3 : Int32) (x4 : Int32) (x5 : Int32) : Option (Int32 × Mem) :=
  pu (x5 + 1) fun vq7 =>
  a9 M x1 x2 x3 x4 vq7

def fX13_planOne_b96 (a9 : Mem → Int32 → Int32 → Int32 → Int32 → Int32 → Option (Int32 × Mem)) (M : Mem) (x1 : Int32) (x2 : Int32) (x5 : Int32) (x6 : Int32) (x7 : Int32) : Option (Int32 × Mem) :=
  fX13_planOne_b103 a9 M x1 x2 x7 x6 x5

def fX13_planOne_b33 (a9 : Mem → Int32 → Int32 → Int32 → Int32 → Int32 → Option (Int32 × Mem)) (M : Mem) (x1 : Int32) (x2 : Int32) (x3 : Int32) (x4 : Int32) (x5 : Int32) (s0 : Int32) : Option (Int32 × Mem) :=
  b2 (fX13_triesDeed M x1 s0) fun vq4 Mq5 =>
  if vq4 = 0 then
    fX13_planOne_b103 a9 Mq5 x1 x2 x3 x4 x5
  else
    b1 (fX13_ahead0 Mq5 (x1 + 31) x2) fun vq6 =>
    if x4 = (-2) then
      fX13_planOne_b96 a9 Mq5 x1 x2 x5 s0 vq6
    else
      ldI Mq5 133 186 (x1 + 4) fun vq8 =>
      if vq8 = x2 then
        if x3 < vq6 then
          fX13_planOne_b96 a9 Mq5 x1 x2 x5 s0 vq6
        else
          fX13_planOne_b103 a9 Mq5 x1 x2 x3 x4 x5
      else
        if vq6 < x3 then
          fX13_planOne_b96 a9 Mq5 x1 x2 x5 s0 vq6
        else
          fX13_planOne_b103 a9 Mq5 x1 x2 x3 x4 x5

def fX13_planOne_l9 : Nat → Mem → Int32 → Int32 → Int32 → Int32 → Int32 → Option (Int32 × Mem)
  | 0, _, _, _, _, _, _ => none
  | n + 1, M, x1, x2, x3, x4, x5 =>
    pu (gI M 103 1) fun vq1 =>
    if vq1 < x5 then
      pu (sI M 103 67 (x4)) fun Mq2 =>
      some (x3, Mq2)
    else
      pu (gI M 103 1) fun vq3 =>
      if x5 = vq3 then
        fX13_planOne_b33 (fX13_planOne_l9 n) M x1 x2 x3 x4 x5 (-1)
      else
        fX13_planOne_b33 (fX13_planOne_l9 n) M x1 x2 x3 x4 x5 x5

def fX13_planOne (M : Mem) (x1 : Int32) (x2 : Int32) : Option (Int32 × Mem) :=
  fX13_planOne_l9 FU M x1 x2 0 (-2) 0

-- X13_planTwo
def fX13_planTwo_b103 (a9 : Mem → Int32 → Int32 → Int32 → Int32 → Int32 → Option (Int32 × Mem)) (M : Mem) (x1 : Int32) (x2 : Int32) (x3 : Int32) (x4 : Int32) (x5 : Int32) : Option (Int32 × Mem) :=
  pu (x5 + 1) fun vq8 =>
  a9 M x1 x2 x3 x4 vq8

def fX13_planTwo_b96 (a9 : Mem → Int32 → Int32 → Int32 → Int32 → Int32 → Option (Int32 × Mem)) (M : Mem) (x1 : Int32) (x2 : Int32) (x5 : Int32) (x6 : Int32) (x7 : Int32) : Option (Int32 × Mem) :=
  fX13_planTwo_b103 a9 M x1 x2 x7 x6 x5

def fX13_planTwo_b33 (a9 : Mem → Int32 → Int32 → Int32 → Int32 → Int32 → Option (Int32 × Mem)) (M : Mem) (x1 : Int32) (x2 : Int32) (x3 : Int32) (x4 : Int32) (x5 : Int32) (s0 : Int32) : Option (Int32 × Mem) :=
  b2 (fX13_triesDeed M x1 s0) fun vq4 Mq5 =>
  if vq4 = 0 then
    fX13_planTwo_b103 a9 Mq5 x1 x2 x3 x4 x5
  else
    b2 (fX13_planOne Mq5 (x1 + 31) x2) fun vq6 Mq7 =>
    if x4 = (-2) then
      fX13_planTwo_b96 a9 Mq7 x1 x2 x5 s0 vq6
    else
      ldI Mq7 133 186 (x1 + 4) fun vq9 =>
      if vq9 = x2 then
        if x3 < vq6 then
          fX13_planTwo_b96 a9 Mq7 x1 x2 x5 s0 vq6
        else
          fX13_planTwo_b103 a9 Mq7 x1 x2 x3 x4 x5
      else
        if vq6 < x3 then
          fX13_planTwo_b96 a9 Mq7 x1 x2 x5 s0 vq6
        else
          fX13_planTwo_b103 a9 Mq7 x1 x2 x3 x4 x5

def fX13_planTwo_l9 : Nat → Mem → Int32 → Int32 → Int32 → Int32 → Int32 → Option (Int32 × Mem)
  | 0, _, _, _, _, _, _ => none
  | n + 1, M, x1, x2, x3, x4, x5 =>
    pu (gI M 103 1) fun vq1 =>
    if vq1 < x5 then
      pu (sI M 103 67 (x4)) fun Mq2 =>
      some (x3, Mq2)
    else
      pu (gI M 103 1) fun vq3 =>
      if x5 = vq3 then
        fX13_planTwo_b33 (fX13_planTwo_l9 n) M x1 x2 x3 x4 x5 (-1)
      else
        fX13_planTwo_b33 (fX13_planTwo_l9 n) M x1 x2 x3 x4 x5 x5

def fX13_planTwo (M : Mem) (x1 : Int32) (x2 : Int32) : Option (Int32 × Mem) :=
  fX13_planTwo_l9 FU M x1 x2 0 (-2) 0

-- X13_planThree
def fX13_planThree_b103 (a9 : Mem → Int32 → Int32 → Int32 → Int32 → Int32 → Option (Int32 × Mem)) (M : Mem) (x1 : Int32) (x2 : Int32) (x3 : Int32) (x4 : Int32) (x5 : Int32) : Option (Int32 × Mem) :=
  pu (x5 + 1) fun vq8 =>
  a9 M x1 x2 x3 x4 vq8

def fX13_planThree_b96 (a9 : Mem → Int32 → Int32 → Int32 → Int32 → Int32 → Option (Int32 × Mem)) (M : Mem) (x1 : Int32) (x2 : Int32) (x5 : Int32) (x6 : Int32) (x7 : Int32) : Option (Int32 × Mem) :=
  fX13_planThree_b103 a9 M x1 x2 x7 x6 x5

def fX13_planThree_b33 (a9 : Mem → Int32 → Int32 → Int32 → Int32 → Int32 → Option (Int32 × Mem)) (M : Mem) (x1 : Int32) (x2 : Int32) (x3 : Int32) (x4 : Int32) (x5 : Int32) (s0 : Int32) : Option (Int32 × Mem) :=
  b2 (fX13_triesDeed M x1 s0) fun vq4 Mq5 =>
  if vq4 = 0 then
    fX13_planThree_b103 a9 Mq5 x1 x2 x3 x4 x5
  else
    b2 (fX13_planTwo Mq5 (x1 + 31) x2) fun vq6 Mq7 =>
    if x4 = (-2) then
      fX13_planThree_b96 a9 Mq7 x1 x2 x5 s0 vq6
    else
      ldI Mq7 133 186 (x1 + 4) fun vq9 =>
      if vq9 = x2 then
        if x3 < vq6 then
          fX13_planThree_b96 a9 Mq7 x1 x2 x5 s0 vq6
        else
          fX13_planThree_b103 a9 Mq7 x1 x2 x3 x4 x5
      else
        if vq6 < x3 then
          fX13_planThree_b96 a9 Mq7 x1 x2 x5 s0 vq6
        else
          fX13_planThree_b103 a9 Mq7 x1 x2 x3 x4 x5

def fX13_planThree_l9 : Nat → Mem → Int32 → Int32 → Int32 → Int32 → Int32 → Option (Int32 × Mem)
  | 0, _, _, _, _, _, _ => none
  | n + 1, M, x1, x2, x3, x4, x5 =>
    pu (gI M 103 1) fun vq1 =>
    if vq1 < x5 then
      pu (sI M 103 67 (x4)) fun Mq2 =>
      some (x3, Mq2)
    else
      pu (gI M 103 1) fun vq3 =>
      if x5 = vq3 then
        fX13_planThree_b33 (fX13_planThree_l9 n) M x1 x2 x3 x4 x5 (-1)
      else
        fX13_planThree_b33 (fX13_planThree_l9 n) M x1 x2 x3 x4 x5 x5

def fX13_planThree (M : Mem) (x1 : Int32) (x2 : Int32) : Option (Int32 × Mem) :=
  fX13_planThree_l9 FU M x1 x2 0 (-2) 0

-- X13_planFour
def fX13_planFour_b103 (a9 : Mem → Int32 → Int32 → Int32 → Int32 → Int32 → Option (Int32 × Mem)) (M : Mem) (x1 : Int32) (x2 : Int32) (x3 : Int32) (x4 : Int32) (x5 : Int32) : Option (Int32 × Mem) :=
  pu (x5 + 1) fun vq8 =>
  a9 M x1 x2 x3 x4 vq8

def fX13_planFour_b96 (a9 : Mem → Int32 → Int32 → Int32 → Int32 → Int32 → Option (Int32 × Mem)) (M : Mem) (x1 : Int32) (x2 : Int32) (x5 : Int32) (x6 : Int32) (x7 : Int32) : Option (Int32 × Mem) :=
  fX13_planFour_b103 a9 M x1 x2 x7 x6 x5

def fX13_planFour_b33 (a9 : Mem → Int32 → Int32 → Int32 → Int32 → Int32 → Option (Int32 × Mem)) (M : Mem) (x1 : Int32) (x2 : Int32) (x3 : Int32) (x4 : Int32) (x5 : Int32) (s0 : Int32) : Option (Int32 × Mem) :=
  b2 (fX13_triesDeed M x1 s0) fun vq4 Mq5 =>
  if vq4 = 0 then
    fX13_planFour_b103 a9 Mq5 x1 x2 x3 x4 x5
  else
    b2 (fX13_planThree Mq5 (x1 + 31) x2) fun vq6 Mq7 =>
    if x4 = (-2) then
      fX13_planFour_b96 a9 Mq7 x1 x2 x5 s0 vq6
    else
      ldI Mq7 133 186 (x1 + 4) fun vq9 =>
      if vq9 = x2 then
        if x3 < vq6 then
          fX13_planFour_b96 a9 Mq7 x1 x2 x5 s0 vq6
        else
          fX13_planFour_b103 a9 Mq7 x1 x2 x3 x4 x5
      else
        if vq6 < x3 then
          fX13_planFour_b96 a9 Mq7 x1 x2 x5 s0 vq6
        else
          fX13_planFour_b103 a9 Mq7 x1 x2 x3 x4 x5

def fX13_planFour_l9 : Nat → Mem → Int32 → Int32 → Int32 → Int32 → Int32 → Option (Int32 × Mem)
  | 0, _, _, _, _, _, _ => none
  | n + 1, M, x1, x2, x3, x4, x5 =>
    pu (gI M 103 1) fun vq1 =>
    if vq1 < x5 then
      pu (sI M 103 67 (x4)) fun Mq2 =>
      some (x3, Mq2)
    else
      pu (gI M 103 1) fun vq3 =>
      if x5 = vq3 then
        fX13_planFour_b33 (fX13_planFour_l9 n) M x1 x2 x3 x4 x5 (-1)
      else
        fX13_planFour_b33 (fX13_planFour_l9 n) M x1 x2 x3 x4 x5 x5

def fX13_planFour (M : Mem) (x1 : Int32) (x2 : Int32) : Option (Int32 × Mem) :=
  fX13_planFour_l9 FU M x1 x2 0 (-2) 0

-- X13_plan
def fX13_plan_b85 (M : Mem) (x2 : Int32) (x3 : Int32) (s0 : Int32) : Option (Int32 × Mem) :=
  if x2 = 0 then
    b1 (fX13_ahead0 M 0 x3) fun vq11 =>
    some (s0 - vq11, M)
  else
    pu (gI M 103 67) fun vq10 =>
    some (vq10, M)

def fX13_plan (M : Mem) (x1 : Int32) (x2 : Int32) : Option (Int32 × Mem) :=
  pu (sI M 103 0 (0)) fun Mq1 =>
  b2 (fX13_isWhat Mq1 x2 1) fun vq2 Mq3 =>
  if vq2 = 0 then
    some (0, Mq3)
  else
    b1 (fX13_within x1 1 4) fun vq4 =>
    b2 (fX13_right Mq3 vq4 2) fun vq5 Mq6 =>
    if vq5 = 0 then
      some (0, Mq6)
    else
      ldI Mq6 133 186 (4) fun vq7 =>
      if x1 = 1 then
        b2 (fX13_planOne Mq6 0 vq7) fun vq16 Mq17 =>
        fX13_plan_b85 Mq17 x2 vq7 vq16
      else
        if x1 = 2 then
          b2 (fX13_planTwo Mq6 0 vq7) fun vq14 Mq15 =>
          fX13_plan_b85 Mq15 x2 vq7 vq14
        else
          if x1 = 3 then
            b2 (fX13_planThree Mq6 0 vq7) fun vq12 Mq13 =>
            fX13_plan_b85 Mq13 x2 vq7 vq12
          else
            b2 (fX13_planFour Mq6 0 vq7) fun vq8 Mq9 =>
            fX13_plan_b85 Mq9 x2 vq7 vq8

-- X13_restore
def fX13_restore_l32 : Nat → Mem → Int32 → Option (Int32 × Mem)
  | 0, _, _ => none
  | n + 1, M, x1 =>
    if x1 < 31 then
      ldI M 141 31 (x1) fun vq9 =>
      stI M 133 186 (x1) (vq9) fun Mq10 =>
      pu (x1 + 1) fun vq11 =>
      fX13_restore_l32 n Mq10 vq11
    else
      b1 (fX13_copies M 142 134) fun Mq7 =>
      b1 (fX13_copies Mq7 143 138) fun Mq8 =>
      some (1, Mq8)

def fX13_restore (M : Mem) : Option (Int32 × Mem) :=
  pu (sI M 103 0 (0)) fun Mq1 =>
  pu (gI Mq1 103 74) fun vq2 =>
  if vq2 = 0 then
    some (0, Mq1)
  else
    pu (gI Mq1 103 75) fun vq3 =>
    pu (sI Mq1 103 64 (vq3)) fun Mq4 =>
    pu (gI Mq4 103 76) fun vq5 =>
    pu (sI Mq4 103 69 (vq5)) fun Mq6 =>
    fX13_restore_l32 FU Mq6 0

-- X13_ruin
def fX13_ruin_l14 : Nat → Mem → Int32 → Option (Int32 × Mem)
  | 0, _, _ => none
  | n + 1, M, x1 =>
    if 60 < x1 then
      some ((-1), M)
    else
      ldI M 133 186 (33) fun vq3 =>
      ldI M 133 186 (31) fun vq4 =>
      if vq4 < vq3 then
        some (x1, M)
      else
        b1 (fX13_goesBy M 31 (-2)) fun Mq5 =>
        pu (x1 + 1) fun vq6 =>
        fX13_ruin_l14 n Mq5 vq6

def fX13_ruin (M : Mem) : Option (Int32 × Mem) :=
  pu (sI M 103 0 (0)) fun Mq1 =>
  b1 (fX13_lays0 Mq1 0 31) fun Mq2 =>
  fX13_ruin_l14 FU Mq2 0

-- X13_see
def fX13_see_b35 (M : Mem) : Option (Int32 × Mem) :=
  b2 (fX13_refuses M 2) fun vq3 Mq4 =>
  some (vq3, Mq4)

def fX13_see (M : Mem) (x1 : Int32) (x2 : Int32) : Option (Int32 × Mem) :=
  pu (sI M 103 0 (0)) fun Mq1 =>
  pu (gI Mq1 103 69) fun vq2 =>
  if vq2 = 8 then
    fX13_see_b35 Mq1
  else
    b1 (fX13_within x1 1 30) fun vq5 =>
    if vq5 = 0 then
      fX13_see_b35 Mq1
    else
      b1 (fX13_within x2 0 999) fun vq6 =>
      if vq6 = 0 then
        fX13_see_b35 Mq1
      else
        pu (gI Mq1 103 69) fun vq7 =>
        stI Mq1 138 16 (2 * vq7) (x1) fun Mq8 =>
        pu (gI Mq8 103 69) fun vq9 =>
        stI Mq8 138 16 ((2 * vq9) + 1) (x2) fun Mq10 =>
        pu (gI Mq10 103 69) fun vq11 =>
        pu (sI Mq10 103 69 (vq11 + 1)) fun Mq12 =>
        pu (gI Mq12 103 69) fun vq13 =>
        some (vq13, Mq12)

-- X13_stays
def fX13_stays_l25 : Nat → Mem → Int32 → Int32 → Option (Int32 × Mem)
  | 0, _, _, _ => none
  | n + 1, M, x1, x2 =>
    if 60 < x2 then
      some ((-1), M)
    else
      ldI M 133 186 (35) fun vq5 =>
      b1 (fX13_goesBy M 31 (-2)) fun Mq6 =>
      ldI Mq6 133 186 (40) fun vq7 =>
      ldI Mq6 133 186 (9) fun vq8 =>
      if vq8 < vq7 then
        if x1 = 0 then
          some (x2, Mq6)
        else
          some (vq5, Mq6)
      else
        pu (x2 + 1) fun vq9 =>
        fX13_stays_l25 n Mq6 x1 vq9

def fX13_stays (M : Mem) (x1 : Int32) : Option (Int32 × Mem) :=
  pu (sI M 103 0 (0)) fun Mq1 =>
  b2 (fX13_isWhat Mq1 x1 1) fun vq2 Mq3 =>
  if vq2 = 0 then
    some (0, Mq3)
  else
    b1 (fX13_lays0 Mq3 0 31) fun Mq4 =>
    fX13_stays_l25 FU Mq4 x1 1

-- X13_swaps
def fX13_swaps (M : Mem) (x1 : Int32) (x2 : Int32) : Option Mem :=
  ldI M 133 186 (x1) fun vq1 =>
  ldI M 133 186 (x2) fun vq2 =>
  stI M 133 186 (x1) (vq2) fun Mq3 =>
  stI Mq3 133 186 (x2) (vq1) fun Mq4 =>
  some Mq4

-- X13_swap
def fX13_swap_b119 (a35 : Mem → Int32 → Int32 → Int32 → Int32 → Int32 → Option (Int32 × Mem)) (a52 : Mem → Int32 → Int32 → Int32 → Int32 → Int32 → Int32 → Option (Int32 × Mem)) (M : Mem) (x1 : Int32) (x2 : Int32) (x3 : Int32) (x4 : Int32) (x5 : Int32) (x6 : Int32) : Option (Int32 × Mem) :=
  pu (x6 + 1) fun vq16 =>
  a52 M x1 x2 x3 x4 x5 vq16

def fX13_swap_l52 (a35 : Mem → Int32 → Int32 → Int32 → Int32 → Int32 → Option (Int32 × Mem)) : Nat → Mem → Int32 → Int32 → Int32 → Int32 → Int32 → Int32 → Option (Int32 × Mem)
  | 0, _, _, _, _, _, _, _ => none
  | n + 1, M, x1, x2, x3, x4, x5, x6 =>
    ldI M 108 2 (x1) fun vq9 =>
    if x6 < vq9 then
      b1 (fX13_swaps M (x4 + x5) (x4 + x6)) fun Mq11 =>
      b2 (fX13_gloryIn Mq11 x1) fun vq12 Mq13 =>
      b1 (fX13_swaps Mq13 (x4 + x5) (x4 + x6)) fun Mq14 =>
      if x3 < vq12 then
        pu ((10 * x5) + x6) fun vq15 =>
        fX13_swap_b119 a35 (fX13_swap_l52 a35 n) Mq14 x1 vq15 vq12 x4 x5 x6
      else
        fX13_swap_b119 a35 (fX13_swap_l52 a35 n) Mq14 x1 x2 x3 x4 x5 x6
    else
      pu (x5 + 1) fun vq10 =>
      a35 M x1 x2 x3 x4 vq10

def fX13_swap_l35 : Nat → Mem → Int32 → Int32 → Int32 → Int32 → Int32 → Option (Int32 × Mem)
  | 0, _, _, _, _, _, _ => none
  | n + 1, M, x1, x2, x3, x4, x5 =>
    ldI M 108 2 (x1) fun vq7 =>
    if x5 < vq7 then
      pu (x5 + 1) fun vq8 =>
      fX13_swap_l52 (fX13_swap_l35 n) FU M x1 x2 x3 x4 x5 vq8
    else
      some (x2, M)

def fX13_swap (M : Mem) (x1 : Int32) : Option (Int32 × Mem) :=
  pu (sI M 103 0 (0)) fun Mq1 =>
  b2 (fX13_isBrother Mq1 x1) fun vq2 Mq3 =>
  if vq2 = 0 then
    some (0, Mq3)
  else
    b2 (fX13_gloryIn Mq3 x1) fun vq4 Mq5 =>
    pu (13 + (6 * x1)) fun vq6 =>
    fX13_swap_l35 FU Mq5 x1 (-1) vq4 vq6 0

-- X13_term
def fX13_term (M : Mem) (x1 : Int32) : Option (Int32 × Mem) :=
  pu (sI M 103 0 (0)) fun Mq1 =>
  b1 (fX13_within x1 1 5) fun vq2 =>
  if vq2 = 0 then
    b2 (fX13_refuses Mq1 1) fun vq6 Mq7 =>
    some (vq6, Mq7)
  else
    b1 (fX13_keeps Mq1) fun Mq3 =>
    ldI Mq3 133 186 (12) fun vq4 =>
    stI Mq3 133 186 (12) (x1) fun Mq5 =>
    some (vq4, Mq5)

-- X13_then
def fX13_then (M : Mem) (x1 : Int32) (x2 : Int32) : Option (Int32 × Mem) :=
  pu (sI M 103 0 (0)) fun Mq1 =>
  b2 (fX13_isWhat Mq1 x2 6) fun vq2 Mq3 =>
  if vq2 = 0 then
    some (0, Mq3)
  else
    b1 (fX13_within x1 0 60) fun vq4 =>
    b2 (fX13_right Mq3 vq4 2) fun vq5 Mq6 =>
    if vq5 = 0 then
      some (0, Mq6)
    else
      b1 (fX13_lays0 Mq6 0 31) fun Mq7 =>
      b1 (fX13_goesYears Mq7 31 x1) fun Mq8 =>
      if x2 = 0 then
        ldI Mq8 133 186 (31 + x2) fun vq9 =>
        some (vq9, Mq8)
      else if x2 = 1 then
        ldI Mq8 133 186 (31 + x2) fun vq10 =>
        some (vq10, Mq8)
      else if x2 = 2 then
        ldI Mq8 133 186 (31 + x2) fun vq11 =>
        some (vq11, Mq8)
      else if x2 = 3 then
        ldI Mq8 133 186 ((37 + x2) - 3) fun vq12 =>
        some (vq12, Mq8)
      else if x2 = 4 then
        ldI Mq8 133 186 ((37 + x2) - 3) fun vq13 =>
        some (vq13, Mq8)
      else if x2 = 5 then
        ldI Mq8 133 186 (35) fun vq14 =>
        some (vq14, Mq8)
      else 
        ldI Mq8 133 186 (39) fun vq15 =>
        some (vq15, Mq8)

-- X13_thrown
def fX13_thrown (M : Mem) : Option Int32 :=
  pu (gI M 103 0) fun vq1 =>
  some (vq1)

-- X13_undo
def fX13_undo_l26 : Nat → Mem → Int32 → Option (Int32 × Mem)
  | 0, _, _ => none
  | n + 1, M, x1 =>
    if x1 < 31 then
      pu (gI M 103 64) fun vq6 =>
      ldI M 134 1240 ((31 * vq6) + x1) fun vq7 =>
      stI M 133 186 (x1) (vq7) fun Mq8 =>
      pu (x1 + 1) fun vq9 =>
      fX13_undo_l26 n Mq8 vq9
    else
      pu (gI M 103 64) fun vq5 =>
      some (vq5, M)

def fX13_undo (M : Mem) : Option (Int32 × Mem) :=
  pu (sI M 103 0 (0)) fun Mq1 =>
  pu (gI Mq1 103 64) fun vq2 =>
  if vq2 = 0 then
    some ((-1), Mq1)
  else
    pu (gI Mq1 103 64) fun vq3 =>
    pu (sI Mq1 103 64 (vq3 - 1)) fun Mq4 =>
    fX13_undo_l26 FU Mq4 0

-- X13_way
def fX13_way_b33 (M : Mem) (x1 : Int32) (x2 : Int32) (s0 : Int32) : Option (Int32 × Mem) :=
  b2 (fX13_right M s0 1) fun vq4 Mq5 =>
  if vq4 = 0 then
    some (0, Mq5)
  else
    ldI Mq5 133 186 ((13 + (6 * x1)) + x2) fun vq6 =>
    some (vq6, Mq5)

def fX13_way_b32 (M : Mem) (x1 : Int32) (x2 : Int32) : Option (Int32 × Mem) :=
  fX13_way_b33 M x1 x2 0

def fX13_way (M : Mem) (x1 : Int32) (x2 : Int32) : Option (Int32 × Mem) :=
  pu (sI M 103 0 (0)) fun Mq1 =>
  b2 (fX13_isBrother Mq1 x1) fun vq2 Mq3 =>
  if vq2 = 0 then
    some (0, Mq3)
  else
    if x2 < 0 then
      fX13_way_b32 Mq3 x1 x2
    else
      ldI Mq3 108 2 (x1) fun vq7 =>
      if x2 < vq7 then
        fX13_way_b33 Mq3 x1 x2 1
      else
        fX13_way_b32 Mq3 x1 x2

-- X13_wins
def fX13_wins_b35 (M : Mem) (x1 : Int32) (x2 : Int32) (s0 : Int32) : Option (Int32 × Mem) :=
  b2 (fX13_right M s0 1) fun vq2 Mq3 =>
  if vq2 = 0 then
    some (0, Mq3)
  else
    b1 (fX13_isWin Mq3 x1 x2) fun vq4 =>
    if vq4 = 0 then
      some (0, Mq3)
    else
      some (1, Mq3)

def fX13_wins_b34 (M : Mem) (x1 : Int32) (x2 : Int32) : Option (Int32 × Mem) :=
  fX13_wins_b35 M x1 x2 0

def fX13_wins (M : Mem) (x1 : Int32) (x2 : Int32) : Option (Int32 × Mem) :=
  pu (sI M 103 0 (0)) fun Mq1 =>
  if x1 < 0 then
    fX13_wins_b34 Mq1 x1 x2
  else
    pu (gI Mq1 103 4) fun vq5 =>
    if x1 < vq5 then
      if x2 < 0 then
        fX13_wins_b34 Mq1 x1 x2
      else
        pu (gI Mq1 103 5) fun vq6 =>
        if x2 < vq6 then
          fX13_wins_b35 Mq1 x1 x2 1
        else
          fX13_wins_b34 Mq1 x1 x2
    else
      fX13_wins_b34 Mq1 x1 x2

-- X13_years
def fX13_years_b29 (M : Mem) : Option (Int32 × Mem) :=
  b2 (fX13_refuses M 1) fun vq3 Mq4 =>
  some (vq3, Mq4)

def fX13_years (M : Mem) (x1 : Int32) : Option (Int32 × Mem) :=
  pu (sI M 103 0 (0)) fun Mq1 =>
  b1 (fX13_within x1 1 20) fun vq2 =>
  if vq2 = 0 then
    fX13_years_b29 Mq1
  else
    ldI Mq1 133 186 (3) fun vq5 =>
    if 999 < vq5 + x1 then
      fX13_years_b29 Mq1
    else
      b1 (fX13_keeps Mq1) fun Mq6 =>
      b1 (fX13_goesYears Mq6 0 x1) fun Mq7 =>
      ldI Mq7 133 186 (3) fun vq8 =>
      some (vq8, Mq7)
