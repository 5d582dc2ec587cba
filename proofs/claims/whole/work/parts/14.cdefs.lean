def B_bitCount (p0 : Int32) : Option Int32 :=
  nm (p0 - ((ushr32 p0 (1 : Int32)) &&& (1431655765 : Int32))) fun v1 =>
  nm ((v1 &&& (858993459 : Int32)) + ((ushr32 v1 (2 : Int32)) &&& (858993459 : Int32))) fun v2 =>
  nm ((v2 + (ushr32 v2 (4 : Int32))) &&& (252645135 : Int32)) fun v3 =>
  nm (v3 + (ushr32 v3 (8 : Int32))) fun v4 =>
  nm (v4 + (ushr32 v4 (16 : Int32))) fun v5 =>
  some (v5 &&& (63 : Int32))
def K6_tells (p1 : Int32) (p2 : Int32) (p3 : Int32) : Option Int32 :=
  bd (B_bitCount p2) fun (r1 : Int32) =>
  bd (B_bitCount (p2 &&& (4032 : Int32))) fun (r2 : Int32) =>
  some (r1 + r2)
def K0_tells (p1 : Int32) (p2 : Int32) (p3 : Int32) : Option Int32 :=
  bd (K6_tells p1 p2 p3) fun (r1 : Int32) =>
  some (max32 (0 : Int32) (r1 - (1 : Int32)))
def K0_lessons (p1 : Int32) (p2 : Int32) (p3 : Int32) : Option Int32 :=
  some (3 : Int32)
def K0_price (p1 : Int32) : Option Int32 :=
  some (0 : Int32)
def K4_tells (p1 : Int32) (p2 : Int32) (p3 : Int32) : Option Int32 :=
  if p2 = (0 : Int32) then
    some (0 : Int32)
  else
    bd (B_bitCount p2) fun (r2 : Int32) =>
    some (r2 + (p1 / (3 : Int32)))
def K1_tells (p1 : Int32) (p2 : Int32) (p3 : Int32) : Option Int32 :=
  if p2 = (0 : Int32) then
    some (0 : Int32)
  else
    bd (K4_tells p1 p2 p3) fun (r2 : Int32) =>
    some (r2 + (2 : Int32))
def K4_price (p1 : Int32) : Option Int32 :=
  some (1 : Int32)
def K1_price (p1 : Int32) : Option Int32 :=
  bd (K4_price p1) fun (r1 : Int32) =>
  some (r1 + (6 : Int32))
def K2_tells (p1 : Int32) (p2 : Int32) (p3 : Int32) : Option Int32 :=
  bd (B_bitCount p2) fun (r1 : Int32) =>
  bd (B_bitCount p3) fun (r2 : Int32) =>
  some (r1 + (r2 / (2 : Int32)))
def K3_lessons (p1 : Int32) (p2 : Int32) (p3 : Int32) : Option Int32 :=
  some (1 : Int32)
def K2_lessons (p1 : Int32) (p2 : Int32) (p3 : Int32) : Option Int32 :=
  bd (K3_lessons p1 p2 p3) fun (r1 : Int32) =>
  some (r1 + (1 : Int32))
def K3_nextFact (p1 : Int32) (p2 : Int32) : Option Int32 :=
  nm (p1 &&& (p2 ^^^ (-1 : Int32))) fun v1 =>
  some (v1 &&& (-v1))
def K2_nextFact (p1 : Int32) (p2 : Int32) : Option Int32 :=
  bd (K3_nextFact (4095 : Int32) p2) fun (r1 : Int32) =>
  some r1
def K3_price (p1 : Int32) : Option Int32 :=
  some (2 : Int32)
def K2_price (p1 : Int32) : Option Int32 :=
  bd (K3_price p1) fun (r1 : Int32) =>
  some (r1 + p1)
def K3_tells (p1 : Int32) (p2 : Int32) (p3 : Int32) : Option Int32 :=
  bd (B_bitCount p2) fun (r1 : Int32) =>
  some r1
def K3_forgets (p1 : Int32) : Option Int32 :=
  some (0 : Int32)
def K4_lessons (p1 : Int32) (p2 : Int32) (p3 : Int32) : Option Int32 :=
  if (rem32 p2 (2 : Int32)) = (0 : Int32) then
    some (1 : Int32)
  else
    some (0 : Int32)
def K4_forgets (p1 : Int32) : Option Int32 :=
  if (rem32 p1 (7 : Int32)) = (0 : Int32) then
    some (1 : Int32)
  else
    some (0 : Int32)
def K5_lessons (p1 : Int32) (p2 : Int32) (p3 : Int32) : Option Int32 :=
  some (p1 / (2 : Int32))
def K5_price (p1 : Int32) : Option Int32 :=
  bd (K2_price p1) fun (r1 : Int32) =>
  some ((2 : Int32) * r1)
def K6_lessons (p1 : Int32) (p2 : Int32) (p3 : Int32) : Option Int32 :=
  if p3 = (0 : Int32) then
    some (2 : Int32)
  else
    some (1 : Int32)
def K6_price (p1 : Int32) : Option Int32 :=
  some (3 : Int32)
def S_holdOne (s : Ob) (p1 : Int32) (p2 : Int32) : Option Ob :=
  nm (pS s 0 (1 : Int32)) fun s1 =>
  nm (pS s1 1 p1) fun s2 =>
  nm (pS s2 2 p2) fun s3 =>
  some s3
def B_fill_L5 (a1 : Int32) (a3 : Int32) : Nat → Ob → Int32 → Option Ob
  | 0, _, _ => none
  | n + 1, s, x2 =>
    if a3 ≤ x2 then
      some s
    else
      gd (inb x2 100) <|
      nm (pA s 1 x2 a1) fun s3 =>
      nm (x2 + (1 : Int32)) fun v4 =>
      B_fill_L5 a1 a3 n s3 v4
def B_fill (s : Ob) (p1 : Int32) : Option Ob :=
  B_fill_L5 p1 (100 : Int32) FU s (0 : Int32)
def S_holdRow (s : Ob) (p1 : Int32) (p2 : Int32) : Option Ob :=
  nm (pS s 0 (2 : Int32)) fun s1 =>
  nm (pS s1 3 p1) fun s2 =>
  nm (pS s2 4 p2) fun s3 =>
  bd (B_fill s3 (0 : Int32)) fun (s4 : Ob) =>
  some s4
def S_hasPlaces (s : Ob) (p1 : Int32) (p2 : Int32) : Option Int32 :=
  if p1 < (0 : Int32) then
    some (0 : Int32)
  else
    if p2 < (0 : Int32) then
      some (0 : Int32)
    else
      if (oS s 4) < p2 then
        some (0 : Int32)
      else
        if ((oS s 4) - p2) < p1 then
          some (0 : Int32)
        else
          some (1 : Int32)
def S_cut (s : Ob) (p1 : Int32) : Option Int32 :=
  if (oS s 3) = (0 : Int32) then
    some p1.toInt8.toInt32
  else
    if (oS s 3) = (1 : Int32) then
      some p1.toInt16.toInt32
    else
      some p1
def S_leastNumber (s : Ob) : Option Int32 :=
  if (oS s 3) = (0 : Int32) then
    some (-128 : Int32)
  else
    if (oS s 3) = (1 : Int32) then
      some (-32768 : Int32)
    else
      some (-2147483648 : Int32)
def S_agrees (s : Ob) (p1 : Int32) (p2 : Int32) : Option Int32 :=
  gd (inb p1 100) <|
  jn (
    some (1 : Int32)) fun j23 =>
  if (ix (oA s 1) p1) = p2 then
    j23
  else
    gd (inb p1 100) <|
    bd (S_leastNumber s) fun (r4 : Int32) =>
    if (ix (oA s 1) p1) = r4 then
      j23
    else
      some (0 : Int32)
def K8_tells (p1 : Int32) (p2 : Int32) (p3 : Int32) : Option Int32 :=
  some (0 : Int32)
def K8_lessons (p1 : Int32) (p2 : Int32) (p3 : Int32) : Option Int32 :=
  some (0 : Int32)
def X_digitsOf (p0 : Int32) : Option Int32 :=
  if p0 = (99 : Int32) then
    some (2 : Int32)
  else
    if p0 = (100 : Int32) then
      some (2 : Int32)
    else
      if p0 = (101 : Int32) then
        some (-1 : Int32)
      else
        if p0 = (102 : Int32) then
          some (-1 : Int32)
        else
          if p0 = (103 : Int32) then
            some (-1 : Int32)
          else
            if p0 = (104 : Int32) then
              some (-1 : Int32)
            else
              if p0 = (105 : Int32) then
                some (-1 : Int32)
              else
                if p0 = (106 : Int32) then
                  some (-1 : Int32)
                else
                  if p0 = (107 : Int32) then
                    some (-1 : Int32)
                  else
                    if p0 = (108 : Int32) then
                      some (4 : Int32)
                    else
                      if p0 = (109 : Int32) then
                        some (-1 : Int32)
                      else
                        if p0 = (110 : Int32) then
                          some (-1 : Int32)
                        else
                          if p0 = (111 : Int32) then
                            some (2 : Int32)
                          else
                            if p0 = (112 : Int32) then
                              some (3 : Int32)
                            else
                              if p0 = (113 : Int32) then
                                some (-1 : Int32)
                              else
                                if p0 = (114 : Int32) then
                                  some (-1 : Int32)
                                else
                                  if p0 = (115 : Int32) then
                                    some (-1 : Int32)
                                  else
                                    if p0 = (116 : Int32) then
                                      some (6 : Int32)
                                    else
                                      some (-1 : Int32)
def X_statementFault_L40 (k83 : Option Int32) (σ : CS) (b0 : Nat) (a2 : Int32) : Nat → Int32 → Option Int32
  | 0, _ => none
  | n + 1, x3 =>
    if a2 ≤ x3 then
      k83
    else
      if (oS (σ b0) 4) ≤ x3 then
        some x3
      else
        gd (inb x3 100) <|
        if (ix (oA (σ b0) 1) x3) < (48 : Int32) then
          some x3
        else
          gd (inb x3 100) <|
          if (ix (oA (σ b0) 1) x3) ≤ (57 : Int32) then
            nm (x3 + (1 : Int32)) fun v15 =>
            X_statementFault_L40 k83 σ b0 a2 n v15
          else
            some x3
def X_statementFault (σ : CS) (p0 : Nat) (p1 : Int32) : Option Int32 :=
  if (oS (σ p0) 4) ≤ p1 then
    some p1
  else
    gd (inb p1 100) <|
    bd (X_digitsOf (ix (oA (σ p0) 1) p1)) fun (r3 : Int32) =>
    if (0 : Int32) ≤ r3 then
      gd (inb p1 100) <|
      bd (X_digitsOf (ix (oA (σ p0) 1) p1)) fun (r6 : Int32) =>
      nm ((p1 + (1 : Int32)) + r6) fun v7 =>
      nm (p1 + (1 : Int32)) fun v8 =>
      X_statementFault_L40 (
          jn (
            some v7) fun j102 =>
          if (oS (σ p0) 4) ≤ v7 then
            j102
          else
            gd (inb v7 100) <|
            if (ix (oA (σ p0) 1) v7) = (59 : Int32) then
              some (-1 : Int32)
            else
              j102) σ p0 v7 FU v8
    else
      some p1
def X_behind (σ : CS) (p0 : Nat) (p1 : Int32) : Option Int32 :=
  gd (inb p1 100) <|
  bd (X_digitsOf (ix (oA (σ p0) 1) p1)) fun (r2 : Int32) =>
  some ((p1 + (2 : Int32)) + (max32 (0 : Int32) r2))
def X_grammarFault_L4 (σ : CS) (b0 : Nat) : Nat → Int32 → Int32 → Option Int32
  | 0, _, _ => none
  | n + 1, x1, x2 =>
    if (100 : Int32) ≤ x2 then
      some (-1 : Int32)
    else
      bd (X_statementFault σ b0 x1) fun (r2 : Int32) =>
      if r2 < (0 : Int32) then
        bd (X_behind σ b0 x1) fun (r4 : Int32) =>
        if r4 < (oS (σ b0) 4) then
          nm (x2 + (1 : Int32)) fun v6 =>
          X_grammarFault_L4 σ b0 n r4 v6
        else
          some (-1 : Int32)
      else
        some r2
def X_grammarFault (σ : CS) (p0 : Nat) : Option Int32 :=
  X_grammarFault_L4 σ p0 FU (0 : Int32) (0 : Int32)
def X_number_L5 (σ : CS) (b0 : Nat) (a1 : Int32) (a2 : Int32) : Nat → Int32 → Int32 → Option Int32
  | 0, _, _ => none
  | n + 1, x3, x4 =>
    if (a1 + a2) ≤ x4 then
      some x3
    else
      if (oS (σ b0) 4) ≤ x4 then
        some x3
      else
        gd (inb x4 100) <|
        nm ((((10 : Int32) * x3) + (ix (oA (σ b0) 1) x4)) - (48 : Int32)) fun v4 =>
        nm (x4 + (1 : Int32)) fun v5 =>
        X_number_L5 σ b0 a1 a2 n v4 v5
def X_number (σ : CS) (p0 : Nat) (p1 : Int32) (p2 : Int32) : Option Int32 :=
  X_number_L5 σ p0 p1 p2 FU (0 : Int32) p1
def C_isThing (p0 : Int32) : Option Int32 :=
  if p0 < (0 : Int32) then
    some (0 : Int32)
  else
    if (5 : Int32) ≤ p0 then
      some (0 : Int32)
    else
      some (1 : Int32)
def C_within (p0 : Int32) (p1 : Int32) : Option Int32 :=
  if p0 < (0 : Int32) then
    some (0 : Int32)
  else
    if p1 < p0 then
      some (0 : Int32)
    else
      some (1 : Int32)
def T_remake (t : Ob) (p1 : Int32) (p2 : Int32) (p3 : Int32) : Option (Int32 × Ob) :=
  bd (C_isThing p1) fun (r1 : Int32) =>
  if r1 = (0 : Int32) then
    some ((0 : Int32), t)
  else
    bd (C_within p2 (4095 : Int32)) fun (r3 : Int32) =>
    if r3 = (0 : Int32) then
      some ((0 : Int32), t)
    else
      bd (C_within p3 (9 : Int32)) fun (r5 : Int32) =>
      if r5 = (0 : Int32) then
        some ((0 : Int32), t)
      else
        gd (inb p1 5) <|
        nm (pA t 1 p1 p2) fun t8 =>
        gd (inb p1 5) <|
        nm (pA t8 2 p1 p3) fun t10 =>
        some ((1 : Int32), t10)
def C_isCare (p0 : Int32) : Option Int32 :=
  bd (C_isThing p0) fun (r1 : Int32) =>
  jn (
    some (1 : Int32)) fun j13 =>
  if r1 = (0 : Int32) then
    if p0 = (9 : Int32) then
      j13
    else
      some (0 : Int32)
  else
    j13
def T_arrive (t : Ob) (p1 : Int32) (p2 : Int32) (p3 : Int32) : Option (Int32 × Ob) :=
  if (7 : Int32) ≤ (oS t 1) then
    some ((0 : Int32), t)
  else
    bd (C_within p1 (7 : Int32)) fun (r2 : Int32) =>
    if r2 = (0 : Int32) then
      some ((0 : Int32), t)
    else
      bd (C_within p2 (9 : Int32)) fun (r4 : Int32) =>
      if r4 = (0 : Int32) then
        some ((0 : Int32), t)
      else
        bd (C_isCare p3) fun (r6 : Int32) =>
        if r6 = (0 : Int32) then
          some ((0 : Int32), t)
        else
          gd (inb (oS t 1) 7) <|
          nm (pA t 4 (oS t 1) p1) fun t9 =>
          gd (inb (oS t9 1) 7) <|
          nm (pA t9 5 (oS t9 1) p2) fun t11 =>
          gd (inb (oS t11 1) 7) <|
          nm (pA t11 6 (oS t11 1) p3) fun t13 =>
          nm (pS t13 1 ((oS t13 1) + (1 : Int32))) fun t14 =>
          some ((1 : Int32), t14)
def T_hasOne (t : Ob) (p1 : Int32) : Option Int32 :=
  if p1 < (0 : Int32) then
    some (0 : Int32)
  else
    if (oS t 1) ≤ p1 then
      some (0 : Int32)
    else
      some (1 : Int32)
def T_turnFact (t : Ob) (p1 : Int32) (p2 : Int32) (p3 : Int32) : Option (Int32 × Ob) :=
  bd (T_hasOne t p1) fun (r1 : Int32) =>
  if r1 = (0 : Int32) then
    some ((0 : Int32), t)
  else
    bd (C_isThing p2) fun (r3 : Int32) =>
    if r3 = (0 : Int32) then
      some ((0 : Int32), t)
    else
      bd (C_within p3 (11 : Int32)) fun (r5 : Int32) =>
      if r5 = (0 : Int32) then
        some ((0 : Int32), t)
      else
        nm ((p1 * (5 : Int32)) + p2) fun v7 =>
        gd (inb v7 35) <|
        gd (inb v7 35) <|
        nm (pA t 7 v7 ((ix (oA t 7) v7) ^^^ (shl32 (1 : Int32) p3))) fun t10 =>
        some ((1 : Int32), t10)
def T_handOver (t : Ob) (p1 : Int32) (p2 : Int32) : Option (Int32 × Ob) :=
  bd (C_isThing p1) fun (r1 : Int32) =>
  if r1 = (0 : Int32) then
    some ((0 : Int32), t)
  else
    bd (T_hasOne t p2) fun (r3 : Int32) =>
    jn (
      gd (inb p1 5) <|
      nm (pA t 3 p1 p2) fun t7 =>
      some ((1 : Int32), t7)) fun j23 =>
    if r3 = (0 : Int32) then
      if p2 = (9 : Int32) then
        j23
      else
        some ((0 : Int32), t)
    else
      j23
def T_turnTo (t : Ob) (p1 : Int32) (p2 : Int32) : Option (Int32 × Ob) :=
  bd (T_hasOne t p1) fun (r1 : Int32) =>
  if r1 = (0 : Int32) then
    some ((0 : Int32), t)
  else
    bd (C_isCare p2) fun (r3 : Int32) =>
    if r3 = (0 : Int32) then
      some ((0 : Int32), t)
    else
      gd (inb p1 7) <|
      nm (pA t 6 p1 p2) fun t6 =>
      some ((1 : Int32), t6)
def KD_lessons (k : Int32) (p1 : Int32) (p2 : Int32) (p3 : Int32) : Option Int32 := match k.toNatClampNeg with
  | 0 => K3_lessons p1 p2 p3
  | 1 => K4_lessons p1 p2 p3
  | 2 => K2_lessons p1 p2 p3
  | 3 => K6_lessons p1 p2 p3
  | 4 => K4_lessons p1 p2 p3
  | 5 => K5_lessons p1 p2 p3
  | 6 => K0_lessons p1 p2 p3
  | _ => K8_lessons p1 p2 p3
def T_lessons (t : Ob) (p1 : Int32) (p2 : Int32) : Option Int32 :=
  gd (inb p1 7) <|
  nm (ix (oA t 6) p1) fun v2 =>
  bd (C_isThing v2) fun (r3 : Int32) =>
  if r3 = (0 : Int32) then
    some (0 : Int32)
  else
    gd (inb p1 7) <|
    gd (inb (ix (oA t 4) p1) 8) <|
    gd (inb p1 7) <|
    gd (inb v2 5) <|
    bd (
      if (ix (oA t 3) v2) = p1 then
        some (1 : Int32)
      else
        some (0 : Int32)) fun (s10 : Int32) =>
    bd (KD_lessons (ix (oA t 4) p1) (ix (oA t 5) p1) p2 s10) fun (r11 : Int32) =>
    some r11
def KD_nextFact (k : Int32) (p1 : Int32) (p2 : Int32) : Option Int32 := match k.toNatClampNeg with
  | 0 => K3_nextFact p1 p2
  | 1 => K3_nextFact p1 p2
  | 2 => K2_nextFact p1 p2
  | 3 => K3_nextFact p1 p2
  | 4 => K3_nextFact p1 p2
  | 5 => K2_nextFact p1 p2
  | 6 => K3_nextFact p1 p2
  | _ => K3_nextFact p1 p2
def T_study_L20 (a1 : Int32) (a2 : Int32) (a3 : Int32) : Nat → Ob → Int32 → Option Ob
  | 0, _, _ => none
  | n + 1, t, x4 =>
    if a3 ≤ x4 then
      some t
    else
      nm ((a1 * (5 : Int32)) + a2) fun v5 =>
      gd (inb v5 35) <|
      gd (inb a1 7) <|
      gd (inb (ix (oA t 4) a1) 8) <|
      gd (inb a2 5) <|
      gd (inb ((a1 * (5 : Int32)) + a2) 35) <|
      bd (KD_nextFact (ix (oA t 4) a1) (ix (oA t 1) a2) (ix (oA t 7) ((a1 * (5 : Int32)) + a2))) fun (r11 : Int32) =>
      gd (inb v5 35) <|
      nm (pA t 7 v5 ((ix (oA t 7) v5) ||| r11)) fun t13 =>
      nm (x4 + (1 : Int32)) fun v14 =>
      T_study_L20 a1 a2 a3 n t13 v14
def T_study (t : Ob) (p1 : Int32) : Option Ob :=
  gd (inb p1 7) <|
  nm (ix (oA t 6) p1) fun v2 =>
  bd (T_lessons t p1 (oS t 2)) fun (r3 : Int32) =>
  T_study_L20 p1 v2 r3 FU t (0 : Int32)
def T_forgetLatest_L2 (a1 : Int32) : Nat → Ob → Int32 → Option Ob
  | 0, _, _ => none
  | n + 1, t, x2 =>
    if (5 : Int32) ≤ x2 then
      some t
    else
      gd (inb ((a1 * (5 : Int32)) + x2) 35) <|
      nm (ix (oA t 7) ((a1 * (5 : Int32)) + x2)) fun v3 =>
      nm (v3 ||| (shr32 v3 (1 : Int32))) fun v4 =>
      nm (v4 ||| (shr32 v4 (2 : Int32))) fun v5 =>
      nm (v5 ||| (shr32 v5 (4 : Int32))) fun v6 =>
      nm (v6 ||| (shr32 v6 (8 : Int32))) fun v7 =>
      gd (inb ((a1 * (5 : Int32)) + x2) 35) <|
      nm (pA t 7 ((a1 * (5 : Int32)) + x2) (v3 &&& (shr32 v7 (1 : Int32)))) fun t9 =>
      nm (x2 + (1 : Int32)) fun v10 =>
      T_forgetLatest_L2 a1 n t9 v10
def T_forgetLatest (t : Ob) (p1 : Int32) : Option Ob :=
  T_forgetLatest_L2 p1 FU t (0 : Int32)
def KD_tells (k : Int32) (p1 : Int32) (p2 : Int32) (p3 : Int32) : Option Int32 := match k.toNatClampNeg with
  | 0 => K3_tells p1 p2 p3
  | 1 => K4_tells p1 p2 p3
  | 2 => K2_tells p1 p2 p3
  | 3 => K6_tells p1 p2 p3
  | 4 => K1_tells p1 p2 p3
  | 5 => K2_tells p1 p2 p3
  | 6 => K0_tells p1 p2 p3
  | _ => K8_tells p1 p2 p3
def T_settle_L11 (k113 : Int32 → Int32 → Int32 → Option (Int32 × Ob)) (t : Ob) (a1 : Int32) : Nat → Int32 → Int32 → Int32 → Int32 → Option (Int32 × Ob)
  | 0, _, _, _, _ => none
  | n + 1, x2, x3, x4, x5 =>
    if (oS t 1) ≤ x5 then
      k113 x2 x3 x4
    else
      gd (inb ((x5 * (5 : Int32)) + a1) 35) <|
      nm (ix (oA t 7) ((x5 * (5 : Int32)) + a1)) fun v3 =>
      gd (inb x5 7) <|
      gd (inb (ix (oA t 4) x5) 8) <|
      gd (inb x5 7) <|
      gd (inb a1 5) <|
      gd (inb a1 5) <|
      bd (KD_tells (ix (oA t 4) x5) (ix (oA t 5) x5) (v3 &&& (ix (oA t 1) a1)) (v3 &&& ((ix (oA t 1) a1) ^^^ (-1 : Int32)))) fun (r9 : Int32) =>
      gd (inb a1 5) <|
      bd3 (
        if x5 = (ix (oA t 3) a1) then
          some (r9, x3, x4)
        else
          if r9 ≤ x3 then
            some (x2, x3, x4)
          else
            some (x2, r9, x5)) fun (x2_13 : Int32) (x3_14 : Int32) (x4_15 : Int32) =>
      nm (x5 + (1 : Int32)) fun v16 =>
      T_settle_L11 k113 t a1 n x2_13 x3_14 x4_15 v16
def T_settle (t : Ob) (p1 : Int32) : Option (Int32 × Ob) :=
  T_settle_L11 (fun (x2_18 : Int32) (x3_19 : Int32) (x4_20 : Int32) =>
      if x2_18 < x3_19 then
        gd (inb p1 5) <|
        nm (pA t 3 p1 x4_20) fun t23 =>
        some ((1 : Int32), t23)
      else
        some ((0 : Int32), t)) t p1 FU (0 : Int32) (0 : Int32) (9 : Int32) (0 : Int32)
def KD_forgets (k : Int32) (p1 : Int32) : Option Int32 := match k.toNatClampNeg with
  | 0 => K3_forgets p1
  | 1 => K4_forgets p1
  | 2 => K3_forgets p1
  | 3 => K3_forgets p1
  | 4 => K4_forgets p1
  | 5 => K3_forgets p1
  | 6 => K3_forgets p1
  | _ => K4_forgets p1
def T_pass_L12 (k57 : Ob → Option (Int32 × Ob)) : Nat → Ob → Int32 → Option (Int32 × Ob)
  | 0, _, _ => none
  | n + 1, t, x1 =>
    if (oS t 1) ≤ x1 then
      k57 t
    else
      bd (T_study t x1) fun (t3 : Ob) =>
      gd (inb x1 7) <|
      gd (inb (ix (oA t3 4) x1) 8) <|
      bd (KD_forgets (ix (oA t3 4) x1) (oS t3 2)) fun (r6 : Int32) =>
      bd (
        if r6 = (0 : Int32) then
          some t3
        else
          bd (T_forgetLatest t3 x1) fun (t8 : Ob) =>
          some t8) fun (t9 : Ob) =>
      nm (x1 + (1 : Int32)) fun v10 =>
      T_pass_L12 k57 n t9 v10
def T_pass_L61 : Nat → Ob → Int32 → Int32 → Option (Int32 × Ob)
  | 0, _, _, _ => none
  | n + 1, t, x1, x2 =>
    if (5 : Int32) ≤ x2 then
      gd (isZ x1) <|
      some (x1, t)
    else
      bd2 (T_settle t x2) fun (r17 : Int32) (t18 : Ob) =>
      nm (x1 ||| r17) fun v19 =>
      nm (x2 + (1 : Int32)) fun v20 =>
      T_pass_L61 n t18 v19 v20
def T_pass (t : Ob) : Option (Int32 × Ob) :=
  nm (pS t 2 ((oS t 2) + (1 : Int32))) fun t1 =>
  T_pass_L12 (fun (t14 : Ob) =>
      T_pass_L61 FU t14 (0 : Int32) (0 : Int32)) FU t1 (0 : Int32)
def T_goOn_L27 (a1 : Int32) : Nat → Ob → Int32 → Option (Int32 × Ob)
  | 0, _, _ => none
  | n + 1, t, x2 =>
    if a1 ≤ x2 then
      some ((1 : Int32), t)
    else
      bd2 (T_pass t) fun (r5 : Int32) (t6 : Ob) =>
      nm (x2 + (1 : Int32)) fun v7 =>
      T_goOn_L27 a1 n t6 v7
def T_goOn (t : Ob) (p1 : Int32) : Option (Int32 × Ob) :=
  if p1 < (1 : Int32) then
    some ((0 : Int32), t)
  else
    if (60 : Int32) < p1 then
      some ((0 : Int32), t)
    else
      if ((oS t 2) + p1) ≤ (999 : Int32) then
        T_goOn_L27 p1 FU t (0 : Int32)
      else
        some ((0 : Int32), t)
def X_obey (σ : CS) (p0 : Nat) (p1 : Int32) (p2 : Nat) : Option (Int32 × CS) :=
  bd (X_number σ p0 (p1 + (1 : Int32)) (1 : Int32)) fun (r1 : Int32) =>
  bd (X_number σ p0 (p1 + (2 : Int32)) (1 : Int32)) fun (r2 : Int32) =>
  gd (inb p1 100) <|
  if (ix (oA (σ p0) 1) p1) = (99 : Int32) then
    bd2 (T_turnTo (σ p2) r1 r2) fun (r5 : Int32) (t6 : Ob) =>
    nm (va_up σ p2 t6) fun σ7 =>
    gd (isZ r5) <|
    some (r5, σ7)
  else
    if (ix (oA (σ p0) 1) p1) = (100 : Int32) then
      bd (X_number σ p0 (p1 + (1 : Int32)) (2 : Int32)) fun (r10 : Int32) =>
      bd2 (T_goOn (σ p2) r10) fun (r11 : Int32) (t12 : Ob) =>
      nm (va_up σ p2 t12) fun σ13 =>
      gd (isZ r11) <|
      some (r11, σ13)
    else
      if (ix (oA (σ p0) 1) p1) = (101 : Int32) then
        some ((0 : Int32), σ)
      else
        if (ix (oA (σ p0) 1) p1) = (102 : Int32) then
          some ((0 : Int32), σ)
        else
          if (ix (oA (σ p0) 1) p1) = (103 : Int32) then
            some ((0 : Int32), σ)
          else
            if (ix (oA (σ p0) 1) p1) = (104 : Int32) then
              some ((0 : Int32), σ)
            else
              if (ix (oA (σ p0) 1) p1) = (105 : Int32) then
                some ((0 : Int32), σ)
              else
                if (ix (oA (σ p0) 1) p1) = (106 : Int32) then
                  some ((0 : Int32), σ)
                else
                  if (ix (oA (σ p0) 1) p1) = (107 : Int32) then
                    some ((0 : Int32), σ)
                  else
                    if (ix (oA (σ p0) 1) p1) = (108 : Int32) then
                      bd (X_number σ p0 (p1 + (3 : Int32)) (2 : Int32)) fun (r23 : Int32) =>
                      bd2 (T_turnFact (σ p2) r1 r2 r23) fun (r24 : Int32) (t25 : Ob) =>
                      nm (va_up σ p2 t25) fun σ26 =>
                      gd (isZ r24) <|
                      some (r24, σ26)
                    else
                      if (ix (oA (σ p0) 1) p1) = (109 : Int32) then
                        some ((0 : Int32), σ)
                      else
                        if (ix (oA (σ p0) 1) p1) = (110 : Int32) then
                          some ((0 : Int32), σ)
                        else
                          if (ix (oA (σ p0) 1) p1) = (111 : Int32) then
                            bd2 (T_handOver (σ p2) r1 r2) fun (r31 : Int32) (t32 : Ob) =>
                            nm (va_up σ p2 t32) fun σ33 =>
                            gd (isZ r31) <|
                            some (r31, σ33)
                          else
                            if (ix (oA (σ p0) 1) p1) = (112 : Int32) then
                              bd (X_number σ p0 (p1 + (3 : Int32)) (1 : Int32)) fun (r36 : Int32) =>
                              bd2 (T_arrive (σ p2) r1 r2 r36) fun (r37 : Int32) (t38 : Ob) =>
                              nm (va_up σ p2 t38) fun σ39 =>
                              gd (isZ r37) <|
                              some (r37, σ39)
                            else
                              if (ix (oA (σ p0) 1) p1) = (113 : Int32) then
                                some ((0 : Int32), σ)
                              else
                                if (ix (oA (σ p0) 1) p1) = (114 : Int32) then
                                  some ((0 : Int32), σ)
                                else
                                  if (ix (oA (σ p0) 1) p1) = (115 : Int32) then
                                    some ((0 : Int32), σ)
                                  else
                                    if (ix (oA (σ p0) 1) p1) = (116 : Int32) then
                                      bd (X_number σ p0 (p1 + (2 : Int32)) (4 : Int32)) fun (r45 : Int32) =>
                                      bd (X_number σ p0 (p1 + (6 : Int32)) (1 : Int32)) fun (r46 : Int32) =>
                                      bd2 (T_remake (σ p2) r1 r45 r46) fun (r47 : Int32) (t48 : Ob) =>
                                      nm (va_up σ p2 t48) fun σ49 =>
                                      gd (isZ r47) <|
                                      some (r47, σ49)
                                    else
                                      some ((0 : Int32), σ)
def T_takeFrom (t : Ob) (u : Ob) : Option Ob :=
  nm (pS t 1 (oS u 1)) fun t1 =>
  nm (pS t1 2 (oS u 2)) fun t2 =>
  nm (pR t2 1 (va_cpy (oA u 1) (oA t2 1) 0 0 5)) fun t3 =>
  nm (pR t3 2 (va_cpy (oA u 2) (oA t3 2) 0 0 5)) fun t4 =>
  nm (pR t4 3 (va_cpy (oA u 3) (oA t4 3) 0 0 5)) fun t5 =>
  nm (pR t5 4 (va_cpy (oA u 4) (oA t5 4) 0 0 7)) fun t6 =>
  nm (pR t6 5 (va_cpy (oA u 5) (oA t6 5) 0 0 7)) fun t7 =>
  nm (pR t7 6 (va_cpy (oA u 6) (oA t7 6) 0 0 7)) fun t8 =>
  nm (pR t8 7 (va_cpy (oA u 7) (oA t8 7) 0 0 35)) fun t9 =>
  some t9
def T_taleWith (t : Ob) (p1 : Int32) (p2 : Int32) (p3 : Int32) : Option Int32 :=
  gd (inb p1 7) <|
  gd (inb (ix (oA t 4) p1) 8) <|
  gd (inb p1 7) <|
  gd (inb p2 5) <|
  gd (inb p2 5) <|
  bd (KD_tells (ix (oA t 4) p1) (ix (oA t 5) p1) (p3 &&& (ix (oA t 1) p2)) (p3 &&& ((ix (oA t 1) p2) ^^^ (-1 : Int32)))) fun (r6 : Int32) =>
  some r6
def T_tale (t : Ob) (p1 : Int32) (p2 : Int32) : Option Int32 :=
  gd (inb ((p1 * (5 : Int32)) + p2) 35) <|
  bd (T_taleWith t p1 p2 (ix (oA t 7) ((p1 * (5 : Int32)) + p2))) fun (r2 : Int32) =>
  some r2
def T_ownedBy_L4 (t : Ob) (a1 : Int32) : Nat → Int32 → Int32 → Option Int32
  | 0, _, _ => none
  | n + 1, x2, x3 =>
    if (5 : Int32) ≤ x3 then
      some x2
    else
      gd (inb x3 5) <|
      bd (
        if (ix (oA t 3) x3) = a1 then
          nm (x2 ||| (shl32 (1 : Int32) x3)) fun v4 =>
          some v4
        else
          some x2) fun (x2_5 : Int32) =>
      nm (x3 + (1 : Int32)) fun v6 =>
      T_ownedBy_L4 t a1 n x2_5 v6
def T_ownedBy (t : Ob) (p1 : Int32) : Option Int32 :=
  T_ownedBy_L4 t p1 FU (0 : Int32) (0 : Int32)
def T_ownedThings (t : Ob) : Option Int32 :=
  bd (T_ownedBy t (9 : Int32)) fun (r1 : Int32) =>
  some ((31 : Int32) &&& (r1 ^^^ (-1 : Int32)))
def T_wealth_L4 (t : Ob) (a1 : Int32) : Nat → Int32 → Int32 → Option Int32
  | 0, _, _ => none
  | n + 1, x2, x3 =>
    if (5 : Int32) ≤ x3 then
      some x2
    else
      gd (inb x3 5) <|
      bd (
        if (ix (oA t 3) x3) = a1 then
          gd (inb x3 5) <|
          nm (x2 + (ix (oA t 2) x3)) fun v5 =>
          some v5
        else
          some x2) fun (x2_6 : Int32) =>
      nm (x3 + (1 : Int32)) fun v7 =>
      T_wealth_L4 t a1 n x2_6 v7
def T_wealth (t : Ob) (p1 : Int32) : Option Int32 :=
  T_wealth_L4 t p1 FU (0 : Int32) (0 : Int32)
def T_allWorth_L4 (t : Ob) : Nat → Int32 → Int32 → Option Int32
  | 0, _, _ => none
  | n + 1, x1, x2 =>
    if (5 : Int32) ≤ x2 then
      some x1
    else
      gd (inb x2 5) <|
      nm (x1 + (ix (oA t 2) x2)) fun v3 =>
      nm (x2 + (1 : Int32)) fun v4 =>
      T_allWorth_L4 t n v3 v4
def T_allWorth (t : Ob) : Option Int32 :=
  T_allWorth_L4 t FU (0 : Int32) (0 : Int32)
def T_allKnown_L4 (t : Ob) : Nat → Int32 → Int32 → Option Int32
  | 0, _, _ => none
  | n + 1, x1, x2 =>
    if ((oS t 1) * (5 : Int32)) ≤ x2 then
      some x1
    else
      gd (inb x2 35) <|
      bd (B_bitCount (ix (oA t 7) x2)) fun (r3 : Int32) =>
      nm (x1 + r3) fun v4 =>
      nm (x2 + (1 : Int32)) fun v5 =>
      T_allKnown_L4 t n v4 v5
def T_allKnown (t : Ob) : Option Int32 :=
  T_allKnown_L4 t FU (0 : Int32) (0 : Int32)
def T_passAll_L2 (a1 : Int32) : Nat → Ob → Int32 → Option Ob
  | 0, _, _ => none
  | n + 1, t, x2 =>
    if a1 ≤ x2 then
      some t
    else
      bd2 (T_pass t) fun (r2 : Int32) (t3 : Ob) =>
      nm (x2 + (1 : Int32)) fun v4 =>
      T_passAll_L2 a1 n t3 v4
def T_passAll (t : Ob) (p1 : Int32) : Option Ob :=
  T_passAll_L2 p1 FU t (0 : Int32)
def T_flood_L2 : Nat → Ob → Int32 → Option Ob
  | 0, _, _ => none
  | n + 1, t, x1 =>
    if ((oS t 1) * (5 : Int32)) ≤ x1 then
      some t
    else
      gd (inb x1 35) <|
      gd (inb x1 35) <|
      gd (inb x1 35) <|
      nm (pA t 7 x1 ((ix (oA t 7) x1) &&& ((ix (oA t 7) x1) - (1 : Int32)))) fun t5 =>
      nm (x1 + (1 : Int32)) fun v6 =>
      T_flood_L2 n t5 v6
def T_flood (t : Ob) : Option Ob :=
  T_flood_L2 FU t (0 : Int32)
def C_isShelf (p0 : Int32) : Option Int32 :=
  if p0 < (0 : Int32) then
    some (0 : Int32)
  else
    if (8 : Int32) ≤ p0 then
      some (0 : Int32)
    else
      some (1 : Int32)
def C_holdRefusal (σ : CS) (p1 : Int32) (p2 : Int32) : Option Int32 :=
  bd (C_isShelf p1) fun (r1 : Int32) =>
  if r1 = (0 : Int32) then
    some (-1 : Int32)
  else
    gd (inb p1 8) <|
    nm (oS (σ (11 + p1.toNatClampNeg)) 0) fun v4 =>
    if v4 = (0 : Int32) then
      some (-11 : Int32)
    else
      if v4 = p2 then
        some (0 : Int32)
      else
        some (-12 : Int32)
def C_rowRefusal (σ : CS) (p1 : Int32) : Option Int32 :=
  bd (C_holdRefusal σ p1 (2 : Int32)) fun (r1 : Int32) =>
  some r1
def C_town_L64 (k114 : Int32 → CS → Option (Int32 × CS)) (b3 : Nat) : Nat → CS → Int32 → Int32 → Option (Int32 × CS)
  | 0, _, _, _ => none
  | n + 1, σ, x5, x6 =>
    if (oS (σ b3) 4) ≤ x5 then
      k114 x6 σ
    else
      if (100 : Int32) ≤ x6 then
        k114 x6 σ
      else
        bd2 (X_obey σ b3 x5 3) fun (r11 : Int32) (σ12 : CS) =>
        if r11 = (0 : Int32) then
          some (((-2000 : Int32) - x5), σ12)
        else
          bd (X_behind σ12 b3 x5) fun (r14 : Int32) =>
          nm (x6 + (1 : Int32)) fun v15 =>
          C_town_L64 k114 b3 n σ12 r14 v15
def C_town (σ : CS) (p1 : Int32) : Option (Int32 × CS) :=
  bd (C_rowRefusal σ p1) fun (r1 : Int32) =>
  if r1 = (0 : Int32) then
    gd (inb p1 8) <|
    if (oS (σ (11 + p1.toNatClampNeg)) 3) = (0 : Int32) then
      bd (X_grammarFault σ (11 + p1.toNatClampNeg)) fun (r5 : Int32) =>
      if r5 < (0 : Int32) then
        bd (T_takeFrom (σ 3) (σ 1)) fun (t7 : Ob) =>
        nm (va_up σ 3 t7) fun σ8 =>
        C_town_L64 (fun (x6_18 : Int32) (σ19 : CS) =>
            bd (T_takeFrom (σ19 1) (σ19 3)) fun (t20 : Ob) =>
            nm (va_up σ19 1 t20) fun σ21 =>
            some (x6_18, σ21)) (11 + p1.toNatClampNeg) FU σ8 (0 : Int32) (0 : Int32)
      else
        some (((-1000 : Int32) - r5), σ)
    else
      some ((-12 : Int32), σ)
  else
    some (r1, σ)
def C_one (σ : CS) (p1 : Int32) (p2 : Int32) : Option Int32 :=
  bd (T_hasOne (σ 1) p1) fun (r1 : Int32) =>
  if r1 = (0 : Int32) then
    some (-1 : Int32)
  else
    bd (C_within p2 (4 : Int32)) fun (r3 : Int32) =>
    if r3 = (0 : Int32) then
      some (-1 : Int32)
    else
      if p2 = (0 : Int32) then
        gd (inb p1 7) <|
        some (ix (oA (σ 1) 4) p1)
      else
        if p2 = (1 : Int32) then
          gd (inb p1 7) <|
          some (ix (oA (σ 1) 5) p1)
        else
          if p2 = (2 : Int32) then
            gd (inb p1 7) <|
            some (ix (oA (σ 1) 6) p1)
          else
            if p2 = (3 : Int32) then
              bd (T_ownedBy (σ 1) p1) fun (r12 : Int32) =>
              some r12
            else
              bd (T_lessons (σ 1) p1 ((oS (σ 1) 2) + (1 : Int32))) fun (r13 : Int32) =>
              some r13
def C_noneIfNobody (p0 : Int32) : Option Int32 :=
  if p0 = (9 : Int32) then
    some (-4 : Int32)
  else
    some p0
def C_thing (σ : CS) (p1 : Int32) (p2 : Int32) : Option Int32 :=
  bd (C_isThing p1) fun (r1 : Int32) =>
  if r1 = (0 : Int32) then
    some (-1 : Int32)
  else
    bd (C_within p2 (2 : Int32)) fun (r3 : Int32) =>
    if r3 = (0 : Int32) then
      some (-1 : Int32)
    else
      if p2 = (0 : Int32) then
        gd (inb p1 5) <|
        some (ix (oA (σ 1) 1) p1)
      else
        if p2 = (1 : Int32) then
          gd (inb p1 5) <|
          some (ix (oA (σ 1) 2) p1)
        else
          gd (inb p1 5) <|
          bd (C_noneIfNobody (ix (oA (σ 1) 3) p1)) fun (r8 : Int32) =>
          some r8
def C_story (σ : CS) (p1 : Int32) (p2 : Int32) (p3 : Int32) : Option Int32 :=
  bd (T_hasOne (σ 1) p1) fun (r1 : Int32) =>
  if r1 = (0 : Int32) then
    some (-1 : Int32)
  else
    bd (C_isThing p2) fun (r3 : Int32) =>
    if r3 = (0 : Int32) then
      some (-1 : Int32)
    else
      bd (C_within p3 (1 : Int32)) fun (r5 : Int32) =>
      if r5 = (0 : Int32) then
        some (-1 : Int32)
      else
        if p3 = (0 : Int32) then
          gd (inb ((p1 * (5 : Int32)) + p2) 35) <|
          some (ix (oA (σ 1) 7) ((p1 * (5 : Int32)) + p2))
        else
          bd (T_tale (σ 1) p1 p2) fun (r8 : Int32) =>
          some r8
def C_oneRefusal (σ : CS) (p1 : Int32) : Option Int32 :=
  bd (C_holdRefusal σ p1 (1 : Int32)) fun (r1 : Int32) =>
  some r1
def C_comes (σ : CS) (p1 : Int32) (p2 : Int32) : Option (Int32 × CS) :=
  bd (C_isShelf p1) fun (r1 : Int32) =>
  if r1 = (0 : Int32) then
    some ((-1 : Int32), σ)
  else
    bd (C_isCare p2) fun (r3 : Int32) =>
    if r3 = (0 : Int32) then
      some ((-1 : Int32), σ)
    else
      bd (C_oneRefusal σ p1) fun (r5 : Int32) =>
      if r5 = (0 : Int32) then
        gd (inb p1 8) <|
        bd2 (T_arrive (σ 1) (oS (σ (11 + p1.toNatClampNeg)) 1) (oS (σ (11 + p1.toNatClampNeg)) 2) p2) fun (r8 : Int32) (t9 : Ob) =>
        nm (va_up σ 1 t9) fun σ10 =>
        if r8 = (0 : Int32) then
          some ((-2 : Int32), σ10)
        else
          some (((oS (σ10 1) 1) - (1 : Int32)), σ10)
      else
        some (r5, σ)
def C_learns (σ : CS) (p1 : Int32) (p2 : Int32) (p3 : Int32) : Option (Int32 × CS) :=
  bd2 (T_turnFact (σ 1) p1 p2 p3) fun (r1 : Int32) (t2 : Ob) =>
  nm (va_up σ 1 t2) fun σ3 =>
  if r1 = (0 : Int32) then
    some ((-1 : Int32), σ3)
  else
    gd (inb ((p1 * (5 : Int32)) + p2) 35) <|
    some (((shr32 (ix (oA (σ3 1) 7) ((p1 * (5 : Int32)) + p2)) p3) &&& (1 : Int32)), σ3)
def C_cares (σ : CS) (p1 : Int32) (p2 : Int32) : Option (Int32 × CS) :=
  bd (T_hasOne (σ 1) p1) fun (r1 : Int32) =>
  if r1 = (0 : Int32) then
    some ((-1 : Int32), σ)
  else
    gd (inb p1 7) <|
    nm (ix (oA (σ 1) 6) p1) fun v4 =>
    bd2 (T_turnTo (σ 1) p1 p2) fun (r5 : Int32) (t6 : Ob) =>
    nm (va_up σ 1 t6) fun σ7 =>
    if r5 = (0 : Int32) then
      some ((-1 : Int32), σ7)
    else
      some (v4, σ7)
def C_gives (σ : CS) (p1 : Int32) (p2 : Int32) : Option (Int32 × CS) :=
  bd (C_isThing p1) fun (r1 : Int32) =>
  if r1 = (0 : Int32) then
    some ((-1 : Int32), σ)
  else
    gd (inb p1 5) <|
    nm (ix (oA (σ 1) 3) p1) fun v4 =>
    bd2 (T_handOver (σ 1) p1 p2) fun (r5 : Int32) (t6 : Ob) =>
    nm (va_up σ 1 t6) fun σ7 =>
    if r5 = (0 : Int32) then
      some ((-1 : Int32), σ7)
    else
      bd (C_noneIfNobody v4) fun (r9 : Int32) =>
      some (r9, σ7)
def C_past (σ : CS) (p1 : Int32) (p2 : Int32) : Option (Int32 × CS) :=
  bd (C_isThing p1) fun (r1 : Int32) =>
  if r1 = (0 : Int32) then
    some ((-1 : Int32), σ)
  else
    bd (C_within p2 (4095 : Int32)) fun (r3 : Int32) =>
    if r3 = (0 : Int32) then
      some ((-1 : Int32), σ)
    else
      gd (inb p1 5) <|
      nm (ix (oA (σ 1) 1) p1) fun v6 =>
      gd (inb p1 5) <|
      nm (va_up σ 1 (pA (σ 1) 1 p1 p2)) fun σ8 =>
      some (v6, σ8)
def C_days (σ : CS) (p1 : Int32) : Option (Int32 × CS) :=
  if p1 < (1 : Int32) then
    some ((-1 : Int32), σ)
  else
    if p1 ≤ (60 : Int32) then
      bd2 (T_goOn (σ 1) p1) fun (r3 : Int32) (t4 : Ob) =>
      nm (va_up σ 1 t4) fun σ5 =>
      if r3 = (0 : Int32) then
        some ((-3 : Int32), σ5)
      else
        bd (T_ownedThings (σ5 1)) fun (r7 : Int32) =>
        bd (B_bitCount r7) fun (r8 : Int32) =>
        some (r8, σ5)
    else
      some ((-1 : Int32), σ)
def C_thinkOn (σ : CS) (p1 : Int32) : Option CS :=
  bd (T_takeFrom (σ 3) (σ 1)) fun (t1 : Ob) =>
  nm (va_up σ 3 t1) fun σ2 =>
  bd (T_passAll (σ2 3) p1) fun (t3 : Ob) =>
  nm (va_up σ2 3 t3) fun σ4 =>
  some σ4
def C_ownerThen (σ : CS) (p1 : Int32) (p2 : Int32) : Option (Int32 × CS) :=
  bd (C_isThing p1) fun (r1 : Int32) =>
  if r1 = (0 : Int32) then
    some ((-1 : Int32), σ)
  else
    bd (C_within p2 (60 : Int32)) fun (r3 : Int32) =>
    if r3 = (0 : Int32) then
      some ((-1 : Int32), σ)
    else
      bd (C_thinkOn σ p2) fun (σ5 : CS) =>
      gd (inb p1 5) <|
      bd (C_noneIfNobody (ix (oA (σ5 3) 3) p1)) fun (r7 : Int32) =>
      some (r7, σ5)
def C_storyThen (σ : CS) (p1 : Int32) (p2 : Int32) (p3 : Int32) : Option (Int32 × CS) :=
  bd (T_hasOne (σ 1) p1) fun (r1 : Int32) =>
  if r1 = (0 : Int32) then
    some ((-1 : Int32), σ)
  else
    bd (C_isThing p2) fun (r3 : Int32) =>
    if r3 = (0 : Int32) then
      some ((-1 : Int32), σ)
    else
      bd (C_within p3 (60 : Int32)) fun (r5 : Int32) =>
      if r5 = (0 : Int32) then
        some ((-1 : Int32), σ)
      else
        bd (C_thinkOn σ p3) fun (σ7 : CS) =>
        bd (T_tale (σ7 3) p1 p2) fun (r8 : Int32) =>
        some (r8, σ7)
def C_ownsThen (σ : CS) (p1 : Int32) (p2 : Int32) (p3 : Int32) : Option (Int32 × CS) :=
  bd (T_hasOne (σ 1) p1) fun (r1 : Int32) =>
  if r1 = (0 : Int32) then
    some ((-1 : Int32), σ)
  else
    bd (C_within p2 (60 : Int32)) fun (r3 : Int32) =>
    if r3 = (0 : Int32) then
      some ((-1 : Int32), σ)
    else
      bd (C_within p3 (1 : Int32)) fun (r5 : Int32) =>
      if r5 = (0 : Int32) then
        some ((-1 : Int32), σ)
      else
        bd (C_thinkOn σ p2) fun (σ7 : CS) =>
        if p3 = (0 : Int32) then
          bd (T_ownedBy (σ7 3) p1) fun (r10 : Int32) =>
          some (r10, σ7)
        else
          bd (T_wealth (σ7 3) p1) fun (r9 : Int32) =>
          some (r9, σ7)
def C_when_L33 (a1 : Int32) (a2 : Int32) : Nat → CS → Int32 → Option (Int32 × CS)
  | 0, _, _ => none
  | n + 1, σ, x3 =>
    if (60 : Int32) < x3 then
      some ((-4 : Int32), σ)
    else
      gd (inb a2 5) <|
      if (ix (oA (σ 3) 3) a2) = a1 then
        some (x3, σ)
      else
        bd2 (T_pass (σ 3)) fun (r10 : Int32) (t11 : Ob) =>
        nm (va_up σ 3 t11) fun σ12 =>
        nm (x3 + (1 : Int32)) fun v13 =>
        C_when_L33 a1 a2 n σ12 v13
def C_when (σ : CS) (p1 : Int32) (p2 : Int32) : Option (Int32 × CS) :=
  bd (T_hasOne (σ 1) p1) fun (r1 : Int32) =>
  if r1 = (0 : Int32) then
    some ((-1 : Int32), σ)
  else
    bd (C_isThing p2) fun (r3 : Int32) =>
    if r3 = (0 : Int32) then
      some ((-1 : Int32), σ)
    else
      bd (T_takeFrom (σ 3) (σ 1)) fun (t5 : Ob) =>
      nm (va_up σ 3 t5) fun σ6 =>
      C_when_L33 p1 p2 FU σ6 (0 : Int32)
def C_loses_L39 (a1 : Int32) : Nat → CS → Int32 → Option (Int32 × CS)
  | 0, _, _ => none
  | n + 1, σ, x2 =>
    if (60 : Int32) < x2 then
      some ((-4 : Int32), σ)
    else
      gd (inb a1 5) <|
      gd (inb a1 5) <|
      if (ix (oA (σ 3) 3) a1) = (ix (oA (σ 1) 3) a1) then
        bd2 (T_pass (σ 3)) fun (r11 : Int32) (t12 : Ob) =>
        nm (va_up σ 3 t12) fun σ13 =>
        nm (x2 + (1 : Int32)) fun v14 =>
        C_loses_L39 a1 n σ13 v14
      else
        some (x2, σ)
def C_loses (σ : CS) (p1 : Int32) : Option (Int32 × CS) :=
  bd (C_isThing p1) fun (r1 : Int32) =>
  if r1 = (0 : Int32) then
    some ((-1 : Int32), σ)
  else
    gd (inb p1 5) <|
    if (ix (oA (σ 1) 3) p1) = (9 : Int32) then
      some ((-4 : Int32), σ)
    else
      bd (T_takeFrom (σ 3) (σ 1)) fun (t5 : Ob) =>
      nm (va_up σ 3 t5) fun σ6 =>
      C_loses_L39 p1 FU σ6 (0 : Int32)
def C_lookAfter_L40 (k122 : Int32 → Int32 → CS → Option (Int32 × CS)) (a1 : Int32) (a2 : Int32) (a3 : Int32) : Nat → CS → Int32 → Int32 → Int32 → Option (Int32 × CS)
  | 0, _, _, _, _ => none
  | n + 1, σ, x4, x5, x6 =>
    if (5 : Int32) < x6 then
      k122 x4 x5 σ
    else
      bd (
        if (5 : Int32) ≤ x6 then
          some (9 : Int32)
        else
          some x6) fun (s9 : Int32) =>
      bd (T_takeFrom (σ 3) (σ 1)) fun (t10 : Ob) =>
      nm (va_up σ 3 t10) fun σ11 =>
      gd (inb a1 7) <|
      nm (va_up σ11 3 (pA (σ11 3) 6 a1 s9)) fun σ13 =>
      bd (T_passAll (σ13 3) a2) fun (t14 : Ob) =>
      nm (va_up σ13 3 t14) fun σ15 =>
      bd (T_wealth (σ15 3) a1) fun (r16 : Int32) =>
      bd2 (
        if r16 ≤ x4 then
          some (x4, x5)
        else
          some (r16, s9)) fun (x4_18 : Int32) (x5_19 : Int32) =>
      nm (x6 + (1 : Int32)) fun v20 =>
      C_lookAfter_L40 k122 a1 a2 a3 n σ15 x4_18 x5_19 v20
def C_lookAfter (σ : CS) (p1 : Int32) (p2 : Int32) (p3 : Int32) : Option (Int32 × CS) :=
  bd (T_hasOne (σ 1) p1) fun (r1 : Int32) =>
  if r1 = (0 : Int32) then
    some ((-1 : Int32), σ)
  else
    bd (C_within p2 (60 : Int32)) fun (r3 : Int32) =>
    if r3 = (0 : Int32) then
      some ((-1 : Int32), σ)
    else
      bd (C_within p3 (1 : Int32)) fun (r5 : Int32) =>
      if r5 = (0 : Int32) then
        some ((-1 : Int32), σ)
      else
        C_lookAfter_L40 (fun (x4_24 : Int32) (x5_25 : Int32) (σ26 : CS) =>
            if p3 = (0 : Int32) then
              some (x5_25, σ26)
            else
              some (x4_24, σ26)) p1 p2 p3 FU σ (-1 : Int32) (9 : Int32) (0 : Int32)
def C_win_L25 (k64 : Int32 → Option Int32) (σ : CS) (a1 : Int32) (a2 : Int32) : Nat → Int32 → Int32 → Option Int32
  | 0, _, _ => none
  | n + 1, x3, x4 =>
    if (oS (σ 1) 1) ≤ x4 then
      k64 x3
    else
      bd (
        if x4 = a1 then
          some x3
        else
          bd (T_tale (σ 1) x4 a2) fun (r7 : Int32) =>
          nm (max32 x3 r7) fun v8 =>
          some v8) fun (x3_9 : Int32) =>
      nm (x4 + (1 : Int32)) fun v10 =>
      C_win_L25 k64 σ a1 a2 n x3_9 v10
def C_win_L82 (σ : CS) (a1 : Int32) (a2 : Int32) (a3 : Int32) : Nat → Int32 → Int32 → Option Int32
  | 0, _, _ => none
  | n + 1, x4, x5 =>
    if (12 : Int32) < x5 then
      some (-4 : Int32)
    else
      bd (T_taleWith (σ 1) a1 a2 x4) fun (r16 : Int32) =>
      if r16 ≤ a3 then
        gd (inb a2 5) <|
        nm ((ix (oA (σ 1) 1) a2) &&& (x4 ^^^ (-1 : Int32))) fun v19 =>
        if v19 = (0 : Int32) then
          some (-4 : Int32)
        else
          nm (x4 ||| (v19 &&& (-v19))) fun v21 =>
          nm (x5 + (1 : Int32)) fun v22 =>
          C_win_L82 σ a1 a2 a3 n v21 v22
      else
        some x5
def C_win (σ : CS) (p1 : Int32) (p2 : Int32) : Option Int32 :=
  bd (T_hasOne (σ 1) p1) fun (r1 : Int32) =>
  if r1 = (0 : Int32) then
    some (-1 : Int32)
  else
    bd (C_isThing p2) fun (r3 : Int32) =>
    if r3 = (0 : Int32) then
      some (-1 : Int32)
    else
      C_win_L25 (fun (x3_12 : Int32) =>
          gd (inb ((p1 * (5 : Int32)) + p2) 35) <|
          nm (ix (oA (σ 1) 7) ((p1 * (5 : Int32)) + p2)) fun v14 =>
          C_win_L82 σ p1 p2 x3_12 FU v14 (0 : Int32)) σ p1 p2 FU (0 : Int32) (0 : Int32)
def C_ask_L37 (σ : CS) (a1 : Int32) (a2 : Int32) : Nat → Int32 → Int32 → Int32 → Option Int32
  | 0, _, _, _ => none
  | n + 1, x3, x4, x5 =>
    if (oS (σ 1) 1) ≤ x5 then
      some x4
    else
      gd (inb ((a1 * (5 : Int32)) + a2) 35) <|
      gd (inb ((x5 * (5 : Int32)) + a2) 35) <|
      bd (T_taleWith (σ 1) a1 a2 ((ix (oA (σ 1) 7) ((a1 * (5 : Int32)) + a2)) ||| (ix (oA (σ 1) 7) ((x5 * (5 : Int32)) + a2)))) fun (r9 : Int32) =>
      bd2 (
        if r9 ≤ x3 then
          some (x3, x4)
        else
          some (r9, x5)) fun (x3_11 : Int32) (x4_12 : Int32) =>
      nm (x5 + (1 : Int32)) fun v13 =>
      C_ask_L37 σ a1 a2 n x3_11 x4_12 v13
def C_ask (σ : CS) (p1 : Int32) (p2 : Int32) : Option Int32 :=
  bd (T_hasOne (σ 1) p1) fun (r1 : Int32) =>
  if r1 = (0 : Int32) then
    some (-1 : Int32)
  else
    bd (C_isThing p2) fun (r3 : Int32) =>
    if r3 = (0 : Int32) then
      some (-1 : Int32)
    else
      bd (T_tale (σ 1) p1 p2) fun (r5 : Int32) =>
      C_ask_L37 σ p1 p2 FU r5 (-4 : Int32) (0 : Int32)
def C_noteStories_L15 (k45 : CS → Option CS) (a1 : Int32) : Nat → CS → Int32 → Option CS
  | 0, _, _ => none
  | n + 1, σ, x2 =>
    if (5 : Int32) ≤ x2 then
      k45 σ
    else
      bd (T_tale (σ 1) a1 x2) fun (r3 : Int32) =>
      gd (inb ((a1 * (5 : Int32)) + x2) 35) <|
      nm (va_up σ 0 (pA (σ 0) 2 ((a1 * (5 : Int32)) + x2) r3)) fun σ5 =>
      nm (x2 + (1 : Int32)) fun v6 =>
      C_noteStories_L15 k45 a1 n σ5 v6
def C_noteStories_L2 : Nat → CS → Int32 → Option CS
  | 0, _, _ => none
  | n + 1, σ, x1 =>
    if (oS (σ 1) 1) ≤ x1 then
      some σ
    else
      C_noteStories_L15 (fun (σ8 : CS) =>
          nm (x1 + (1 : Int32)) fun v9 =>
          C_noteStories_L2 n σ8 v9) x1 FU σ (0 : Int32)
def C_noteStories (σ : CS) : Option CS :=
  C_noteStories_L2 FU σ (0 : Int32)
def C_mostWith (σ : CS) (p1 : Int32) (p2 : Int32) (p3 : Int32) : Option Int32 :=
  gd (inb ((p1 * (5 : Int32)) + p2) 35) <|
  gd (inb (((p2 + (1 : Int32)) * (128 : Int32)) + (p3 ||| (shl32 (1 : Int32) p1))) 768) <|
  some ((ix (oA (σ 0) 2) ((p1 * (5 : Int32)) + p2)) + (ix (oA (σ 0) 1) (((p2 + (1 : Int32)) * (128 : Int32)) + (p3 ||| (shl32 (1 : Int32) p1)))))
def C_weighCrowds_L12 (k34 : CS → Option CS) (a1 : Int32) : Nat → CS → Int32 → Option CS
  | 0, _, _ => none
  | n + 1, σ, x2 =>
    if a1 ≤ x2 then
      k34 σ
    else
      gd (inb ((640 : Int32) + x2) 768) <|
      nm (va_up σ 0 (pA (σ 0) 1 ((640 : Int32) + x2) (0 : Int32))) fun σ4 =>
      nm (x2 + (1 : Int32)) fun v5 =>
      C_weighCrowds_L12 k34 a1 n σ4 v5
def C_weighCrowds_L66 (k108 : Int32 → Option CS) (σ : CS) (a1 : Int32) (a2 : Int32) (a3 : Int32) : Nat → Int32 → Int32 → Option CS
  | 0, _, _ => none
  | n + 1, x4, x5 =>
    if (oS (σ 1) 1) ≤ x5 then
      k108 x4
    else
      bd (
        if ((shr32 a3 x5) &&& (1 : Int32)) = (0 : Int32) then
          bd (C_mostWith σ x5 a2 a3) fun (r13 : Int32) =>
          nm (max32 x4 r13) fun v14 =>
          some v14
        else
          some x4) fun (x4_15 : Int32) =>
      nm (x5 + (1 : Int32)) fun v16 =>
      C_weighCrowds_L66 k108 σ a1 a2 a3 n x4_15 v16
def C_weighCrowds_L42 (k128 : CS → Option CS) (a1 : Int32) (a2 : Int32) : Nat → CS → Int32 → Option CS
  | 0, _, _ => none
  | n + 1, σ, x3 =>
    if a1 ≤ x3 then
      k128 σ
    else
      gd (inb (((a2 + (1 : Int32)) * (128 : Int32)) + x3) 768) <|
      nm (ix (oA (σ 0) 1) (((a2 + (1 : Int32)) * (128 : Int32)) + x3)) fun v10 =>
      C_weighCrowds_L66 (fun (x4_18 : Int32) =>
          gd (inb ((a2 * (128 : Int32)) + x3) 768) <|
          nm (va_up σ 0 (pA (σ 0) 1 ((a2 * (128 : Int32)) + x3) x4_18)) fun σ20 =>
          nm (x3 + (1 : Int32)) fun v21 =>
          C_weighCrowds_L42 k128 a1 a2 n σ20 v21) σ a1 a2 x3 FU v10 (0 : Int32)
def C_weighCrowds_L36 (a1 : Int32) : Nat → CS → Int32 → Option CS
  | 0, _, _ => none
  | n + 1, σ, x2 =>
    if x2 < (0 : Int32) then
      some σ
    else
      C_weighCrowds_L42 (fun (σ22 : CS) =>
          nm (x2 + (-1 : Int32)) fun v23 =>
          C_weighCrowds_L36 a1 n σ22 v23) a1 x2 FU σ (0 : Int32)
def C_weighCrowds (σ : CS) : Option CS :=
  nm (shl32 (1 : Int32) (oS (σ 1) 1)) fun v1 =>
  C_weighCrowds_L12 (fun (σ6 : CS) =>
      C_weighCrowds_L36 v1 FU σ6 (4 : Int32)) v1 FU σ (0 : Int32)
def C_firstCarer_L2 (σ : CS) (a1 : Int32) (a2 : Int32) : Nat → Int32 → Option Int32
  | 0, _ => none
  | n + 1, x3 =>
    if (oS (σ 1) 1) ≤ x3 then
      some (9 : Int32)
    else
      jn (
        nm (x3 + (1 : Int32)) fun v6 =>
        C_firstCarer_L2 σ a1 a2 n v6) fun j45 =>
      if ((shr32 a2 x3) &&& (1 : Int32)) = (0 : Int32) then
        bd (C_mostWith σ x3 a1 a2) fun (r3 : Int32) =>
        gd (inb ((a1 * (128 : Int32)) + a2) 768) <|
        if r3 = (ix (oA (σ 0) 1) ((a1 * (128 : Int32)) + a2)) then
          some x3
        else
          j45
      else
        j45
def C_firstCarer (σ : CS) (p1 : Int32) (p2 : Int32) : Option Int32 :=
  C_firstCarer_L2 σ p1 p2 FU (0 : Int32)
def C_care_L39 (k71 : Int32 → Option (Int32 × CS)) (σ : CS) (a1 : Int32) : Nat → Int32 → Int32 → Int32 → Option (Int32 × CS)
  | 0, _, _, _ => none
  | n + 1, x2, x3, x4 =>
    if a1 < x4 then
      k71 x3
    else
      bd (C_firstCarer σ x4 x2) fun (r7 : Int32) =>
      bd (
        if r7 = (9 : Int32) then
          some x2
        else
          nm (x2 ||| (shl32 (1 : Int32) r7)) fun v9 =>
          some v9) fun (x2_10 : Int32) =>
      nm (x4 + (1 : Int32)) fun v11 =>
      C_care_L39 k71 σ a1 n x2_10 r7 v11
def C_care (σ : CS) (p1 : Int32) : Option (Int32 × CS) :=
  if p1 < (-1 : Int32) then
    some ((-1 : Int32), σ)
  else
    if p1 < (5 : Int32) then
      bd (C_noteStories σ) fun (σ3 : CS) =>
      bd (C_weighCrowds σ3) fun (σ4 : CS) =>
      if (0 : Int32) ≤ p1 then
        C_care_L39 (fun (x3_13 : Int32) =>
            bd (C_noneIfNobody x3_13) fun (r14 : Int32) =>
            some (r14, σ4)) σ4 p1 FU (0 : Int32) (9 : Int32) (0 : Int32)
      else
        gd (inb (0 : Int32) 768) <|
        some ((ix (oA (σ4 0) 1) (0 : Int32)), σ4)
    else
      some ((-1 : Int32), σ)
def C_richestOne_L7 (σ : CS) : Nat → Int32 → Int32 → Int32 → Option Int32
  | 0, _, _, _ => none
  | n + 1, x1, x2, x3 =>
    if (oS (σ 1) 1) ≤ x3 then
      some x2
    else
      bd (T_wealth (σ 1) x3) fun (r2 : Int32) =>
      bd2 (
        if r2 ≤ x1 then
          some (x1, x2)
        else
          some (r2, x3)) fun (x1_4 : Int32) (x2_5 : Int32) =>
      nm (x3 + (1 : Int32)) fun v6 =>
      C_richestOne_L7 σ n x1_4 x2_5 v6
def C_richestOne (σ : CS) : Option Int32 :=
  C_richestOne_L7 σ FU (-1 : Int32) (-4 : Int32) (0 : Int32)
def C_longestTale_L21 (k62 : Int32 → Int32 → Option Int32) (σ : CS) (a3 : Int32) : Nat → Int32 → Int32 → Int32 → Option Int32
  | 0, _, _, _ => none
  | n + 1, x1, x2, x4 =>
    if (5 : Int32) ≤ x4 then
      k62 x1 x2
    else
      bd (T_tale (σ 1) a3 x4) fun (r3 : Int32) =>
      bd2 (
        if r3 ≤ x1 then
          some (x1, x2)
        else
          nm (((10 : Int32) * a3) + x4) fun v5 =>
          some (r3, v5)) fun (x1_6 : Int32) (x2_7 : Int32) =>
      nm (x4 + (1 : Int32)) fun v8 =>
      C_longestTale_L21 k62 σ a3 n x1_6 x2_7 v8
def C_longestTale_L7 (σ : CS) : Nat → Int32 → Int32 → Int32 → Option Int32
  | 0, _, _, _ => none
  | n + 1, x1, x2, x3 =>
    if (oS (σ 1) 1) ≤ x3 then
      some x2
    else
      C_longestTale_L21 (fun (x1_10 : Int32) (x2_11 : Int32) =>
          nm (x3 + (1 : Int32)) fun v12 =>
          C_longestTale_L7 σ n x1_10 x2_11 v12) σ x3 FU x1 x2 (0 : Int32)
def C_longestTale (σ : CS) : Option Int32 :=
  C_longestTale_L7 σ FU (0 : Int32) (-4 : Int32) (0 : Int32)
def C_stillness_L15 : Nat → CS → Int32 → Int32 → Option (Int32 × CS)
  | 0, _, _, _ => none
  | n + 1, σ, x1, x2 =>
    if (60 : Int32) < x2 then
      some ((-4 : Int32), σ)
    else
      bd2 (T_pass (σ 3)) fun (r4 : Int32) (t5 : Ob) =>
      nm (va_up σ 3 t5) fun σ6 =>
      jn (fun (x1_9 : Int32) =>
        nm (x2 + (1 : Int32)) fun v10 =>
        C_stillness_L15 n σ6 x1_9 v10) fun j46 =>
      if r4 = (0 : Int32) then
        if (x2 - x1) = (10 : Int32) then
          some (x1, σ6)
        else
          j46 x1
      else
        j46 x2
def C_stillness (σ : CS) : Option (Int32 × CS) :=
  bd (T_takeFrom (σ 3) (σ 1)) fun (t1 : Ob) =>
  nm (va_up σ 3 t1) fun σ2 =>
  C_stillness_L15 FU σ2 (0 : Int32) (1 : Int32)
def C_richest (σ : CS) (p1 : Int32) : Option (Int32 × CS) :=
  if p1 = (0 : Int32) then
    bd (C_richestOne σ) fun (r2 : Int32) =>
    some (r2, σ)
  else
    if p1 = (1 : Int32) then
      bd (T_ownedThings (σ 1)) fun (r4 : Int32) =>
      some (((31 : Int32) &&& (r4 ^^^ (-1 : Int32))), σ)
    else
      if p1 = (2 : Int32) then
        bd (C_longestTale σ) fun (r6 : Int32) =>
        some (r6, σ)
      else
        if p1 = (3 : Int32) then
          bd2 (C_stillness σ) fun (r8 : Int32) (σ9 : CS) =>
          some (r8, σ9)
        else
          some ((-1 : Int32), σ)
def C_rivals_L31 (k72 : Int32 → Option Int32) (σ : CS) (a1 : Int32) (a3 : Int32) (a4 : Int32) : Nat → Int32 → Int32 → Option Int32
  | 0, _, _ => none
  | n + 1, x2, x5 =>
    if (oS (σ 1) 1) ≤ x5 then
      k72 x2
    else
      bd (
        if a4 ≤ (0 : Int32) then
          some x2
        else
          bd (T_tale (σ 1) x5 a1) fun (r6 : Int32) =>
          if r6 = a4 then
            nm (x2 + (1 : Int32)) fun v8 =>
            some v8
          else
            some x2) fun (x2_9 : Int32) =>
      nm (x5 + (1 : Int32)) fun v10 =>
      C_rivals_L31 k72 σ a1 a3 a4 n x2_9 v10
def C_rivals_L4 (σ : CS) (a1 : Int32) : Nat → Int32 → Int32 → Option Int32
  | 0, _, _ => none
  | n + 1, x2, x3 =>
    if (oS (σ 1) 1) ≤ x3 then
      some x2
    else
      bd (T_tale (σ 1) x3 a1) fun (r2 : Int32) =>
      nm (x3 + (1 : Int32)) fun v3 =>
      C_rivals_L31 (fun (x2_12 : Int32) =>
          nm (x3 + (1 : Int32)) fun v13 =>
          C_rivals_L4 σ a1 n x2_12 v13) σ a1 x3 r2 FU x2 v3
def C_rivals (σ : CS) (p1 : Int32) : Option Int32 :=
  C_rivals_L4 σ p1 FU (0 : Int32) (0 : Int32)
def C_common_L55 (k111 : Int32 → Int32 → Int32 → Option Int32) (σ : CS) (a1 : Int32) (a2 : Int32) : Nat → Int32 → Int32 → Int32 → Int32 → Option Int32
  | 0, _, _, _, _ => none
  | n + 1, x3, x4, x5, x6 =>
    if (oS (σ 1) 1) ≤ x6 then
      k111 x3 x4 x5
    else
      gd (inb ((x6 * (5 : Int32)) + a1) 35) <|
      nm (ix (oA (σ 1) 7) ((x6 * (5 : Int32)) + a1)) fun v10 =>
      nm (x3 &&& v10) fun v11 =>
      nm (x5 ||| (x4 &&& v10)) fun v12 =>
      nm (x4 ||| v10) fun v13 =>
      nm (x6 + (1 : Int32)) fun v14 =>
      C_common_L55 k111 σ a1 a2 n v11 v13 v12 v14
def C_common (σ : CS) (p1 : Int32) (p2 : Int32) : Option Int32 :=
  bd (C_isThing p1) fun (r1 : Int32) =>
  if r1 = (0 : Int32) then
    some (-1 : Int32)
  else
    bd (C_within p2 (3 : Int32)) fun (r3 : Int32) =>
    if r3 = (0 : Int32) then
      some (-1 : Int32)
    else
      if p2 = (3 : Int32) then
        bd (C_rivals σ p1) fun (r21 : Int32) =>
        some r21
      else
        bd (
          if (oS (σ 1) 1) = (0 : Int32) then
            some (0 : Int32)
          else
            some (4095 : Int32)) fun (s7 : Int32) =>
        C_common_L55 (fun (x3_15 : Int32) (x4_16 : Int32) (x5_17 : Int32) =>
            if p2 = (0 : Int32) then
              some x3_15
            else
              if p2 = (1 : Int32) then
                some (x4_16 &&& (x5_17 ^^^ (-1 : Int32)))
              else
                gd (inb p1 5) <|
                some ((ix (oA (σ 1) 1) p1) &&& (x4_16 ^^^ (-1 : Int32)))) σ p1 p2 FU s7 (0 : Int32) (0 : Int32) (0 : Int32)
def C_mindTells_L13 (b1 : Nat) (a2 : Int32) (a3 : Int32) : Nat → CS → Int32 → Option (Int32 × CS)
  | 0, _, _ => none
  | n + 1, σ, x4 =>
    if (oS (σ b1) 4) ≤ x4 then
      some ((1 : Int32), σ)
    else
      bd (C_isThing a3) fun (r4 : Int32) =>
      bd (
        if r4 = (0 : Int32) then
          some (0 : Int32)
        else
          bd (T_tale (σ 3) a2 a3) fun (r6 : Int32) =>
          some r6) fun (s7 : Int32) =>
      bd (S_agrees (σ b1) x4 s7) fun (r8 : Int32) =>
      if r8 = (0 : Int32) then
        some ((0 : Int32), σ)
      else
        bd2 (T_pass (σ 3)) fun (r10 : Int32) (t11 : Ob) =>
        nm (va_up σ 3 t11) fun σ12 =>
        nm (x4 + (1 : Int32)) fun v13 =>
        C_mindTells_L13 b1 a2 a3 n σ12 v13
def C_mindTells (σ : CS) (p1 : Nat) (p2 : Int32) : Option (Int32 × CS) :=
  gd (inb p2 7) <|
  nm (ix (oA (σ 3) 6) p2) fun v2 =>
  C_mindTells_L13 p1 p2 v2 FU σ (0 : Int32)
def C_whatIs_L62 (a1 : Int32) (a2 : Int32) (a3 : Int32) (a5 : Int32) : Nat → CS → Int32 → Int32 → Option (Int32 × CS)
  | 0, _, _, _ => none
  | n + 1, σ, x6, x7 =>
    if a5 ≤ x7 then
      some (x6, σ)
    else
      bd (T_takeFrom (σ 3) (σ 1)) fun (t12 : Ob) =>
      nm (va_up σ 3 t12) fun σ13 =>
      bd (
        if a3 = (0 : Int32) then
          gd (inb a2 7) <|
          nm (va_up σ13 3 (pA (σ13 3) 4 a2 x7)) fun σ18 =>
          some σ18
        else
          gd (inb a2 7) <|
          nm (va_up σ13 3 (pA (σ13 3) 5 a2 x7)) fun σ16 =>
          some σ16) fun (σ19 : CS) =>
      gd (inb a1 8) <|
      bd2 (C_mindTells σ19 (11 + a1.toNatClampNeg) a2) fun (r21 : Int32) (σ22 : CS) =>
      bd (
        if r21 = (0 : Int32) then
          some x6
        else
          nm (x6 ||| (shl32 (1 : Int32) x7)) fun v24 =>
          some v24) fun (x6_25 : Int32) =>
      nm (x7 + (1 : Int32)) fun v26 =>
      C_whatIs_L62 a1 a2 a3 a5 n σ22 x6_25 v26
def C_whatIs (σ : CS) (p1 : Int32) (p2 : Int32) (p3 : Int32) : Option (Int32 × CS) :=
  bd (C_isShelf p1) fun (r1 : Int32) =>
  if r1 = (0 : Int32) then
    some ((-1 : Int32), σ)
  else
    bd (T_hasOne (σ 1) p2) fun (r3 : Int32) =>
    if r3 = (0 : Int32) then
      some ((-1 : Int32), σ)
    else
      bd (C_within p3 (1 : Int32)) fun (r5 : Int32) =>
      if r5 = (0 : Int32) then
        some ((-1 : Int32), σ)
      else
        bd (C_rowRefusal σ p1) fun (r7 : Int32) =>
        if r7 = (0 : Int32) then
          bd (
            if p3 = (0 : Int32) then
              some (8 : Int32)
            else
              some (10 : Int32)) fun (s10 : Int32) =>
          C_whatIs_L62 p1 p2 p3 s10 FU σ (0 : Int32) (0 : Int32)
        else
          some (r7, σ)
def C_mindHasStories_L18 (σ : CS) (b1 : Nat) (a2 : Int32) : Nat → Int32 → Option Int32
  | 0, _ => none
  | n + 1, x3 =>
    if (oS (σ b1) 4) ≤ x3 then
      some (1 : Int32)
    else
      bd (T_tale (σ 3) x3 a2) fun (r3 : Int32) =>
      bd (S_agrees (σ b1) x3 r3) fun (r4 : Int32) =>
      if r4 = (0 : Int32) then
        some (0 : Int32)
      else
        nm (x3 + (1 : Int32)) fun v6 =>
        C_mindHasStories_L18 σ b1 a2 n v6
def C_mindHasStories (σ : CS) (p1 : Nat) (p2 : Int32) : Option Int32 :=
  if (oS (σ p1) 4) ≤ (oS (σ 3) 1) then
    C_mindHasStories_L18 σ p1 p2 FU (0 : Int32)
  else
    some (0 : Int32)
def C_whichPast_L64 (k121 : Int32 → Int32 → Int32 → CS → Option (Int32 × CS)) (a1 : Int32) (a2 : Int32) (a3 : Int32) : Nat → CS → Int32 → Int32 → Int32 → Int32 → Option (Int32 × CS)
  | 0, _, _, _, _, _ => none
  | n + 1, σ, x5, x6, x7, x8 =>
    if (4095 : Int32) < x8 then
      k121 x5 x6 x7 σ
    else
      gd (inb a2 5) <|
      nm (va_up σ 3 (pA (σ 3) 1 a2 x8)) fun σ13 =>
      gd (inb a1 8) <|
      bd (C_mindHasStories σ13 (11 + a1.toNatClampNeg) a2) fun (r15 : Int32) =>
      bd3 (
        if r15 = (0 : Int32) then
          some (x5, x6, x7)
        else
          nm (x5 + (1 : Int32)) fun v17 =>
          if x6 = (-4 : Int32) then
            some (v17, x8, x8)
          else
            some (v17, x6, x8)) fun (x5_19 : Int32) (x6_20 : Int32) (x7_21 : Int32) =>
      nm (x8 + (1 : Int32)) fun v22 =>
      C_whichPast_L64 k121 a1 a2 a3 n σ13 x5_19 x6_20 x7_21 v22
def C_whichPast (σ : CS) (p1 : Int32) (p2 : Int32) (p3 : Int32) : Option (Int32 × CS) :=
  bd (C_isShelf p1) fun (r1 : Int32) =>
  if r1 = (0 : Int32) then
    some ((-1 : Int32), σ)
  else
    bd (C_isThing p2) fun (r3 : Int32) =>
    if r3 = (0 : Int32) then
      some ((-1 : Int32), σ)
    else
      bd (C_within p3 (2 : Int32)) fun (r5 : Int32) =>
      if r5 = (0 : Int32) then
        some ((-1 : Int32), σ)
      else
        bd (C_rowRefusal σ p1) fun (r7 : Int32) =>
        if r7 = (0 : Int32) then
          bd (T_takeFrom (σ 3) (σ 1)) fun (t9 : Ob) =>
          nm (va_up σ 3 t9) fun σ10 =>
          C_whichPast_L64 (fun (x5_24 : Int32) (x6_25 : Int32) (x7_26 : Int32) (σ27 : CS) =>
              if p3 = (0 : Int32) then
                some (x5_24, σ27)
              else
                if p3 = (1 : Int32) then
                  some (x6_25, σ27)
                else
                  some (x7_26, σ27)) p1 p2 p3 FU σ10 (0 : Int32) (-4 : Int32) (-4 : Int32) (0 : Int32)
        else
          some (r7, σ)
def C_two_L52 (k166 : CS → Option (Int32 × CS)) (a1 : Int32) (a2 : Int32) (a3 : Int32) (a4 : Int32) : Nat → CS → Int32 → Option (Int32 × CS)
  | 0, _, _ => none
  | n + 1, σ, x5 =>
    if (4 : Int32) ≤ x5 then
      k166 σ
    else
      nm (shr32 x5 (1 : Int32)) fun v11 =>
      nm (x5 &&& (1 : Int32)) fun v12 =>
      bd (T_takeFrom (σ 3) (σ 1)) fun (t13 : Ob) =>
      nm (va_up σ 3 t13) fun σ14 =>
      bd (
        if v11 = (1 : Int32) then
          gd (inb a1 7) <|
          nm (va_up σ14 3 (pA (σ14 3) 6 a1 a3)) fun σ17 =>
          some σ17
        else
          some σ14) fun (σ18 : CS) =>
      bd (
        if v12 = (1 : Int32) then
          gd (inb a2 7) <|
          nm (va_up σ18 3 (pA (σ18 3) 6 a2 a3)) fun σ21 =>
          some σ21
        else
          some σ18) fun (σ22 : CS) =>
      bd (T_passAll (σ22 3) a4) fun (t23 : Ob) =>
      nm (va_up σ22 3 t23) fun σ24 =>
      bd (T_wealth (σ24 3) a1) fun (r25 : Int32) =>
      gd (inb x5 8) <|
      nm (va_up σ24 0 (pA (σ24 0) 3 x5 (r25 - v11))) fun σ27 =>
      bd (T_wealth (σ27 3) a2) fun (r28 : Int32) =>
      gd (inb ((4 : Int32) + x5) 8) <|
      nm (va_up σ27 0 (pA (σ27 0) 3 ((4 : Int32) + x5) (r28 - v12))) fun σ30 =>
      nm (x5 + (1 : Int32)) fun v31 =>
      C_two_L52 k166 a1 a2 a3 a4 n σ30 v31
def C_two_L169 (k217 : Int32 → Option (Int32 × CS)) (σ : CS) : Nat → Int32 → Option (Int32 × CS)
  | 0, _ => none
  | n + 1, x5 =>
    if (4 : Int32) ≤ x5 then
      some ((-4 : Int32), σ)
    else
      gd (inb x5 8) <|
      gd (inb (x5 ^^^ (2 : Int32)) 8) <|
      jn (
        nm (x5 + (1 : Int32)) fun v44 =>
        C_two_L169 k217 σ n v44) fun j230 =>
      if (ix (oA (σ 0) 3) x5) < (ix (oA (σ 0) 3) (x5 ^^^ (2 : Int32))) then
        j230
      else
        gd (inb ((4 : Int32) + x5) 8) <|
        gd (inb ((4 : Int32) + (x5 ^^^ (1 : Int32))) 8) <|
        if (ix (oA (σ 0) 3) ((4 : Int32) + x5)) < (ix (oA (σ 0) 3) ((4 : Int32) + (x5 ^^^ (1 : Int32)))) then
          j230
        else
          k217 x5
def C_two (σ : CS) (p1 : Int32) (p2 : Int32) (p3 : Int32) (p4 : Int32) : Option (Int32 × CS) :=
  bd (T_hasOne (σ 1) p1) fun (r1 : Int32) =>
  if r1 = (0 : Int32) then
    some ((-1 : Int32), σ)
  else
    bd (T_hasOne (σ 1) p2) fun (r3 : Int32) =>
    if r3 = (0 : Int32) then
      some ((-1 : Int32), σ)
    else
      if p1 = p2 then
        some ((-1 : Int32), σ)
      else
        bd (C_isThing p3) fun (r6 : Int32) =>
        if r6 = (0 : Int32) then
          some ((-1 : Int32), σ)
        else
          if p4 < (1 : Int32) then
            some ((-1 : Int32), σ)
          else
            if p4 ≤ (30 : Int32) then
              C_two_L52 (fun (σ36 : CS) =>
                  C_two_L169 (fun (x5_45 : Int32) =>
                      some ((((10 : Int32) * (shr32 x5_45 (1 : Int32))) + (x5_45 &&& (1 : Int32))), σ36)) σ36 FU (0 : Int32)) p1 p2 p3 p4 FU σ (0 : Int32)
            else
              some ((-1 : Int32), σ)
def C_partOf_L9 (k45 : Int64 → Option Int64) (a0 : Int64) (a2 : Int64) (a4 : Int32) : Nat → Int64 → Int64 → Int32 → Option Int64
  | 0, _, _, _ => none
  | n + 1, x5, x7, x9 =>
    if (200 : Int32) ≤ x9 then
      k45 x5
    else
      if (lg_cmp x7 (0 : Int64)) ≤ (0 : Int32) then
        k45 x5
      else
        gd (!(x7 == 0)) <|
        nm (rem64 x5 x7) fun v4 =>
        nm (x9 + (1 : Int32)) fun v5 =>
        C_partOf_L9 k45 a0 a2 a4 n x7 v4 v5
def C_partOf (p0 : Int64) (p2 : Int64) (p4 : Int32) : Option Int64 :=
  C_partOf_L9 (fun (x5_6 : Int64) =>
      if (0 : Int32) < (lg_cmp x5_6 (0 : Int64)) then
        if p4 = (0 : Int32) then
          gd (!(x5_6 == 0)) <|
          some (p0 / x5_6)
        else
          gd (!(x5_6 == 0)) <|
          some (p2 / x5_6)
      else
        if p4 = (0 : Int32) then
          some (0 : Int64)
        else
          some (1 : Int64)) p0 p2 p4 FU p0 p2 (0 : Int32)
def C_share (σ : CS) (p1 : Int32) (p2 : Int32) : Option Int64 :=
  bd (T_hasOne (σ 1) p1) fun (r1 : Int32) =>
  if r1 = (0 : Int32) then
    some (1000000001 : Int64)
  else
    bd (C_within p2 (1 : Int32)) fun (r3 : Int32) =>
    if r3 = (0 : Int32) then
      some (1000000001 : Int64)
    else
      bd (T_wealth (σ 1) p1) fun (r5 : Int32) =>
      bd (T_allWorth (σ 1)) fun (r6 : Int32) =>
      bd (C_partOf r5.toInt64 r6.toInt64 p2) fun (r7 : Int64) =>
      some r7
def C_forged_L22 (σ : CS) (b3 : Nat) : Nat → Int32 → Option Int32
  | 0, _ => none
  | n + 1, x4 =>
    if (oS (σ b3) 4) ≤ x4 then
      some (-4 : Int32)
    else
      if (5 : Int32) ≤ x4 then
        some x4
      else
        gd (inb x4 100) <|
        gd (inb x4 5) <|
        if (ix (oA (σ b3) 1) x4) = (ix (oA (σ 1) 3) x4) then
          nm (x4 + (1 : Int32)) fun v9 =>
          C_forged_L22 σ b3 n v9
        else
          some x4
def C_forged (σ : CS) (p1 : Int32) : Option Int32 :=
  bd (C_rowRefusal σ p1) fun (r1 : Int32) =>
  if r1 = (0 : Int32) then
    gd (inb p1 8) <|
    C_forged_L22 σ (11 + p1.toNatClampNeg) FU (0 : Int32)
  else
    some r1
def C_judge_L54 (a2 : Int32) (b4 : Nat) : Nat → CS → Int32 → Option (Int32 × CS)
  | 0, _, _ => none
  | n + 1, σ, x5 =>
    if (oS (σ b4) 4) ≤ x5 then
      some ((-4 : Int32), σ)
    else
      bd (T_ownedBy (σ 3) a2) fun (r11 : Int32) =>
      bd (B_bitCount r11) fun (r12 : Int32) =>
      bd (S_agrees (σ b4) x5 r12) fun (r13 : Int32) =>
      if r13 = (0 : Int32) then
        some (x5, σ)
      else
        bd2 (T_pass (σ 3)) fun (r15 : Int32) (t16 : Ob) =>
        nm (va_up σ 3 t16) fun σ17 =>
        nm (x5 + (1 : Int32)) fun v18 =>
        C_judge_L54 a2 b4 n σ17 v18
def C_judge (σ : CS) (p1 : Int32) (p2 : Int32) : Option (Int32 × CS) :=
  bd (C_isShelf p1) fun (r1 : Int32) =>
  if r1 = (0 : Int32) then
    some ((-1 : Int32), σ)
  else
    bd (T_hasOne (σ 1) p2) fun (r3 : Int32) =>
    if r3 = (0 : Int32) then
      some ((-1 : Int32), σ)
    else
      bd (C_rowRefusal σ p1) fun (r5 : Int32) =>
      if r5 = (0 : Int32) then
        gd (inb p1 8) <|
        bd (T_takeFrom (σ 3) (σ 1)) fun (t8 : Ob) =>
        nm (va_up σ 3 t8) fun σ9 =>
        C_judge_L54 p2 (11 + p1.toNatClampNeg) FU σ9 (0 : Int32)
      else
        some (r5, σ)
def C_nextSeed (p0 : Int32) : Option Int32 :=
  some ((p0 * (1103515245 : Int32)) + (12345 : Int32))
def C_draw (p0 : Int32) : Option Int32 :=
  some ((p0 &&& (2147483647 : Int32)) / (65536 : Int32))
def C_drawYear_L15 (k48 : Int32 → CS → Option (Int32 × CS)) : Nat → CS → Int32 → Int32 → Option (Int32 × CS)
  | 0, _, _, _ => none
  | n + 1, σ, x2, x3 =>
    if (5 : Int32) ≤ x3 then
      k48 x2 σ
    else
      bd (C_nextSeed x2) fun (r4 : Int32) =>
      bd (C_draw r4) fun (r5 : Int32) =>
      gd (inb x3 5) <|
      nm (va_up σ 3 (pA (σ 3) 1 x3 (rem32 r5 (4096 : Int32)))) fun σ7 =>
      nm (x3 + (1 : Int32)) fun v8 =>
      C_drawYear_L15 k48 n σ7 r4 v8
def C_drawYear_L50 : Nat → CS → Int32 → Int32 → Option (Int32 × CS)
  | 0, _, _, _ => none
  | n + 1, σ, x2, x3 =>
    if (oS (σ 3) 1) ≤ x3 then
      some (x2, σ)
    else
      bd (C_nextSeed x2) fun (r14 : Int32) =>
      bd (C_draw r14) fun (r15 : Int32) =>
      gd (inb x3 7) <|
      nm (va_up σ 3 (pA (σ 3) 6 x3 (rem32 r15 (5 : Int32)))) fun σ17 =>
      nm (x3 + (1 : Int32)) fun v18 =>
      C_drawYear_L50 n σ17 r14 v18
def C_drawYear (σ : CS) (p1 : Int32) : Option (Int32 × CS) :=
  bd (T_takeFrom (σ 3) (σ 1)) fun (t1 : Ob) =>
  nm (va_up σ 3 t1) fun σ2 =>
  C_drawYear_L15 (fun (x2_11 : Int32) (σ12 : CS) =>
      C_drawYear_L50 FU σ12 x2_11 (0 : Int32)) FU σ2 p1 (0 : Int32)
def C_otherOwners_L4 (σ : CS) : Nat → Int32 → Int32 → Option Int32
  | 0, _, _ => none
  | n + 1, x1, x2 =>
    if (5 : Int32) ≤ x2 then
      some x1
    else
      gd (inb x2 5) <|
      bd (
        if (ix (oA (σ 3) 3) x2) = (9 : Int32) then
          some x1
        else
          gd (inb x2 5) <|
          gd (inb x2 5) <|
          if (ix (oA (σ 3) 3) x2) = (ix (oA (σ 1) 3) x2) then
            some x1
          else
            nm (x1 + (1 : Int32)) fun v7 =>
            some v7) fun (x1_8 : Int32) =>
      nm (x2 + (1 : Int32)) fun v9 =>
      C_otherOwners_L4 σ n x1_8 v9
def C_otherOwners (σ : CS) : Option Int32 :=
  C_otherOwners_L4 σ FU (0 : Int32) (0 : Int32)
def C_years_L33 (k86 : Int32 → Int32 → CS → Option (Int32 × CS)) (a1 : Int32) (a3 : Int32) : Nat → CS → Int32 → Int32 → Int32 → Int32 → Option (Int32 × CS)
  | 0, _, _, _, _, _ => none
  | n + 1, σ, x4, x5, x6, x7 =>
    if a1 ≤ x7 then
      k86 x5 x6 σ
    else
      bd2 (C_drawYear σ x4) fun (r6 : Int32) (σ7 : CS) =>
      bd (T_passAll (σ7 3) (8 : Int32)) fun (t8 : Ob) =>
      nm (va_up σ7 3 t8) fun σ9 =>
      bd (T_ownedThings (σ9 3)) fun (r10 : Int32) =>
      bd (B_bitCount r10) fun (r11 : Int32) =>
      nm (x5 + r11) fun v12 =>
      bd (C_otherOwners σ9) fun (r13 : Int32) =>
      nm (x6 + r13) fun v14 =>
      nm (x7 + (1 : Int32)) fun v15 =>
      C_years_L33 k86 a1 a3 n σ9 r6 v12 v14 v15
def C_years (σ : CS) (p1 : Int32) (p2 : Int32) (p3 : Int32) : Option (Int32 × CS) :=
  if p1 < (1 : Int32) then
    some ((-1 : Int32), σ)
  else
    if (20 : Int32) < p1 then
      some ((-1 : Int32), σ)
    else
      bd (C_within p3 (1 : Int32)) fun (r3 : Int32) =>
      if r3 = (0 : Int32) then
        some ((-1 : Int32), σ)
      else
        C_years_L33 (fun (x5_21 : Int32) (x6_22 : Int32) (σ23 : CS) =>
            if p3 = (0 : Int32) then
              some (x5_21, σ23)
            else
              some (x6_22, σ23)) p1 p3 FU σ p2 (0 : Int32) (0 : Int32) (0 : Int32)
def C_image (σ : CS) : Option (Int32 × CS) :=
  bd (T_takeFrom (σ 2) (σ 1)) fun (t1 : Ob) =>
  nm (va_up σ 2 t1) fun σ2 =>
  nm (va_up σ2 0 (pS (σ2 0) 2 (1 : Int32))) fun σ3 =>
  some ((oS (σ3 1) 2), σ3)
def C_restore (σ : CS) : Option (Int32 × CS) :=
  if (oS (σ 0) 2) = (0 : Int32) then
    some ((-3 : Int32), σ)
  else
    bd (T_takeFrom (σ 1) (σ 2)) fun (t2 : Ob) =>
    nm (va_up σ 1 t2) fun σ3 =>
    some ((oS (σ3 1) 2), σ3)
def C_count (σ : CS) (p1 : Int32) : Option Int32 :=
  if p1 = (0 : Int32) then
    some (oS (σ 1) 1)
  else
    if p1 = (1 : Int32) then
      some (oS (σ 1) 2)
    else
      if p1 = (2 : Int32) then
        bd (T_ownedThings (σ 1)) fun (r4 : Int32) =>
        some r4
      else
        if p1 = (3 : Int32) then
          bd (T_allWorth (σ 1)) fun (r6 : Int32) =>
          some r6
        else
          if p1 = (4 : Int32) then
            bd (T_allKnown (σ 1)) fun (r8 : Int32) =>
            some r8
          else
            some (-1 : Int32)
def C_keep (σ : CS) (p1 : Int32) (p2 : Int32) (p3 : Int32) (p4 : Int32) : Option (Int32 × CS) :=
  bd (C_isShelf p1) fun (r1 : Int32) =>
  if r1 = (0 : Int32) then
    some ((-1 : Int32), σ)
  else
    bd (C_within p2 (1 : Int32)) fun (r3 : Int32) =>
    if r3 = (0 : Int32) then
      some ((-1 : Int32), σ)
    else
      if p2 = (0 : Int32) then
        gd (inb p1 8) <|
        nm (va_up σ (11 + p1.toNatClampNeg) (pS (σ (11 + p1.toNatClampNeg)) 0 (0 : Int32))) fun σ14 =>
        some ((0 : Int32), σ14)
      else
        bd (C_within p3 (7 : Int32)) fun (r6 : Int32) =>
        if r6 = (0 : Int32) then
          some ((-1 : Int32), σ)
        else
          bd (C_within p4 (9 : Int32)) fun (r8 : Int32) =>
          if r8 = (0 : Int32) then
            some ((-1 : Int32), σ)
          else
            gd (inb p1 8) <|
            bd (S_holdOne (σ (11 + p1.toNatClampNeg)) p3 p4) fun (s11 : Ob) =>
            nm (va_up σ (11 + p1.toNatClampNeg) s11) fun σ12 =>
            some ((0 : Int32), σ12)
def C_row (σ : CS) (p1 : Int32) (p2 : Int32) (p3 : Int32) : Option (Int32 × CS) :=
  bd (C_isShelf p1) fun (r1 : Int32) =>
  if r1 = (0 : Int32) then
    some ((-1 : Int32), σ)
  else
    bd (C_within p2 (2 : Int32)) fun (r3 : Int32) =>
    if r3 = (0 : Int32) then
      some ((-1 : Int32), σ)
    else
      if p3 ≤ (100 : Int32) then
        if (0 : Int32) ≤ p3 then
          gd (inb p1 8) <|
          bd (S_holdRow (σ (11 + p1.toNatClampNeg)) p2 p3) fun (s8 : Ob) =>
          nm (va_up σ (11 + p1.toNatClampNeg) s8) fun σ9 =>
          some ((0 : Int32), σ9)
        else
          some ((-14 : Int32), σ)
      else
        some ((-1 : Int32), σ)
def C_put (σ : CS) (p1 : Int32) (p2 : Int32) (p3 : Int32) : Option (Int32 × CS) :=
  bd (C_rowRefusal σ p1) fun (r1 : Int32) =>
  if r1 = (0 : Int32) then
    gd (inb p1 8) <|
    bd (S_hasPlaces (σ (11 + p1.toNatClampNeg)) p2 (1 : Int32)) fun (r4 : Int32) =>
    if r4 = (0 : Int32) then
      some ((-13 : Int32), σ)
    else
      bd (S_cut (σ (11 + p1.toNatClampNeg)) p3) fun (r6 : Int32) =>
      gd (inb p2 100) <|
      nm (va_up σ (11 + p1.toNatClampNeg) (pA (σ (11 + p1.toNatClampNeg)) 1 p2 r6)) fun σ8 =>
      some ((0 : Int32), σ8)
  else
    some (r1, σ)
def C_copy (σ : CS) (p1 : Int32) (p2 : Int32) (p3 : Int32) (p4 : Int32) (p5 : Int32) : Option (Int32 × CS) :=
  bd (C_isShelf p1) fun (r1 : Int32) =>
  if r1 = (0 : Int32) then
    some ((-1 : Int32), σ)
  else
    bd (C_isShelf p3) fun (r3 : Int32) =>
    if r3 = (0 : Int32) then
      some ((-1 : Int32), σ)
    else
      gd (inb p1 8) <|
      gd (inb p3 8) <|
      if (oS (σ (11 + p1.toNatClampNeg)) 0) = (0 : Int32) then
        some ((-11 : Int32), σ)
      else
        if (oS (σ (11 + p3.toNatClampNeg)) 0) = (0 : Int32) then
          some ((-11 : Int32), σ)
        else
          if (oS (σ (11 + p1.toNatClampNeg)) 0) = (2 : Int32) then
            if (oS (σ (11 + p3.toNatClampNeg)) 0) = (2 : Int32) then
              if (oS (σ (11 + p1.toNatClampNeg)) 3) = (oS (σ (11 + p3.toNatClampNeg)) 3) then
                bd (S_hasPlaces (σ (11 + p1.toNatClampNeg)) p2 p5) fun (r12 : Int32) =>
                if r12 = (0 : Int32) then
                  some ((-13 : Int32), σ)
                else
                  bd (S_hasPlaces (σ (11 + p3.toNatClampNeg)) p4 p5) fun (r14 : Int32) =>
                  if r14 = (0 : Int32) then
                    some ((-13 : Int32), σ)
                  else
                    gd (cpok p2 p4 p5) <|
                    nm (va_up σ (11 + p3.toNatClampNeg) (pR (σ (11 + p3.toNatClampNeg)) 1 (va_cpy (oA (σ (11 + p1.toNatClampNeg)) 1) (oA (σ (11 + p3.toNatClampNeg)) 1) p2.toNatClampNeg p4.toNatClampNeg p5.toNatClampNeg))) fun σ17 =>
                    some (p5, σ17)
              else
                some ((-12 : Int32), σ)
            else
              some ((-12 : Int32), σ)
          else
            some ((-12 : Int32), σ)
def KD_price (k : Int32) (p1 : Int32) : Option Int32 := match k.toNatClampNeg with
  | 0 => K3_price p1
  | 1 => K4_price p1
  | 2 => K2_price p1
  | 3 => K6_price p1
  | 4 => K1_price p1
  | 5 => K5_price p1
  | 6 => K0_price p1
  | _ => K4_price p1
def C_cost (σ : CS) (p1 : Int32) : Option Int32 :=
  bd (C_oneRefusal σ p1) fun (r1 : Int32) =>
  if r1 = (0 : Int32) then
    gd (inb p1 8) <|
    gd (inb (oS (σ (11 + p1.toNatClampNeg)) 1) 8) <|
    bd (KD_price (oS (σ (11 + p1.toNatClampNeg)) 1) (oS (σ (11 + p1.toNatClampNeg)) 2)) fun (r5 : Int32) =>
    some r5
  else
    some r1
