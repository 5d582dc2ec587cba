def M_thrown (o : Ob) : Option Int32 :=
  some (oS o 15)
def M_in (o : Ob) (p0 : Int64) (p2 : Int64) (p4 : Int64) : Option Int32 :=
  if (lg_cmp p0 p2) < (0 : Int32) then
    some (0 : Int32)
  else
    if (0 : Int32) < (lg_cmp p0 p4) then
      some (0 : Int32)
    else
      some (1 : Int32)
def M_hasBit (o : Ob) (p0 : Int32) (p1 : Int32) : Option Int32 :=
  if ((shr32 p0 p1) &&& (1 : Int32)) = (1 : Int32) then
    some (1 : Int32)
  else
    some (0 : Int32)
def M_onesOf_L4 (o : Ob) : Nat → Int32 → Int32 → Option Int32
  | 0, _, _ => none
  | n + 1, x1, x2 =>
    if x2 = (0 : Int32) then
      some x1
    else
      nm (x1 + (1 : Int32)) fun v2 =>
      nm (x2 &&& (x2 - (1 : Int32))) fun v3 =>
      M_onesOf_L4 o n v2 v3
def M_onesOf (o : Ob) (p0 : Int32) : Option Int32 :=
  M_onesOf_L4 o FU (0 : Int32) p0
def M_isThing (o : Ob) (p0 : Int32) : Option Int32 :=
  bd (M_in o p0.toInt64 (0 : Int64) (4 : Int64)) fun (r1 : Int32) =>
  gd (isZ r1) <|
  some r1
def M_isOne (o : Ob) (p1 : Int32) : Option Int32 :=
  bd (M_in o p1.toInt64 (0 : Int64) (((oS o 3) - (1 : Int32)).toInt64)) fun (r1 : Int32) =>
  gd (isZ r1) <|
  some r1
def M_isCare (o : Ob) (p0 : Int32) : Option Int32 :=
  bd (M_isThing o p0) fun (r1 : Int32) =>
  jn (
    some (1 : Int32)) fun j13 =>
  if r1 = (0 : Int32) then
    if p0 = (9 : Int32) then
      j13
    else
      some (0 : Int32)
  else
    j13
def M_storyBy (o : Ob) (p1 : Int32) (p2 : Int32) (p3 : Int32) : Option Int32 :=
  bd (M_onesOf o (p2 &&& p3)) fun (r1 : Int32) =>
  bd (
    if r1 = (0 : Int32) then
      some (0 : Int32)
    else
      gd (inb p1 7) <|
      some (r1 + ((ix (oA o 5) p1) / (3 : Int32)))) fun (s4 : Int32) =>
  bd (M_onesOf o ((p2 &&& p3) &&& (4032 : Int32))) fun (r5 : Int32) =>
  nm (r1 + r5) fun v6 =>
  gd (inb p1 7) <|
  jn (
    bd (M_onesOf o (p2 &&& (p3 ^^^ (-1 : Int32)))) fun (r18 : Int32) =>
    some (r1 + (r18 / (2 : Int32)))) fun j135 =>
  if (ix (oA o 4) p1) = (0 : Int32) then
    some r1
  else
    if (ix (oA o 4) p1) = (1 : Int32) then
      some s4
    else
      if (ix (oA o 4) p1) = (2 : Int32) then
        j135
      else
        if (ix (oA o 4) p1) = (3 : Int32) then
          some v6
        else
          if (ix (oA o 4) p1) = (4 : Int32) then
            if r1 = (0 : Int32) then
              some (0 : Int32)
            else
              some (s4 + (2 : Int32))
          else
            if (ix (oA o 4) p1) = (5 : Int32) then
              j135
            else
              if (ix (oA o 4) p1) = (6 : Int32) then
                if v6 = (0 : Int32) then
                  some (0 : Int32)
                else
                  some (v6 - (1 : Int32))
              else
                if (ix (oA o 4) p1) = (7 : Int32) then
                  some (0 : Int32)
                else
                  j135
def M_storyOf (o : Ob) (p1 : Int32) (p2 : Int32) : Option Int32 :=
  gd (inb (((5 : Int32) * p1) + p2) 35) <|
  gd (inb p2 5) <|
  bd (M_storyBy o p1 (ix (oA o 7) (((5 : Int32) * p1) + p2)) (ix (oA o 1) p2)) fun (r3 : Int32) =>
  some r3
def M_learnsOn (o : Ob) (p1 : Int32) (p2 : Int32) : Option Int32 :=
  gd (inb p1 7) <|
  if (ix (oA o 6) p1) = (9 : Int32) then
    some (0 : Int32)
  else
    gd (inb p1 7) <|
    jn (
      if (rem32 p2 (2 : Int32)) = (0 : Int32) then
        some (1 : Int32)
      else
        some (0 : Int32)) fun j62 =>
    if (ix (oA o 4) p1) = (0 : Int32) then
      some (1 : Int32)
    else
      if (ix (oA o 4) p1) = (1 : Int32) then
        j62
      else
        if (ix (oA o 4) p1) = (2 : Int32) then
          some (2 : Int32)
        else
          if (ix (oA o 4) p1) = (3 : Int32) then
            gd (inb p1 7) <|
            gd (inb (ix (oA o 6) p1) 5) <|
            if (ix (oA o 3) (ix (oA o 6) p1)) = p1 then
              some (1 : Int32)
            else
              some (2 : Int32)
          else
            if (ix (oA o 4) p1) = (4 : Int32) then
              j62
            else
              if (ix (oA o 4) p1) = (5 : Int32) then
                gd (inb p1 7) <|
                some ((ix (oA o 5) p1) / (2 : Int32))
              else
                if (ix (oA o 4) p1) = (6 : Int32) then
                  some (3 : Int32)
                else
                  some (0 : Int32)
def M_isOld (o : Ob) (p1 : Int32) : Option Int32 :=
  gd (inb p1 7) <|
  jn (
    some (1 : Int32)) fun j31 =>
  if (ix (oA o 4) p1) = (1 : Int32) then
    j31
  else
    gd (inb p1 7) <|
    if (ix (oA o 4) p1) = (4 : Int32) then
      j31
    else
      gd (inb p1 7) <|
      if (ix (oA o 4) p1) = (7 : Int32) then
        j31
      else
        some (0 : Int32)
def M_isLiar (o : Ob) (p1 : Int32) : Option Int32 :=
  gd (inb p1 7) <|
  jn (
    some (1 : Int32)) fun j20 =>
  if (ix (oA o 4) p1) = (2 : Int32) then
    j20
  else
    gd (inb p1 7) <|
    if (ix (oA o 4) p1) = (5 : Int32) then
      j20
    else
      some (0 : Int32)
def M_learnOne (o : Ob) (p1 : Int32) : Option Ob :=
  gd (inb p1 7) <|
  nm (((5 : Int32) * p1) + (ix (oA o 6) p1)) fun v2 =>
  bd (M_isLiar o p1) fun (r3 : Int32) =>
  bd (
    if r3 = (0 : Int32) then
      gd (inb p1 7) <|
      gd (inb (ix (oA o 6) p1) 5) <|
      some (ix (oA o 1) (ix (oA o 6) p1))
    else
      some (4095 : Int32)) fun (s7 : Int32) =>
  gd (inb v2 35) <|
  nm (s7 &&& ((ix (oA o 7) v2) ^^^ (-1 : Int32))) fun v9 =>
  gd (inb v2 35) <|
  gd (inb v2 35) <|
  nm (pA o 7 v2 ((ix (oA o 7) v2) ||| (v9 &&& (-v9)))) fun o12 =>
  some o12
def M_withoutGreatest_L3 (k21 : Int32 → Option Int32) (o : Ob) (a0 : Int32) : Nat → Int32 → Option Int32
  | 0, _ => none
  | n + 1, x1 =>
    if x1 < (0 : Int32) then
      k21 x1
    else
      bd (M_hasBit o a0 x1) fun (r2 : Int32) =>
      if r2 = (0 : Int32) then
        nm (x1 + (-1 : Int32)) fun v4 =>
        M_withoutGreatest_L3 k21 o a0 n v4
      else
        k21 x1
def M_withoutGreatest (o : Ob) (p0 : Int32) : Option Int32 :=
  M_withoutGreatest_L3 (fun (x1_6 : Int32) =>
      if (0 : Int32) ≤ x1_6 then
        some (p0 &&& ((shl32 (1 : Int32) x1_6) ^^^ (-1 : Int32)))
      else
        some (0 : Int32)) o p0 FU (11 : Int32)
def M_goesTo_L33 (k81 : Int32 → Option Ob) (o : Ob) (a1 : Int32) : Nat → Int32 → Int32 → Int32 → Option Ob
  | 0, _, _, _ => none
  | n + 1, x2, x3, x4 =>
    if (oS o 3) ≤ x4 then
      k81 x2
    else
      gd (inb a1 5) <|
      bd2 (
        if x4 = (ix (oA o 3) a1) then
          some (x2, x3)
        else
          bd (M_storyOf o x4 a1) fun (r9 : Int32) =>
          if r9 ≤ x3 then
            some (x2, x3)
          else
            bd (M_storyOf o x4 a1) fun (r11 : Int32) =>
            some (x4, r11)) fun (x2_12 : Int32) (x3_13 : Int32) =>
      nm (x4 + (1 : Int32)) fun v14 =>
      M_goesTo_L33 k81 o a1 n x2_12 x3_13 v14
def M_goesTo (o : Ob) (p1 : Int32) : Option Ob :=
  gd (inb p1 5) <|
  bd (
    if (ix (oA o 3) p1) = (9 : Int32) then
      some (0 : Int32)
    else
      gd (inb p1 5) <|
      bd (M_storyOf o (ix (oA o 3) p1) p1) fun (r4 : Int32) =>
      some r4) fun (s5 : Int32) =>
  M_goesTo_L33 (fun (x2_17 : Int32) =>
      bd (
        if x2_17 = (9 : Int32) then
          gd (inb p1 5) <|
          some (ix (oA o 3) p1)
        else
          some x2_17) fun (s20 : Int32) =>
      gd (inb p1 5) <|
      nm (pA o 3 p1 s20) fun o22 =>
      some o22) o p1 FU (9 : Int32) s5 (0 : Int32)
def M_dayOn_L32 (k48 : Ob → Option Ob) (a1 : Int32) (a2 : Int32) : Nat → Ob → Int32 → Option Ob
  | 0, _, _ => none
  | n + 1, o, x3 =>
    if a2 ≤ x3 then
      k48 o
    else
      bd (M_learnOne o a1) fun (o5 : Ob) =>
      nm (x3 + (1 : Int32)) fun v6 =>
      M_dayOn_L32 k48 a1 a2 n o5 v6
def M_dayOn_L50 (k102 : Ob → Option Ob) (a1 : Int32) : Nat → Ob → Int32 → Option Ob
  | 0, _, _ => none
  | n + 1, o, x3 =>
    if (5 : Int32) ≤ x3 then
      k102 o
    else
      bd (M_isOld o a1) fun (r10 : Int32) =>
      if r10 = (0 : Int32) then
        k102 o
      else
        if (rem32 (oS o 8) (7 : Int32)) = (0 : Int32) then
          gd (inb (((5 : Int32) * a1) + x3) 35) <|
          bd (M_withoutGreatest o (ix (oA o 7) (((5 : Int32) * a1) + x3))) fun (r14 : Int32) =>
          gd (inb (((5 : Int32) * a1) + x3) 35) <|
          nm (pA o 7 (((5 : Int32) * a1) + x3) r14) fun o16 =>
          nm (x3 + (1 : Int32)) fun v17 =>
          M_dayOn_L50 k102 a1 n o16 v17
        else
          k102 o
def M_dayOn_L12 (k108 : Ob → Option Ob) : Nat → Ob → Int32 → Option Ob
  | 0, _, _ => none
  | n + 1, o, x1 =>
    if (oS o 3) ≤ x1 then
      k108 o
    else
      bd (M_learnsOn o x1 (oS o 8)) fun (r3 : Int32) =>
      M_dayOn_L32 (fun (o8 : Ob) =>
          M_dayOn_L50 (fun (o20 : Ob) =>
              nm (x1 + (1 : Int32)) fun v21 =>
              M_dayOn_L12 k108 n o20 v21) x1 FU o8 (0 : Int32)) x1 r3 FU o (0 : Int32)
def M_dayOn_L110 : Nat → Ob → Int32 → Option Ob
  | 0, _, _ => none
  | n + 1, o, x1 =>
    if (5 : Int32) ≤ x1 then
      some o
    else
      bd (M_goesTo o x1) fun (o25 : Ob) =>
      nm (x1 + (1 : Int32)) fun v26 =>
      M_dayOn_L110 n o25 v26
def M_dayOn (o : Ob) : Option Ob :=
  nm (pS o 8 ((oS o 8) + (1 : Int32))) fun o1 =>
  M_dayOn_L12 (fun (o23 : Ob) =>
      M_dayOn_L110 FU o23 (0 : Int32)) FU o1 (0 : Int32)
def M_goDays_L2 (a1 : Int32) : Nat → Ob → Int32 → Option Ob
  | 0, _, _ => none
  | n + 1, o, x2 =>
    if a1 ≤ x2 then
      some o
    else
      bd (M_dayOn o) fun (o2 : Ob) =>
      nm (x2 + (1 : Int32)) fun v3 =>
      M_goDays_L2 a1 n o2 v3
def M_goDays (o : Ob) (p1 : Int32) : Option Ob :=
  M_goDays_L2 p1 FU o (0 : Int32)
def M_ownedBy_L4 (o : Ob) (a1 : Int32) : Nat → Int32 → Int32 → Option Int32
  | 0, _, _ => none
  | n + 1, x2, x3 =>
    if (5 : Int32) ≤ x3 then
      some x2
    else
      gd (inb x3 5) <|
      bd (
        if (ix (oA o 3) x3) = a1 then
          some (shl32 (1 : Int32) x3)
        else
          some (0 : Int32)) fun (s4 : Int32) =>
      nm (x2 ||| s4) fun v5 =>
      nm (x3 + (1 : Int32)) fun v6 =>
      M_ownedBy_L4 o a1 n v5 v6
def M_ownedBy (o : Ob) (p1 : Int32) : Option Int32 :=
  M_ownedBy_L4 o p1 FU (0 : Int32) (0 : Int32)
def M_worthOf_L4 (o : Ob) (a1 : Int32) : Nat → Int32 → Int32 → Option Int32
  | 0, _, _ => none
  | n + 1, x2, x3 =>
    if (5 : Int32) ≤ x3 then
      some x2
    else
      gd (inb x3 5) <|
      bd (
        if (ix (oA o 3) x3) = a1 then
          gd (inb x3 5) <|
          some (ix (oA o 2) x3)
        else
          some (0 : Int32)) fun (s5 : Int32) =>
      nm (x2 + s5) fun v6 =>
      nm (x3 + (1 : Int32)) fun v7 =>
      M_worthOf_L4 o a1 n v6 v7
def M_worthOf (o : Ob) (p1 : Int32) : Option Int32 :=
  M_worthOf_L4 o p1 FU (0 : Int32) (0 : Int32)
def M_ownedBits (o : Ob) : Option Int32 :=
  bd (M_ownedBy o (9 : Int32)) fun (r1 : Int32) =>
  some ((31 : Int32) &&& (r1 ^^^ (-1 : Int32)))
def M_here (o : Ob) : Option Int32 :=
  gd (inb (oS o 16) 8) <|
  if (ix (oA o 12) (oS o 16)) ≤ (oS o 17) then
    some (-999 : Int32)
  else
    gd (inb (((100 : Int32) * (oS o 16)) + (oS o 17)) 800) <|
    some ((ixL (oL o 13) (((100 : Int32) * (oS o 16)) + (oS o 17))).toInt32)
def M_readDigits_L4 (a1 : Int32) : Nat → Ob → Int32 → Int32 → Option (Int32 × Ob)
  | 0, _, _, _ => none
  | n + 1, o, x2, x3 =>
    if a1 ≤ x3 then
      some (x2, o)
    else
      bd (
        jn (
          some (1 : Int32)) fun j34 =>
        if (oS o 18) = (0 : Int32) then
          bd (M_here o) fun (r3 : Int32) =>
          bd (M_in o r3.toInt64 (48 : Int64) (57 : Int64)) fun (r4 : Int32) =>
          if r4 = (0 : Int32) then
            j34
          else
            some (0 : Int32)
        else
          j34) fun (s6 : Int32) =>
      gd (isZ s6) <|
      nm (pS o 18 s6) fun o8 =>
      bd (
        if (oS o8 18) = (0 : Int32) then
          bd (M_here o8) fun (r10 : Int32) =>
          some ((((10 : Int32) * x2) + r10) - (48 : Int32))
        else
          some (0 : Int32)) fun (s11 : Int32) =>
      bd (
        if (oS o8 18) = (0 : Int32) then
          some (1 : Int32)
        else
          some (0 : Int32)) fun (s13 : Int32) =>
      nm (pS o8 17 ((oS o8 17) + s13)) fun o14 =>
      nm (x3 + (1 : Int32)) fun v15 =>
      M_readDigits_L4 a1 n o14 s11 v15
def M_readDigits (o : Ob) (p1 : Int32) : Option (Int32 × Ob) :=
  M_readDigits_L4 p1 FU o (0 : Int32) (0 : Int32)
def M_isLetter (o : Ob) (p0 : Int32) : Option Int32 :=
  jn (
    some (1 : Int32)) fun j36 =>
  if p0 = (116 : Int32) then
    j36
  else
    if p0 = (112 : Int32) then
      j36
    else
      if p0 = (108 : Int32) then
        j36
      else
        if p0 = (111 : Int32) then
          j36
        else
          if p0 = (99 : Int32) then
            j36
          else
            if p0 = (100 : Int32) then
              j36
            else
              some (0 : Int32)
def M_readNumbers (o : Ob) (p1 : Int32) (p2 : Int32) : Option Ob :=
  bd (
    if p1 = (100 : Int32) then
      some (2 : Int32)
    else
      some (1 : Int32)) fun (s2 : Int32) =>
  bd2 (M_readDigits o s2) fun (r3 : Int32) (o4 : Ob) =>
  gd (inb p2 153) <|
  nm (pA o4 16 p2 r3) fun o6 =>
  bd (
    if p1 = (100 : Int32) then
      some o6
    else
      bd (
        if p1 = (116 : Int32) then
          some (4 : Int32)
        else
          some (1 : Int32)) fun (s9 : Int32) =>
      bd2 (M_readDigits o6 s9) fun (r10 : Int32) (o11 : Ob) =>
      gd (inb (p2 + (1 : Int32)) 153) <|
      nm (pA o11 16 (p2 + (1 : Int32)) r10) fun o13 =>
      some o13) fun (o14 : Ob) =>
  jn (
    bd (
      if p1 = (108 : Int32) then
        some (2 : Int32)
      else
        some (1 : Int32)) fun (s19 : Int32) =>
    bd2 (M_readDigits o14 s19) fun (r20 : Int32) (o21 : Ob) =>
    gd (inb (p2 + (2 : Int32)) 153) <|
    nm (pA o21 16 (p2 + (2 : Int32)) r20) fun o23 =>
    some o23) fun j68 =>
  if p1 = (116 : Int32) then
    j68
  else
    if p1 = (112 : Int32) then
      j68
    else
      if p1 = (108 : Int32) then
        j68
      else
        some o14
def M_readStatement (o : Ob) : Option Ob :=
  nm (oS o 19) fun v1 =>
  bd (M_here o) fun (r2 : Int32) =>
  gd (inb v1 51) <|
  nm (pA o 14 v1 (oS o 17)) fun o4 =>
  gd (inb v1 51) <|
  nm (pA o4 15 v1 r2) fun o6 =>
  bd (
    jn (
      some (1 : Int32)) fun j42 =>
    if (oS o6 18) = (0 : Int32) then
      bd (M_isLetter o6 r2) fun (r8 : Int32) =>
      if r8 = (0 : Int32) then
        j42
      else
        some (0 : Int32)
    else
      j42) fun (s10 : Int32) =>
  gd (isZ s10) <|
  nm (pS o6 18 s10) fun o12 =>
  bd (
    if (oS o12 18) = (0 : Int32) then
      some (1 : Int32)
    else
      some (0 : Int32)) fun (s14 : Int32) =>
  nm (pS o12 17 ((oS o12 17) + s14)) fun o15 =>
  bd (
    if (oS o15 18) = (0 : Int32) then
      bd (M_readNumbers o15 r2 ((3 : Int32) * v1)) fun (o17 : Ob) =>
      some o17
    else
      some o15) fun (o18 : Ob) =>
  bd (
    jn (
      some (1 : Int32)) fun j103 =>
    if (oS o18 18) = (0 : Int32) then
      bd (M_here o18) fun (r20 : Int32) =>
      if r20 = (59 : Int32) then
        some (0 : Int32)
      else
        j103
    else
      j103) fun (s22 : Int32) =>
  gd (isZ s22) <|
  nm (pS o18 18 s22) fun o24 =>
  bd (
    if (oS o24 18) = (0 : Int32) then
      some (1 : Int32)
    else
      some (0 : Int32)) fun (s26 : Int32) =>
  nm (pS o24 17 ((oS o24 17) + s26)) fun o27 =>
  nm (pS o27 19 ((oS o27 19) + (1 : Int32))) fun o28 =>
  some o28
def M_oneComes_L67 (k94 : Ob → Option (Int32 × Ob)) (a4 : Int32) : Nat → Ob → Int32 → Option (Int32 × Ob)
  | 0, _, _ => none
  | n + 1, o, x5 =>
    if (5 : Int32) ≤ x5 then
      k94 o
    else
      gd (inb (((5 : Int32) * (oS o 3)) + x5) 35) <|
      nm (pA o 7 (((5 : Int32) * (oS o 3)) + x5) (0 : Int32)) fun o16 =>
      nm (x5 + (1 : Int32)) fun v17 =>
      M_oneComes_L67 k94 a4 n o16 v17
def M_oneComes (o : Ob) (p1 : Int32) (p2 : Int32) (p3 : Int32) : Option (Int32 × Ob) :=
  bd (
    jn (
      some (0 : Int32)) fun j26 =>
    if (8 : Int32) ≤ p1 then
      j26
    else
      bd (M_isCare o p3) fun (r2 : Int32) =>
      if r2 = (0 : Int32) then
        j26
      else
        if (7 : Int32) ≤ (oS o 3) then
          j26
        else
          some (1 : Int32)) fun (s5 : Int32) =>
  if s5 = (0 : Int32) then
    gd (isZ s5) <|
    some (s5, o)
  else
    gd (inb (oS o 3) 7) <|
    nm (pA o 4 (oS o 3) p1) fun o9 =>
    gd (inb (oS o9 3) 7) <|
    nm (pA o9 5 (oS o9 3) p2) fun o11 =>
    gd (inb (oS o11 3) 7) <|
    nm (pA o11 6 (oS o11 3) p3) fun o13 =>
    M_oneComes_L67 (fun (o18 : Ob) =>
        nm (pS o18 3 ((oS o18 3) + (1 : Int32))) fun o19 =>
        gd (isZ s5) <|
        some (s5, o19)) s5 FU o13 (0 : Int32)
def M_daysCome (o : Ob) (p1 : Int32) : Option (Int32 × Ob) :=
  bd (M_in o p1.toInt64 (1 : Int64) (60 : Int64)) fun (r1 : Int32) =>
  bd (
    jn (
      some (0 : Int32)) fun j28 =>
    if r1 = (0 : Int32) then
      j28
    else
      if (999 : Int32) < ((oS o 8) + p1) then
        j28
      else
        some (1 : Int32)) fun (s4 : Int32) =>
  if s4 = (0 : Int32) then
    gd (isZ s4) <|
    some (s4, o)
  else
    bd (M_goDays o p1) fun (o7 : Ob) =>
    gd (isZ s4) <|
    some (s4, o7)
def M_comesTold (o : Ob) (p1 : Int32) : Option (Int32 × Ob) :=
  gd (inb ((3 : Int32) * p1) 153) <|
  nm (ix (oA o 16) ((3 : Int32) * p1)) fun v2 =>
  gd (inb (((3 : Int32) * p1) + (1 : Int32)) 153) <|
  nm (ix (oA o 16) (((3 : Int32) * p1) + (1 : Int32))) fun v4 =>
  gd (inb (((3 : Int32) * p1) + (2 : Int32)) 153) <|
  nm (ix (oA o 16) (((3 : Int32) * p1) + (2 : Int32))) fun v6 =>
  gd (inb p1 51) <|
  if (ix (oA o 15) p1) = (99 : Int32) then
    bd (M_isOne o v2) fun (r9 : Int32) =>
    bd (
      jn (
        some (0 : Int32)) fun j261 =>
      if r9 = (0 : Int32) then
        j261
      else
        bd (M_isCare o v4) fun (r11 : Int32) =>
        if r11 = (0 : Int32) then
          j261
        else
          some (1 : Int32)) fun (s13 : Int32) =>
    if s13 = (0 : Int32) then
      gd (isZ s13) <|
      some (s13, o)
    else
      gd (inb v2 7) <|
      nm (pA o 6 v2 v4) fun o17 =>
      gd (isZ s13) <|
      some (s13, o17)
  else
    if (ix (oA o 15) p1) = (108 : Int32) then
      bd (M_isOne o v2) fun (r20 : Int32) =>
      bd (
        jn (
          some (0 : Int32)) fun j171 =>
        if r20 = (0 : Int32) then
          j171
        else
          bd (M_isThing o v4) fun (r22 : Int32) =>
          if r22 = (0 : Int32) then
            j171
          else
            if (11 : Int32) < v6 then
              j171
            else
              some (1 : Int32)) fun (s25 : Int32) =>
      if s25 = (0 : Int32) then
        gd (isZ s25) <|
        some (s25, o)
      else
        nm (((5 : Int32) * v2) + v4) fun v28 =>
        gd (inb v28 35) <|
        gd (inb v28 35) <|
        nm (pA o 7 v28 ((ix (oA o 7) v28) ^^^ (shl32 (1 : Int32) v6))) fun o31 =>
        gd (isZ s25) <|
        some (s25, o31)
    else
      if (ix (oA o 15) p1) = (111 : Int32) then
        bd (M_isThing o v2) fun (r34 : Int32) =>
        bd (
          jn (
            some (0 : Int32)) fun j224 =>
          if r34 = (0 : Int32) then
            j224
          else
            jn (
              some (1 : Int32)) fun j220 =>
            if v4 = (9 : Int32) then
              j220
            else
              bd (M_isOne o v4) fun (r37 : Int32) =>
              if r37 = (0 : Int32) then
                j224
              else
                j220) fun (s39 : Int32) =>
        if s39 = (0 : Int32) then
          gd (isZ s39) <|
          some (s39, o)
        else
          gd (inb v2 5) <|
          nm (pA o 3 v2 v4) fun o43 =>
          gd (isZ s39) <|
          some (s39, o43)
      else
        if (ix (oA o 15) p1) = (112 : Int32) then
          bd2 (M_oneComes o v2 v4 v6) fun (r46 : Int32) (o47 : Ob) =>
          gd (isZ r46) <|
          some (r46, o47)
        else
          if (ix (oA o 15) p1) = (116 : Int32) then
            bd (M_isThing o v2) fun (r50 : Int32) =>
            bd (
              jn (
                some (0 : Int32)) fun j110 =>
              if r50 = (0 : Int32) then
                j110
              else
                if (4095 : Int32) < v4 then
                  j110
                else
                  some (1 : Int32)) fun (s53 : Int32) =>
            if s53 = (0 : Int32) then
              gd (isZ s53) <|
              some (s53, o)
            else
              gd (inb v2 5) <|
              nm (pA o 1 v2 v4) fun o57 =>
              gd (inb v2 5) <|
              nm (pA o57 2 v2 v6) fun o59 =>
              gd (isZ s53) <|
              some (s53, o59)
          else
            bd2 (M_daysCome o v2) fun (r61 : Int32) (o62 : Ob) =>
            gd (isZ r61) <|
            some (r61, o62)
def M_wrongRow (o : Ob) (p1 : Int32) : Option Int32 :=
  bd (M_in o p1.toInt64 (0 : Int64) (7 : Int64)) fun (r1 : Int32) =>
  if r1 = (0 : Int32) then
    some (-1 : Int32)
  else
    gd (inb p1 8) <|
    if (ix (oA o 8) p1) = (0 : Int32) then
      some (-11 : Int32)
    else
      gd (inb p1 8) <|
      if (ix (oA o 8) p1) = (2 : Int32) then
        some (0 : Int32)
      else
        some (-12 : Int32)
def M_carry (o : Ob) (p1 : Int32) : Option (Int32 × Ob) :=
  bd (
    if (oS o 27) = (0 : Int32) then
      some o
    else
      gd (kk (oS o 28)) <|
      gd (kk (oS o 28)) <|
      gd (inb (oS o 26) 73) <|
      nm (pA o (oS o 28).toNatClampNeg (oS o 26) p1) fun o5 =>
      some o5) fun (o6 : Ob) =>
  nm (pS o6 26 ((oS o6 26) + (1 : Int32))) fun o7 =>
  gd (kk (oS o7 28)) <|
  gd (kk (oS o7 28)) <|
  gd (inb ((oS o7 26) - (1 : Int32)) 73) <|
  some ((ix (oA o7 (oS o7 28).toNatClampNeg) ((oS o7 26) - (1 : Int32))), o7)
def M_carryAll_L41 (k100 : Ob → Option Ob) : Nat → Ob → Int32 → Option Ob
  | 0, _, _ => none
  | n + 1, o, x3 =>
    if (5 : Int32) ≤ x3 then
      k100 o
    else
      gd (inb x3 5) <|
      bd2 (M_carry o (ix (oA o 1) x3)) fun (r14 : Int32) (o15 : Ob) =>
      gd (inb x3 5) <|
      nm (pA o15 1 x3 r14) fun o17 =>
      gd (inb x3 5) <|
      bd2 (M_carry o17 (ix (oA o17 2) x3)) fun (r19 : Int32) (o20 : Ob) =>
      gd (inb x3 5) <|
      nm (pA o20 2 x3 r19) fun o22 =>
      gd (inb x3 5) <|
      bd2 (M_carry o22 (ix (oA o22 3) x3)) fun (r24 : Int32) (o25 : Ob) =>
      gd (inb x3 5) <|
      nm (pA o25 3 x3 r24) fun o27 =>
      nm (x3 + (1 : Int32)) fun v28 =>
      M_carryAll_L41 k100 n o27 v28
def M_carryAll_L102 (k162 : Ob → Option Ob) : Nat → Ob → Int32 → Option Ob
  | 0, _, _ => none
  | n + 1, o, x3 =>
    if (7 : Int32) ≤ x3 then
      k162 o
    else
      gd (inb x3 7) <|
      bd2 (M_carry o (ix (oA o 4) x3)) fun (r35 : Int32) (o36 : Ob) =>
      gd (inb x3 7) <|
      nm (pA o36 4 x3 r35) fun o38 =>
      gd (inb x3 7) <|
      bd2 (M_carry o38 (ix (oA o38 5) x3)) fun (r40 : Int32) (o41 : Ob) =>
      gd (inb x3 7) <|
      nm (pA o41 5 x3 r40) fun o43 =>
      gd (inb x3 7) <|
      bd2 (M_carry o43 (ix (oA o43 6) x3)) fun (r45 : Int32) (o46 : Ob) =>
      gd (inb x3 7) <|
      nm (pA o46 6 x3 r45) fun o48 =>
      nm (x3 + (1 : Int32)) fun v49 =>
      M_carryAll_L102 k162 n o48 v49
def M_carryAll_L164 : Nat → Ob → Int32 → Option Ob
  | 0, _, _ => none
  | n + 1, o, x3 =>
    if (35 : Int32) ≤ x3 then
      some o
    else
      gd (inb x3 35) <|
      bd2 (M_carry o (ix (oA o 7) x3)) fun (r56 : Int32) (o57 : Ob) =>
      gd (inb x3 35) <|
      nm (pA o57 7 x3 r56) fun o59 =>
      nm (x3 + (1 : Int32)) fun v60 =>
      M_carryAll_L164 n o59 v60
def M_carryAll (o : Ob) (p1 : Int32) (p2 : Int32) : Option Ob :=
  gd (kk p1) <|
  nm (pS o 28 p1) fun o2 =>
  gd (isZ p2) <|
  nm (pS o2 27 p2) fun o4 =>
  nm (pS o4 26 (0 : Int32)) fun o5 =>
  bd2 (M_carry o5 (oS o5 3)) fun (r6 : Int32) (o7 : Ob) =>
  nm (pS o7 3 r6) fun o8 =>
  bd2 (M_carry o8 (oS o8 8)) fun (r9 : Int32) (o10 : Ob) =>
  nm (pS o10 8 r9) fun o11 =>
  M_carryAll_L41 (fun (o32 : Ob) =>
      M_carryAll_L102 (fun (o53 : Ob) =>
          M_carryAll_L164 FU o53 (0 : Int32)) FU o32 (0 : Int32)) FU o11 (0 : Int32)
def M_think (o : Ob) : Option Ob :=
  bd (M_carryAll o (17 : Int32) (1 : Int32)) fun (o1 : Ob) =>
  some o1
def M_again (o : Ob) : Option Ob :=
  bd (M_carryAll o (17 : Int32) (0 : Int32)) fun (o1 : Ob) =>
  some o1
def M_town_L57 (k91 : Ob → Option (Int32 × Ob)) (a1 : Int32) : Nat → Ob → Option (Int32 × Ob)
  | 0, _ => none
  | n + 1, o =>
    if (oS o 18) = (0 : Int32) then
      jn (
        bd (M_readStatement o) fun (o16 : Ob) =>
        M_town_L57 k91 a1 n o16) fun j84 =>
      if (oS o 19) = (0 : Int32) then
        j84
      else
        gd (inb a1 8) <|
        if (ix (oA o 12) a1) ≤ (oS o 17) then
          k91 o
        else
          j84
    else
      k91 o
def M_town_L113 (k129 : Int32 → Ob → Option (Int32 × Ob)) : Nat → Ob → Int32 → Option (Int32 × Ob)
  | 0, _, _ => none
  | n + 1, o, x3 =>
    if (oS o 19) ≤ x3 then
      some ((oS o 19), o)
    else
      bd2 (M_comesTold o x3) fun (r22 : Int32) (o23 : Ob) =>
      if r22 = (0 : Int32) then
        k129 x3 o23
      else
        nm (x3 + (1 : Int32)) fun v25 =>
        M_town_L113 k129 n o23 v25
def M_town (o : Ob) (p1 : Int32) : Option (Int32 × Ob) :=
  nm (pS o 15 (0 : Int32)) fun o1 =>
  bd (M_wrongRow o1 p1) fun (r2 : Int32) =>
  bd (
    jn (
      some r2) fun j29 =>
    if r2 = (0 : Int32) then
      gd (inb p1 8) <|
      if (ix (oA o1 11) p1) = (0 : Int32) then
        j29
      else
        some (-12 : Int32)
    else
      j29) fun (s6 : Int32) =>
  if (0 : Int32) ≤ s6 then
    nm (pS o1 16 p1) fun o8 =>
    nm (pS o8 17 (0 : Int32)) fun o9 =>
    nm (pS o9 18 (0 : Int32)) fun o10 =>
    nm (pS o10 19 (0 : Int32)) fun o11 =>
    M_town_L57 (fun (o18 : Ob) =>
        if (oS o18 18) = (0 : Int32) then
          bd (M_think o18) fun (o20 : Ob) =>
          M_town_L113 (fun (x3_27 : Int32) (o28 : Ob) =>
              bd (M_again o28) fun (o29 : Ob) =>
              gd (inb x3_27 51) <|
              some (((-2000 : Int32) - (ix (oA o29 14) x3_27)), o29)) FU o20 (0 : Int32)
        else
          some (((-1000 : Int32) - (oS o18 17)), o18)) p1 FU o11
  else
    some (s6, o1)
def M_image (o : Ob) : Option (Int32 × Ob) :=
  nm (pS o 15 (0 : Int32)) fun o1 =>
  nm (pS o1 25 (1 : Int32)) fun o2 =>
  bd (M_carryAll o2 (18 : Int32) (1 : Int32)) fun (o3 : Ob) =>
  some ((oS o3 8), o3)
def M_restore (o : Ob) : Option (Int32 × Ob) :=
  nm (pS o 15 (0 : Int32)) fun o1 =>
  if (oS o1 25) = (0 : Int32) then
    some ((-3 : Int32), o1)
  else
    bd (M_carryAll o1 (18 : Int32) (0 : Int32)) fun (o3 : Ob) =>
    some ((oS o3 8), o3)
def M_one (o : Ob) (p1 : Int32) (p2 : Int32) : Option (Int32 × Ob) :=
  nm (pS o 15 (0 : Int32)) fun o1 =>
  bd (M_isOne o1 p1) fun (r2 : Int32) =>
  if r2 = (0 : Int32) then
    some ((-1 : Int32), o1)
  else
    bd (M_in o1 p2.toInt64 (0 : Int64) (4 : Int64)) fun (r4 : Int32) =>
    if r4 = (0 : Int32) then
      some ((-1 : Int32), o1)
    else
      if p2 = (0 : Int32) then
        gd (inb p1 7) <|
        some ((ix (oA o1 4) p1), o1)
      else
        if p2 = (1 : Int32) then
          gd (inb p1 7) <|
          some ((ix (oA o1 5) p1), o1)
        else
          if p2 = (2 : Int32) then
            gd (inb p1 7) <|
            some ((ix (oA o1 6) p1), o1)
          else
            if p2 = (3 : Int32) then
              bd (M_ownedBy o1 p1) fun (r13 : Int32) =>
              some (r13, o1)
            else
              bd (M_learnsOn o1 p1 ((oS o1 8) + (1 : Int32))) fun (r14 : Int32) =>
              some (r14, o1)
def M_orNone (o : Ob) (p0 : Int32) : Option Int32 :=
  if p0 = (9 : Int32) then
    some (-4 : Int32)
  else
    some p0
def M_thing (o : Ob) (p1 : Int32) (p2 : Int32) : Option (Int32 × Ob) :=
  nm (pS o 15 (0 : Int32)) fun o1 =>
  bd (M_isThing o1 p1) fun (r2 : Int32) =>
  if r2 = (0 : Int32) then
    some ((-1 : Int32), o1)
  else
    bd (M_in o1 p2.toInt64 (0 : Int64) (2 : Int64)) fun (r4 : Int32) =>
    if r4 = (0 : Int32) then
      some ((-1 : Int32), o1)
    else
      if p2 = (0 : Int32) then
        gd (inb p1 5) <|
        some ((ix (oA o1 1) p1), o1)
      else
        if p2 = (1 : Int32) then
          gd (inb p1 5) <|
          some ((ix (oA o1 2) p1), o1)
        else
          gd (inb p1 5) <|
          bd (M_orNone o1 (ix (oA o1 3) p1)) fun (r9 : Int32) =>
          some (r9, o1)
def M_story (o : Ob) (p1 : Int32) (p2 : Int32) (p3 : Int32) : Option (Int32 × Ob) :=
  nm (pS o 15 (0 : Int32)) fun o1 =>
  bd (M_isOne o1 p1) fun (r2 : Int32) =>
  if r2 = (0 : Int32) then
    some ((-1 : Int32), o1)
  else
    bd (M_isThing o1 p2) fun (r4 : Int32) =>
    if r4 = (0 : Int32) then
      some ((-1 : Int32), o1)
    else
      bd (M_in o1 p3.toInt64 (0 : Int64) (1 : Int64)) fun (r6 : Int32) =>
      if r6 = (0 : Int32) then
        some ((-1 : Int32), o1)
      else
        if p3 = (0 : Int32) then
          gd (inb (((5 : Int32) * p1) + p2) 35) <|
          some ((ix (oA o1 7) (((5 : Int32) * p1) + p2)), o1)
        else
          bd (M_storyOf o1 p1 p2) fun (r9 : Int32) =>
          some (r9, o1)
def M_wrongKept (o : Ob) (p1 : Int32) : Option Int32 :=
  bd (M_in o p1.toInt64 (0 : Int64) (7 : Int64)) fun (r1 : Int32) =>
  if r1 = (0 : Int32) then
    some (-1 : Int32)
  else
    gd (inb p1 8) <|
    if (ix (oA o 8) p1) = (0 : Int32) then
      some (-11 : Int32)
    else
      gd (inb p1 8) <|
      if (ix (oA o 8) p1) = (2 : Int32) then
        some (-12 : Int32)
      else
        some (0 : Int32)
def M_comes (o : Ob) (p1 : Int32) (p2 : Int32) : Option (Int32 × Ob) :=
  nm (pS o 15 (0 : Int32)) fun o1 =>
  bd (M_in o1 p1.toInt64 (0 : Int64) (7 : Int64)) fun (r2 : Int32) =>
  if r2 = (0 : Int32) then
    some ((-1 : Int32), o1)
  else
    bd (M_isCare o1 p2) fun (r4 : Int32) =>
    if r4 = (0 : Int32) then
      some ((-1 : Int32), o1)
    else
      bd (M_wrongKept o1 p1) fun (r6 : Int32) =>
      jn (
        bd (M_wrongKept o1 p1) fun (r13 : Int32) =>
        if (0 : Int32) ≤ r13 then
          some ((-2 : Int32), o1)
        else
          bd (M_wrongKept o1 p1) fun (r15 : Int32) =>
          some (r15, o1)) fun j43 =>
      if r6 < (0 : Int32) then
        j43
      else
        if (oS o1 3) = (7 : Int32) then
          j43
        else
          gd (inb p1 8) <|
          gd (inb p1 8) <|
          bd2 (M_oneComes o1 (ix (oA o1 9) p1) (ix (oA o1 10) p1) p2) fun (r11 : Int32) (o12 : Ob) =>
          some (((oS o12 3) - (1 : Int32)), o12)
def M_learns (o : Ob) (p1 : Int32) (p2 : Int32) (p3 : Int32) : Option (Int32 × Ob) :=
  nm (pS o 15 (0 : Int32)) fun o1 =>
  bd (M_isOne o1 p1) fun (r2 : Int32) =>
  if r2 = (0 : Int32) then
    some ((-1 : Int32), o1)
  else
    bd (M_isThing o1 p2) fun (r4 : Int32) =>
    if r4 = (0 : Int32) then
      some ((-1 : Int32), o1)
    else
      bd (M_in o1 p3.toInt64 (0 : Int64) (11 : Int64)) fun (r6 : Int32) =>
      if r6 = (0 : Int32) then
        some ((-1 : Int32), o1)
      else
        nm (((5 : Int32) * p1) + p2) fun v8 =>
        gd (inb v8 35) <|
        gd (inb v8 35) <|
        nm (pA o1 7 v8 ((ix (oA o1 7) v8) ^^^ (shl32 (1 : Int32) p3))) fun o11 =>
        gd (inb (((5 : Int32) * p1) + p2) 35) <|
        bd (M_hasBit o11 (ix (oA o11 7) (((5 : Int32) * p1) + p2)) p3) fun (r13 : Int32) =>
        if r13 = (0 : Int32) then
          some ((0 : Int32), o11)
        else
          some ((1 : Int32), o11)
def M_cares (o : Ob) (p1 : Int32) (p2 : Int32) : Option (Int32 × Ob) :=
  nm (pS o 15 (0 : Int32)) fun o1 =>
  bd (M_isOne o1 p1) fun (r2 : Int32) =>
  if r2 = (0 : Int32) then
    some ((-1 : Int32), o1)
  else
    bd (M_isCare o1 p2) fun (r4 : Int32) =>
    if r4 = (0 : Int32) then
      some ((-1 : Int32), o1)
    else
      gd (inb p1 7) <|
      nm (ix (oA o1 6) p1) fun v7 =>
      gd (inb p1 7) <|
      nm (pA o1 6 p1 p2) fun o9 =>
      some (v7, o9)
def M_gives (o : Ob) (p1 : Int32) (p2 : Int32) : Option (Int32 × Ob) :=
  nm (pS o 15 (0 : Int32)) fun o1 =>
  bd (M_isThing o1 p1) fun (r2 : Int32) =>
  if r2 = (0 : Int32) then
    some ((-1 : Int32), o1)
  else
    bd (M_isOne o1 p2) fun (r4 : Int32) =>
    jn (
      gd (inb p1 5) <|
      nm (ix (oA o1 3) p1) fun v8 =>
      gd (inb p1 5) <|
      nm (pA o1 3 p1 p2) fun o10 =>
      bd (M_orNone o10 v8) fun (r11 : Int32) =>
      some (r11, o10)) fun j28 =>
    if r4 = (0 : Int32) then
      if p2 = (9 : Int32) then
        j28
      else
        some ((-1 : Int32), o1)
    else
      j28
def M_past (o : Ob) (p1 : Int32) (p2 : Int32) : Option (Int32 × Ob) :=
  nm (pS o 15 (0 : Int32)) fun o1 =>
  bd (M_isThing o1 p1) fun (r2 : Int32) =>
  if r2 = (0 : Int32) then
    some ((-1 : Int32), o1)
  else
    bd (M_in o1 p2.toInt64 (0 : Int64) (4095 : Int64)) fun (r4 : Int32) =>
    if r4 = (0 : Int32) then
      some ((-1 : Int32), o1)
    else
      gd (inb p1 5) <|
      nm (ix (oA o1 1) p1) fun v7 =>
      gd (inb p1 5) <|
      nm (pA o1 1 p1 p2) fun o9 =>
      some (v7, o9)
def M_days (o : Ob) (p1 : Int32) : Option (Int32 × Ob) :=
  nm (pS o 15 (0 : Int32)) fun o1 =>
  bd (M_in o1 p1.toInt64 (1 : Int64) (60 : Int64)) fun (r2 : Int32) =>
  if r2 = (0 : Int32) then
    some ((-1 : Int32), o1)
  else
    if ((oS o1 8) + p1) ≤ (999 : Int32) then
      bd (M_goDays o1 p1) fun (o5 : Ob) =>
      bd (M_ownedBits o5) fun (r6 : Int32) =>
      bd (M_onesOf o5 r6) fun (r7 : Int32) =>
      some (r7, o5)
    else
      some ((-3 : Int32), o1)
def M_ownerThen (o : Ob) (p1 : Int32) (p2 : Int32) : Option (Int32 × Ob) :=
  nm (pS o 15 (0 : Int32)) fun o1 =>
  bd (M_isThing o1 p1) fun (r2 : Int32) =>
  if r2 = (0 : Int32) then
    some ((-1 : Int32), o1)
  else
    bd (M_in o1 p2.toInt64 (0 : Int64) (60 : Int64)) fun (r4 : Int32) =>
    if r4 = (0 : Int32) then
      some ((-1 : Int32), o1)
    else
      bd (M_think o1) fun (o6 : Ob) =>
      bd (M_goDays o6 p2) fun (o7 : Ob) =>
      gd (inb p1 5) <|
      nm (ix (oA o7 3) p1) fun v9 =>
      bd (M_again o7) fun (o10 : Ob) =>
      bd (M_orNone o10 v9) fun (r11 : Int32) =>
      some (r11, o10)
def M_storyThen (o : Ob) (p1 : Int32) (p2 : Int32) (p3 : Int32) : Option (Int32 × Ob) :=
  nm (pS o 15 (0 : Int32)) fun o1 =>
  bd (M_isOne o1 p1) fun (r2 : Int32) =>
  if r2 = (0 : Int32) then
    some ((-1 : Int32), o1)
  else
    bd (M_isThing o1 p2) fun (r4 : Int32) =>
    if r4 = (0 : Int32) then
      some ((-1 : Int32), o1)
    else
      bd (M_in o1 p3.toInt64 (0 : Int64) (60 : Int64)) fun (r6 : Int32) =>
      if r6 = (0 : Int32) then
        some ((-1 : Int32), o1)
      else
        bd (M_think o1) fun (o8 : Ob) =>
        bd (M_goDays o8 p3) fun (o9 : Ob) =>
        bd (M_storyOf o9 p1 p2) fun (r10 : Int32) =>
        bd (M_again o9) fun (o11 : Ob) =>
        some (r10, o11)
def M_ownsThen (o : Ob) (p1 : Int32) (p2 : Int32) (p3 : Int32) : Option (Int32 × Ob) :=
  nm (pS o 15 (0 : Int32)) fun o1 =>
  bd (M_isOne o1 p1) fun (r2 : Int32) =>
  if r2 = (0 : Int32) then
    some ((-1 : Int32), o1)
  else
    bd (M_in o1 p2.toInt64 (0 : Int64) (60 : Int64)) fun (r4 : Int32) =>
    if r4 = (0 : Int32) then
      some ((-1 : Int32), o1)
    else
      bd (M_in o1 p3.toInt64 (0 : Int64) (1 : Int64)) fun (r6 : Int32) =>
      if r6 = (0 : Int32) then
        some ((-1 : Int32), o1)
      else
        bd (M_think o1) fun (o8 : Ob) =>
        bd (M_goDays o8 p2) fun (o9 : Ob) =>
        bd (
          if p3 = (0 : Int32) then
            bd (M_ownedBy o9 p1) fun (r12 : Int32) =>
            some r12
          else
            bd (M_worthOf o9 p1) fun (r11 : Int32) =>
            some r11) fun (s13 : Int32) =>
        bd (M_again o9) fun (o14 : Ob) =>
        some (s13, o14)
def M_when_L32 (k71 : Int32 → Ob → Option (Int32 × Ob)) (a1 : Int32) (a2 : Int32) : Nat → Ob → Int32 → Int32 → Option (Int32 × Ob)
  | 0, _, _, _ => none
  | n + 1, o, x3, x4 =>
    if (60 : Int32) < x4 then
      k71 x3 o
    else
      if (0 : Int32) ≤ x3 then
        k71 x3 o
      else
        gd (inb a2 5) <|
        bd (
          if (ix (oA o 3) a2) = a1 then
            some x4
          else
            some (-4 : Int32)) fun (s11 : Int32) =>
        bd (M_dayOn o) fun (o12 : Ob) =>
        nm (x4 + (1 : Int32)) fun v13 =>
        M_when_L32 k71 a1 a2 n o12 s11 v13
def M_when (o : Ob) (p1 : Int32) (p2 : Int32) : Option (Int32 × Ob) :=
  nm (pS o 15 (0 : Int32)) fun o1 =>
  bd (M_isOne o1 p1) fun (r2 : Int32) =>
  if r2 = (0 : Int32) then
    some ((-1 : Int32), o1)
  else
    bd (M_isThing o1 p2) fun (r4 : Int32) =>
    if r4 = (0 : Int32) then
      some ((-1 : Int32), o1)
    else
      bd (M_think o1) fun (o6 : Ob) =>
      M_when_L32 (fun (x3_15 : Int32) (o16 : Ob) =>
          bd (M_again o16) fun (o17 : Ob) =>
          some (x3_15, o17)) p1 p2 FU o6 (-4 : Int32) (0 : Int32)
def M_loses_L31 (k76 : Int32 → Ob → Option (Int32 × Ob)) (a1 : Int32) (a3 : Int32) : Nat → Ob → Int32 → Int32 → Option (Int32 × Ob)
  | 0, _, _, _ => none
  | n + 1, o, x2, x4 =>
    if (60 : Int32) < x4 then
      k76 x2 o
    else
      if (0 : Int32) ≤ x2 then
        k76 x2 o
      else
        if a3 = (9 : Int32) then
          k76 x2 o
        else
          gd (inb a1 5) <|
          bd (
            if (ix (oA o 3) a1) = a3 then
              some (-4 : Int32)
            else
              some x4) fun (s12 : Int32) =>
          bd (M_dayOn o) fun (o13 : Ob) =>
          nm (x4 + (1 : Int32)) fun v14 =>
          M_loses_L31 k76 a1 a3 n o13 s12 v14
def M_loses (o : Ob) (p1 : Int32) : Option (Int32 × Ob) :=
  nm (pS o 15 (0 : Int32)) fun o1 =>
  bd (M_isThing o1 p1) fun (r2 : Int32) =>
  if r2 = (0 : Int32) then
    some ((-1 : Int32), o1)
  else
    gd (inb p1 5) <|
    nm (ix (oA o1 3) p1) fun v5 =>
    bd (M_think o1) fun (o6 : Ob) =>
    M_loses_L31 (fun (x2_16 : Int32) (o17 : Ob) =>
        bd (M_again o17) fun (o18 : Ob) =>
        some (x2_16, o18)) p1 v5 FU o6 (-4 : Int32) (0 : Int32)
def M_lookAfter_L50 (k130 : Int32 → Int32 → Ob → Option (Int32 × Ob)) (a1 : Int32) (a2 : Int32) (a3 : Int32) : Nat → Ob → Int32 → Int32 → Int32 → Option (Int32 × Ob)
  | 0, _, _, _, _ => none
  | n + 1, o, x4, x5, x6 =>
    if (6 : Int32) ≤ x6 then
      k130 x4 x5 o
    else
      bd (
        if x6 = (5 : Int32) then
          some (9 : Int32)
        else
          some x6) fun (s11 : Int32) =>
      gd (inb a1 7) <|
      nm (pA o 6 a1 s11) fun o13 =>
      bd (M_goDays o13 a2) fun (o14 : Ob) =>
      bd (M_worthOf o14 a1) fun (r15 : Int32) =>
      bd (M_again o14) fun (o16 : Ob) =>
      bd (
        if r15 ≤ x5 then
          some x4
        else
          some x6) fun (s18 : Int32) =>
      bd (
        if r15 ≤ x5 then
          some x5
        else
          some r15) fun (s20 : Int32) =>
      nm (x6 + (1 : Int32)) fun v21 =>
      M_lookAfter_L50 k130 a1 a2 a3 n o16 s18 s20 v21
def M_lookAfter (o : Ob) (p1 : Int32) (p2 : Int32) (p3 : Int32) : Option (Int32 × Ob) :=
  nm (pS o 15 (0 : Int32)) fun o1 =>
  bd (M_isOne o1 p1) fun (r2 : Int32) =>
  if r2 = (0 : Int32) then
    some ((-1 : Int32), o1)
  else
    bd (M_in o1 p2.toInt64 (0 : Int64) (60 : Int64)) fun (r4 : Int32) =>
    if r4 = (0 : Int32) then
      some ((-1 : Int32), o1)
    else
      bd (M_in o1 p3.toInt64 (0 : Int64) (1 : Int64)) fun (r6 : Int32) =>
      if r6 = (0 : Int32) then
        some ((-1 : Int32), o1)
      else
        bd (M_think o1) fun (o8 : Ob) =>
        M_lookAfter_L50 (fun (x4_25 : Int32) (x5_26 : Int32) (o27 : Ob) =>
            if p3 = (1 : Int32) then
              some (x5_26, o27)
            else
              if x4_25 = (5 : Int32) then
                some ((9 : Int32), o27)
              else
                some (x4_25, o27)) p1 p2 p3 FU o8 (0 : Int32) (-1 : Int32) (0 : Int32)
def M_mostOfOthers_L5 (o : Ob) (a1 : Int32) (a2 : Int32) : Nat → Int32 → Int32 → Option Int32
  | 0, _, _ => none
  | n + 1, x3, x4 =>
    if (oS o 3) ≤ x4 then
      some x3
    else
      bd (
        jn (
          some x3) fun j41 =>
        if x4 = a1 then
          j41
        else
          bd (M_storyOf o x4 a2) fun (r3 : Int32) =>
          if r3 ≤ x3 then
            j41
          else
            bd (M_storyOf o x4 a2) fun (r5 : Int32) =>
            some r5) fun (s6 : Int32) =>
      nm (x4 + (1 : Int32)) fun v7 =>
      M_mostOfOthers_L5 o a1 a2 n s6 v7
def M_mostOfOthers (o : Ob) (p1 : Int32) (p2 : Int32) : Option Int32 :=
  M_mostOfOthers_L5 o p1 p2 FU (0 : Int32) (0 : Int32)
def M_win_L44 (o : Ob) (a1 : Int32) (a2 : Int32) (a3 : Int32) : Nat → Int32 → Int32 → Option (Int32 × Ob)
  | 0, _, _ => none
  | n + 1, x4, x5 =>
    if (13 : Int32) ≤ x5 then
      some ((-4 : Int32), o)
    else
      gd (inb a2 5) <|
      bd (M_storyBy o a1 x4 (ix (oA o 1) a2)) fun (r11 : Int32) =>
      if r11 ≤ a3 then
        gd (inb a2 5) <|
        nm ((ix (oA o 1) a2) &&& (x4 ^^^ (-1 : Int32))) fun v14 =>
        if v14 = (0 : Int32) then
          some ((-4 : Int32), o)
        else
          nm (x4 ||| (v14 &&& (-v14))) fun v16 =>
          nm (x5 + (1 : Int32)) fun v17 =>
          M_win_L44 o a1 a2 a3 n v16 v17
      else
        some (x5, o)
def M_win (o : Ob) (p1 : Int32) (p2 : Int32) : Option (Int32 × Ob) :=
  nm (pS o 15 (0 : Int32)) fun o1 =>
  bd (M_isOne o1 p1) fun (r2 : Int32) =>
  if r2 = (0 : Int32) then
    some ((-1 : Int32), o1)
  else
    bd (M_isThing o1 p2) fun (r4 : Int32) =>
    if r4 = (0 : Int32) then
      some ((-1 : Int32), o1)
    else
      bd (M_mostOfOthers o1 p1 p2) fun (r6 : Int32) =>
      gd (inb (((5 : Int32) * p1) + p2) 35) <|
      nm (ix (oA o1 7) (((5 : Int32) * p1) + p2)) fun v8 =>
      M_win_L44 o1 p1 p2 r6 FU v8 (0 : Int32)
def M_ask_L36 (o : Ob) (a1 : Int32) (a2 : Int32) : Nat → Int32 → Int32 → Int32 → Option (Int32 × Ob)
  | 0, _, _, _ => none
  | n + 1, x3, x4, x5 =>
    if (oS o 3) ≤ x5 then
      some (x3, o)
    else
      bd (
        if x5 = a1 then
          some (-1 : Int32)
        else
          gd (inb (((5 : Int32) * a1) + a2) 35) <|
          gd (inb (((5 : Int32) * x5) + a2) 35) <|
          gd (inb a2 5) <|
          bd (M_storyBy o a1 ((ix (oA o 7) (((5 : Int32) * a1) + a2)) ||| (ix (oA o 7) (((5 : Int32) * x5) + a2))) (ix (oA o 1) a2)) fun (r12 : Int32) =>
          some r12) fun (s13 : Int32) =>
      bd (
        if s13 ≤ x4 then
          some x3
        else
          some x5) fun (s15 : Int32) =>
      bd (
        if s13 ≤ x4 then
          some x4
        else
          some s13) fun (s17 : Int32) =>
      nm (x5 + (1 : Int32)) fun v18 =>
      M_ask_L36 o a1 a2 n s15 s17 v18
def M_ask (o : Ob) (p1 : Int32) (p2 : Int32) : Option (Int32 × Ob) :=
  nm (pS o 15 (0 : Int32)) fun o1 =>
  bd (M_isOne o1 p1) fun (r2 : Int32) =>
  if r2 = (0 : Int32) then
    some ((-1 : Int32), o1)
  else
    bd (M_isThing o1 p2) fun (r4 : Int32) =>
    if r4 = (0 : Int32) then
      some ((-1 : Int32), o1)
    else
      bd (M_storyOf o1 p1 p2) fun (r6 : Int32) =>
      M_ask_L36 o1 p1 p2 FU (-4 : Int32) r6 (0 : Int32)
def M_layCare_L52 (k142 : Ob → Option Ob) (a1 : Int32) (a2 : Int32) (a3 : Int32) : Nat → Ob → Int32 → Option Ob
  | 0, _, _ => none
  | n + 1, o, x4 =>
    if (oS o 3) ≤ x4 then
      k142 o
    else
      if (5 : Int32) ≤ a2 then
        k142 o
      else
        bd (M_hasBit o a3 x4) fun (r11 : Int32) =>
        bd (
          if r11 = (0 : Int32) then
            bd (M_storyOf o x4 a2) fun (r13 : Int32) =>
            gd (inb (((128 : Int32) * (a2 + (1 : Int32))) + (a3 ||| (shl32 (1 : Int32) x4))) 768) <|
            some (r13 + (ix (oA o 19) (((128 : Int32) * (a2 + (1 : Int32))) + (a3 ||| (shl32 (1 : Int32) x4)))))
          else
            some (-1 : Int32)) fun (s15 : Int32) =>
        gd (inb a1 768) <|
        bd (
          if s15 ≤ (ix (oA o 19) a1) then
            gd (inb a1 768) <|
            some (ix (oA o 19) a1)
          else
            some s15) fun (s19 : Int32) =>
        gd (inb a1 768) <|
        nm (pA o 19 a1 s19) fun o21 =>
        nm (x4 + (1 : Int32)) fun v22 =>
        M_layCare_L52 k142 a1 a2 a3 n o21 v22
def M_layCare_L4 : Nat → Ob → Int32 → Option Ob
  | 0, _, _ => none
  | n + 1, o, x1 =>
    if x1 < (0 : Int32) then
      some o
    else
      nm (x1 / (128 : Int32)) fun v2 =>
      nm (rem32 x1 (128 : Int32)) fun v3 =>
      bd (
        if v2 = (5 : Int32) then
          some (0 : Int32)
        else
          gd (inb (((128 : Int32) * (v2 + (1 : Int32))) + v3) 768) <|
          some (ix (oA o 19) (((128 : Int32) * (v2 + (1 : Int32))) + v3))) fun (s6 : Int32) =>
      gd (inb x1 768) <|
      nm (pA o 19 x1 s6) fun o8 =>
      M_layCare_L52 (fun (o25 : Ob) =>
          nm (x1 + (-1 : Int32)) fun v26 =>
          M_layCare_L4 n o25 v26) x1 v2 v3 FU o8 (0 : Int32)
def M_layCare (o : Ob) : Option Ob :=
  M_layCare_L4 FU o (767 : Int32)
def M_carerOf_L2 (o : Ob) (a1 : Int32) (a2 : Int32) : Nat → Int32 → Option Int32
  | 0, _ => none
  | n + 1, x3 =>
    if (oS o 3) ≤ x3 then
      some (9 : Int32)
    else
      bd (M_hasBit o a2 x3) fun (r2 : Int32) =>
      jn (
        nm (x3 + (1 : Int32)) fun v8 =>
        M_carerOf_L2 o a1 a2 n v8) fun j60 =>
      if r2 = (0 : Int32) then
        bd (M_storyOf o x3 a1) fun (r4 : Int32) =>
        gd (inb (((128 : Int32) * (a1 + (1 : Int32))) + (a2 ||| (shl32 (1 : Int32) x3))) 768) <|
        gd (inb (((128 : Int32) * a1) + a2) 768) <|
        if (r4 + (ix (oA o 19) (((128 : Int32) * (a1 + (1 : Int32))) + (a2 ||| (shl32 (1 : Int32) x3))))) = (ix (oA o 19) (((128 : Int32) * a1) + a2)) then
          some x3
        else
          j60
      else
        j60
def M_carerOf (o : Ob) (p1 : Int32) (p2 : Int32) : Option Int32 :=
  M_carerOf_L2 o p1 p2 FU (0 : Int32)
def M_care_L33 (k69 : Int32 → Option (Int32 × Ob)) (o : Ob) (a1 : Int32) : Nat → Int32 → Int32 → Int32 → Option (Int32 × Ob)
  | 0, _, _, _ => none
  | n + 1, x2, x3, x4 =>
    if a1 < x4 then
      k69 x3
    else
      bd (M_carerOf o x4 x2) fun (r6 : Int32) =>
      bd (
        if r6 = (9 : Int32) then
          some (0 : Int32)
        else
          some (shl32 (1 : Int32) r6)) fun (s8 : Int32) =>
      nm (x2 ||| s8) fun v9 =>
      nm (x4 + (1 : Int32)) fun v10 =>
      M_care_L33 k69 o a1 n v9 r6 v10
def M_care (o : Ob) (p1 : Int32) : Option (Int32 × Ob) :=
  nm (pS o 15 (0 : Int32)) fun o1 =>
  bd (M_in o1 p1.toInt64 (-1 : Int64) (4 : Int64)) fun (r2 : Int32) =>
  if r2 = (0 : Int32) then
    some ((-1 : Int32), o1)
  else
    bd (M_layCare o1) fun (o4 : Ob) =>
    M_care_L33 (fun (x3_12 : Int32) =>
        if (0 : Int32) ≤ p1 then
          bd (M_orNone o4 x3_12) fun (r14 : Int32) =>
          some (r14, o4)
        else
          gd (inb (0 : Int32) 768) <|
          some ((ix (oA o4 19) (0 : Int32)), o4)) o4 p1 FU (0 : Int32) (9 : Int32) (0 : Int32)
def M_richestOne_L5 (o : Ob) : Nat → Int32 → Int32 → Option Int32
  | 0, _, _ => none
  | n + 1, x1, x2 =>
    if (oS o 3) ≤ x2 then
      some x1
    else
      bd (
        jn (
          some x2) fun j30 =>
        if x1 < (0 : Int32) then
          j30
        else
          bd (M_worthOf o x2) fun (r3 : Int32) =>
          bd (M_worthOf o x1) fun (r4 : Int32) =>
          if r3 ≤ r4 then
            some x1
          else
            j30) fun (s6 : Int32) =>
      nm (x2 + (1 : Int32)) fun v7 =>
      M_richestOne_L5 o n s6 v7
def M_richestOne (o : Ob) : Option Int32 :=
  M_richestOne_L5 o FU (-4 : Int32) (0 : Int32)
def M_longestStory_L7 (o : Ob) : Nat → Int32 → Int32 → Int32 → Option Int32
  | 0, _, _, _ => none
  | n + 1, x1, x2, x3 =>
    if ((5 : Int32) * (oS o 3)) ≤ x3 then
      some x1
    else
      bd (M_storyOf o (x3 / (5 : Int32)) (rem32 x3 (5 : Int32))) fun (r2 : Int32) =>
      bd (
        if r2 ≤ x2 then
          some x1
        else
          some (((10 : Int32) * (x3 / (5 : Int32))) + (rem32 x3 (5 : Int32)))) fun (s4 : Int32) =>
      bd (
        if r2 ≤ x2 then
          some x2
        else
          some r2) fun (s6 : Int32) =>
      nm (x3 + (1 : Int32)) fun v7 =>
      M_longestStory_L7 o n s4 s6 v7
def M_longestStory (o : Ob) : Option Int32 :=
  M_longestStory_L7 o FU (-4 : Int32) (0 : Int32) (0 : Int32)
def M_stillIn_L24 (k50 : Ob → Option (Int32 × Ob)) (a1 : Int32) (a3 : Int32) : Nat → Ob → Int32 → Option (Int32 × Ob)
  | 0, _, _ => none
  | n + 1, o, x4 =>
    if (5 : Int32) ≤ x4 then
      k50 o
    else
      gd (inb x4 5) <|
      gd (inb x4 5) <|
      nm (pA o 20 x4 (ix (oA o 3) x4)) fun o7 =>
      nm (x4 + (1 : Int32)) fun v8 =>
      M_stillIn_L24 k50 a1 a3 n o7 v8
def M_stillIn_L57 (k92 : Int32 → Option (Int32 × Ob)) (o : Ob) (a3 : Int32) : Nat → Int32 → Int32 → Option (Int32 × Ob)
  | 0, _, _ => none
  | n + 1, x1, x4 =>
    if (5 : Int32) ≤ x4 then
      k92 x1
    else
      gd (inb x4 5) <|
      gd (inb x4 5) <|
      bd (
        if (ix (oA o 3) x4) = (ix (oA o 20) x4) then
          some x1
        else
          some a3) fun (s15 : Int32) =>
      nm (x4 + (1 : Int32)) fun v16 =>
      M_stillIn_L57 k92 o a3 n s15 v16
def M_stillIn_L11 (k113 : Int32 → Ob → Option (Int32 × Ob)) : Nat → Ob → Int32 → Int32 → Int32 → Option (Int32 × Ob)
  | 0, _, _, _, _ => none
  | n + 1, o, x1, x2, x3 =>
    if (60 : Int32) < x3 then
      k113 x2 o
    else
      if (0 : Int32) ≤ x2 then
        k113 x2 o
      else
        M_stillIn_L24 (fun (o9 : Ob) =>
            bd (M_dayOn o9) fun (o10 : Ob) =>
            M_stillIn_L57 (fun (x1_17 : Int32) =>
                bd (
                  if (x3 - x1_17) = (10 : Int32) then
                    some x1_17
                  else
                    some (-4 : Int32)) fun (s19 : Int32) =>
                nm (x3 + (1 : Int32)) fun v20 =>
                M_stillIn_L11 k113 n o10 x1_17 s19 v20) o10 x3 FU x1 (0 : Int32)) x1 x3 FU o (0 : Int32)
def M_stillIn (o : Ob) : Option (Int32 × Ob) :=
  bd (M_think o) fun (o1 : Ob) =>
  M_stillIn_L11 (fun (x2_22 : Int32) (o23 : Ob) =>
      bd (M_again o23) fun (o24 : Ob) =>
      some (x2_22, o24)) FU o1 (0 : Int32) (-4 : Int32) (1 : Int32)
def M_richest (o : Ob) (p1 : Int32) : Option (Int32 × Ob) :=
  nm (pS o 15 (0 : Int32)) fun o1 =>
  if p1 = (0 : Int32) then
    bd (M_richestOne o1) fun (r3 : Int32) =>
    some (r3, o1)
  else
    if p1 = (1 : Int32) then
      bd (M_ownedBy o1 (9 : Int32)) fun (r5 : Int32) =>
      some (r5, o1)
    else
      if p1 = (2 : Int32) then
        bd (M_longestStory o1) fun (r7 : Int32) =>
        some (r7, o1)
      else
        if p1 = (3 : Int32) then
          bd2 (M_stillIn o1) fun (r9 : Int32) (o10 : Ob) =>
          some (r9, o10)
        else
          some ((-1 : Int32), o1)
def M_rivalTwos_L17 (k65 : Int32 → Option Int32) (o : Ob) (a1 : Int32) (a3 : Int32) : Nat → Int32 → Int32 → Option Int32
  | 0, _, _ => none
  | n + 1, x2, x4 =>
    if (oS o 3) ≤ x4 then
      k65 x2
    else
      bd (M_storyOf o a3 a1) fun (r4 : Int32) =>
      bd (
        jn (
          some (0 : Int32)) fun j56 =>
        if r4 ≤ (0 : Int32) then
          j56
        else
          bd (M_storyOf o a3 a1) fun (r6 : Int32) =>
          bd (M_storyOf o x4 a1) fun (r7 : Int32) =>
          if r6 = r7 then
            some (1 : Int32)
          else
            j56) fun (s9 : Int32) =>
      nm (x2 + s9) fun v10 =>
      nm (x4 + (1 : Int32)) fun v11 =>
      M_rivalTwos_L17 k65 o a1 a3 n v10 v11
def M_rivalTwos_L4 (o : Ob) (a1 : Int32) : Nat → Int32 → Int32 → Option Int32
  | 0, _, _ => none
  | n + 1, x2, x3 =>
    if (oS o 3) ≤ x3 then
      some x2
    else
      nm (x3 + (1 : Int32)) fun v2 =>
      M_rivalTwos_L17 (fun (x2_15 : Int32) =>
          nm (x3 + (1 : Int32)) fun v16 =>
          M_rivalTwos_L4 o a1 n x2_15 v16) o a1 x3 FU x2 v2
def M_rivalTwos (o : Ob) (p1 : Int32) : Option Int32 :=
  M_rivalTwos_L4 o p1 FU (0 : Int32) (0 : Int32)
def M_common_L50 (k100 : Int32 → Int32 → Int32 → Option (Int32 × Ob)) (o : Ob) (a1 : Int32) (a2 : Int32) : Nat → Int32 → Int32 → Int32 → Int32 → Option (Int32 × Ob)
  | 0, _, _, _, _ => none
  | n + 1, x3, x4, x5, x6 =>
    if (oS o 3) ≤ x6 then
      k100 x3 x4 x5
    else
      gd (inb (((5 : Int32) * x6) + a1) 35) <|
      nm (ix (oA o 7) (((5 : Int32) * x6) + a1)) fun v10 =>
      nm (x3 &&& v10) fun v11 =>
      nm (x5 ||| (x4 &&& v10)) fun v12 =>
      nm (x4 ||| v10) fun v13 =>
      nm (x6 + (1 : Int32)) fun v14 =>
      M_common_L50 k100 o a1 a2 n v11 v13 v12 v14
def M_common (o : Ob) (p1 : Int32) (p2 : Int32) : Option (Int32 × Ob) :=
  nm (pS o 15 (0 : Int32)) fun o1 =>
  bd (M_isThing o1 p1) fun (r2 : Int32) =>
  if r2 = (0 : Int32) then
    some ((-1 : Int32), o1)
  else
    bd (M_in o1 p2.toInt64 (0 : Int64) (3 : Int64)) fun (r4 : Int32) =>
    if r4 = (0 : Int32) then
      some ((-1 : Int32), o1)
    else
      bd (
        if (oS o1 3) = (0 : Int32) then
          some (0 : Int32)
        else
          some (4095 : Int32)) fun (s7 : Int32) =>
      M_common_L50 (fun (x3_15 : Int32) (x4_16 : Int32) (x5_17 : Int32) =>
          if p2 = (0 : Int32) then
            some (x3_15, o1)
          else
            if p2 = (1 : Int32) then
              some ((x4_16 &&& (x5_17 ^^^ (-1 : Int32))), o1)
            else
              if p2 = (2 : Int32) then
                gd (inb p1 5) <|
                some (((ix (oA o1 1) p1) &&& (x4_16 ^^^ (-1 : Int32))), o1)
              else
                bd (M_rivalTwos o1 p1) fun (r21 : Int32) =>
                some (r21, o1)) o1 p1 p2 FU s7 (0 : Int32) (0 : Int32) (0 : Int32)
def M_leastOf (o : Ob) (p0 : Int32) : Option Int64 :=
  if p0 = (0 : Int32) then
    some (-128 : Int64)
  else
    if p0 = (1 : Int32) then
      some (-32768 : Int64)
    else
      some (-2147483648 : Int64)
def M_isSkipped (o : Ob) (p1 : Int32) (p2 : Int32) : Option Int32 :=
  gd (inb (((100 : Int32) * p1) + p2) 800) <|
  gd (inb p1 8) <|
  bd (M_leastOf o (ix (oA o 11) p1)) fun (r3 : Int64) =>
  if (lg_cmp (ixL (oL o 13) (((100 : Int32) * p1) + p2)) r3) = (0 : Int32) then
    some (1 : Int32)
  else
    some (0 : Int32)
def M_isRow_L5 (k93 : Int32 → Ob → Option (Int32 × Ob)) (a1 : Int32) (a2 : Int32) : Nat → Ob → Int32 → Int32 → Option (Int32 × Ob)
  | 0, _, _, _ => none
  | n + 1, o, x3, x4 =>
    gd (inb a1 8) <|
    if (ix (oA o 12) a1) ≤ x4 then
      k93 x3 o
    else
      if x3 = (0 : Int32) then
        k93 x3 o
      else
        gd (inb a2 7) <|
        bd (
          if (ix (oA o 6) a2) = (9 : Int32) then
            some (0 : Int32)
          else
            gd (inb a2 7) <|
            bd (M_storyOf o a2 (ix (oA o 6) a2)) fun (r7 : Int32) =>
            some r7) fun (s8 : Int32) =>
        bd (M_isSkipped o a1 x4) fun (r9 : Int32) =>
        bd (
          jn (
            some (1 : Int32)) fun j77 =>
          if r9 = (0 : Int32) then
            gd (inb (((100 : Int32) * a1) + x4) 800) <|
            if (lg_cmp (ixL (oL o 13) (((100 : Int32) * a1) + x4)) s8.toInt64) = (0 : Int32) then
              j77
            else
              some (0 : Int32)
          else
            j77) fun (s13 : Int32) =>
        bd (M_dayOn o) fun (o14 : Ob) =>
        nm (x4 + (1 : Int32)) fun v15 =>
        M_isRow_L5 k93 a1 a2 n o14 s13 v15
def M_isRow (o : Ob) (p1 : Int32) (p2 : Int32) : Option (Int32 × Ob) :=
  M_isRow_L5 (fun (x3_19 : Int32) (o20 : Ob) =>
      bd (M_again o20) fun (o21 : Ob) =>
      gd (isZ x3_19) <|
      some (x3_19, o21)) p1 p2 FU o (1 : Int32) (0 : Int32)
def M_whatIs_L52 (a1 : Int32) (a2 : Int32) (a3 : Int32) : Nat → Ob → Int32 → Int32 → Option (Int32 × Ob)
  | 0, _, _, _ => none
  | n + 1, o, x5, x6 =>
    bd (
      if a3 = (0 : Int32) then
        some (8 : Int32)
      else
        some (10 : Int32)) fun (s11 : Int32) =>
    if s11 ≤ x6 then
      some (x5, o)
    else
      bd (
        if a3 = (0 : Int32) then
          some x6
        else
          gd (inb a2 7) <|
          some (ix (oA o 4) a2)) fun (s15 : Int32) =>
      gd (inb a2 7) <|
      nm (pA o 4 a2 s15) fun o17 =>
      bd (
        if a3 = (1 : Int32) then
          some x6
        else
          gd (inb a2 7) <|
          some (ix (oA o17 5) a2)) fun (s20 : Int32) =>
      gd (inb a2 7) <|
      nm (pA o17 5 a2 s20) fun o22 =>
      bd2 (M_isRow o22 a1 a2) fun (r23 : Int32) (o24 : Ob) =>
      bd (
        if r23 = (0 : Int32) then
          some (0 : Int32)
        else
          some (shl32 (1 : Int32) x6)) fun (s26 : Int32) =>
      nm (x5 ||| s26) fun v27 =>
      nm (x6 + (1 : Int32)) fun v28 =>
      M_whatIs_L52 a1 a2 a3 n o24 v27 v28
def M_whatIs (o : Ob) (p1 : Int32) (p2 : Int32) (p3 : Int32) : Option (Int32 × Ob) :=
  nm (pS o 15 (0 : Int32)) fun o1 =>
  bd (M_isOne o1 p2) fun (r2 : Int32) =>
  bd (
    jn (
      some (-1 : Int32)) fun j31 =>
    if r2 = (0 : Int32) then
      j31
    else
      bd (M_in o1 p3.toInt64 (0 : Int64) (1 : Int64)) fun (r4 : Int32) =>
      if r4 = (0 : Int32) then
        j31
      else
        bd (M_wrongRow o1 p1) fun (r6 : Int32) =>
        some r6) fun (s7 : Int32) =>
  if (0 : Int32) ≤ s7 then
    bd (M_think o1) fun (o9 : Ob) =>
    M_whatIs_L52 p1 p2 p3 FU o9 (0 : Int32) (0 : Int32)
  else
    some (s7, o1)
def M_isPast_L23 (o : Ob) (a1 : Int32) (a2 : Int32) (a3 : Int32) : Nat → Int32 → Int32 → Option Int32
  | 0, _, _ => none
  | n + 1, x4, x5 =>
    gd (inb a1 8) <|
    if (ix (oA o 12) a1) ≤ x5 then
      gd (isZ x4) <|
      some x4
    else
      if x4 = (0 : Int32) then
        gd (isZ x4) <|
        some x4
      else
        bd (M_isSkipped o a1 x5) fun (r9 : Int32) =>
        bd (
          jn (
            some (1 : Int32)) fun j84 =>
          if r9 = (0 : Int32) then
            gd (inb (((100 : Int32) * a1) + x5) 800) <|
            gd (inb (((5 : Int32) * x5) + a2) 35) <|
            bd (M_storyBy o x5 (ix (oA o 7) (((5 : Int32) * x5) + a2)) a3) fun (r13 : Int32) =>
            if (lg_cmp (ixL (oL o 13) (((100 : Int32) * a1) + x5)) r13.toInt64) = (0 : Int32) then
              j84
            else
              some (0 : Int32)
          else
            j84) fun (s15 : Int32) =>
        nm (x5 + (1 : Int32)) fun v16 =>
        M_isPast_L23 o a1 a2 a3 n s15 v16
def M_isPast (o : Ob) (p1 : Int32) (p2 : Int32) (p3 : Int32) : Option Int32 :=
  gd (inb p1 8) <|
  bd (
    if (oS o 3) < (ix (oA o 12) p1) then
      some (0 : Int32)
    else
      some (1 : Int32)) fun (s3 : Int32) =>
  M_isPast_L23 o p1 p2 p3 FU s3 (0 : Int32)
def M_whichPast_L57 (k103 : Int32 → Int32 → Int32 → Option (Int32 × Ob)) (o : Ob) (a1 : Int32) (a2 : Int32) (a3 : Int32) : Nat → Int32 → Int32 → Int32 → Int32 → Option (Int32 × Ob)
  | 0, _, _, _, _ => none
  | n + 1, x5, x6, x7, x8 =>
    if (4096 : Int32) ≤ x8 then
      k103 x5 x6 x7
    else
      bd (M_isPast o a1 a2 x8) fun (r10 : Int32) =>
      bd3 (
        if r10 = (0 : Int32) then
          some (x5, x6, x7)
        else
          nm (x5 + (1 : Int32)) fun v12 =>
          bd (
            if (0 : Int32) ≤ x6 then
              some x6
            else
              some x8) fun (s14 : Int32) =>
          some (v12, s14, x8)) fun (x5_15 : Int32) (x6_16 : Int32) (x7_17 : Int32) =>
      nm (x8 + (1 : Int32)) fun v18 =>
      M_whichPast_L57 k103 o a1 a2 a3 n x5_15 x6_16 x7_17 v18
def M_whichPast (o : Ob) (p1 : Int32) (p2 : Int32) (p3 : Int32) : Option (Int32 × Ob) :=
  nm (pS o 15 (0 : Int32)) fun o1 =>
  bd (M_isThing o1 p2) fun (r2 : Int32) =>
  bd (
    jn (
      some (-1 : Int32)) fun j32 =>
    if r2 = (0 : Int32) then
      j32
    else
      bd (M_in o1 p3.toInt64 (0 : Int64) (2 : Int64)) fun (r4 : Int32) =>
      if r4 = (0 : Int32) then
        j32
      else
        bd (M_wrongRow o1 p1) fun (r6 : Int32) =>
        some r6) fun (s7 : Int32) =>
  if (0 : Int32) ≤ s7 then
    M_whichPast_L57 (fun (x5_20 : Int32) (x6_21 : Int32) (x7_22 : Int32) =>
        if p3 = (0 : Int32) then
          some (x5_20, o1)
        else
          if p3 = (1 : Int32) then
            some (x6_21, o1)
          else
            some (x7_22, o1)) o1 p1 p2 p3 FU (0 : Int32) (-4 : Int32) (-4 : Int32) (0 : Int32)
  else
    some (s7, o1)
def M_two_L55 (k165 : Ob → Option (Int32 × Ob)) (a1 : Int32) (a2 : Int32) (a3 : Int32) (a4 : Int32) : Nat → Ob → Int32 → Option (Int32 × Ob)
  | 0, _, _ => none
  | n + 1, o, x5 =>
    if (4 : Int32) ≤ x5 then
      k165 o
    else
      bd (
        if (x5 / (2 : Int32)) = (1 : Int32) then
          some a3
        else
          gd (inb a1 7) <|
          some (ix (oA o 6) a1)) fun (s15 : Int32) =>
      gd (inb a1 7) <|
      nm (pA o 6 a1 s15) fun o17 =>
      bd (
        if (rem32 x5 (2 : Int32)) = (1 : Int32) then
          some a3
        else
          gd (inb a2 7) <|
          some (ix (oA o17 6) a2)) fun (s20 : Int32) =>
      gd (inb a2 7) <|
      nm (pA o17 6 a2 s20) fun o22 =>
      bd (M_goDays o22 a4) fun (o23 : Ob) =>
      bd (M_worthOf o23 a1) fun (r24 : Int32) =>
      gd (inb ((2 : Int32) * x5) 8) <|
      nm (pA o23 21 ((2 : Int32) * x5) (r24 - (x5 / (2 : Int32)))) fun o26 =>
      bd (M_worthOf o26 a2) fun (r27 : Int32) =>
      gd (inb (((2 : Int32) * x5) + (1 : Int32)) 8) <|
      nm (pA o26 21 (((2 : Int32) * x5) + (1 : Int32)) (r27 - (rem32 x5 (2 : Int32)))) fun o29 =>
      bd (M_again o29) fun (o30 : Ob) =>
      nm (x5 + (1 : Int32)) fun v31 =>
      M_two_L55 k165 a1 a2 a3 a4 n o30 v31
def M_two_L168 (k250 : Int32 → Option (Int32 × Ob)) (o : Ob) : Nat → Int32 → Option (Int32 × Ob)
  | 0, _ => none
  | n + 1, x5 =>
    if (4 : Int32) ≤ x5 then
      some ((-4 : Int32), o)
    else
      nm (((2 : Int32) * ((1 : Int32) - (x5 / (2 : Int32)))) + (rem32 x5 (2 : Int32))) fun v38 =>
      nm ((((2 : Int32) * (x5 / (2 : Int32))) + (1 : Int32)) - (rem32 x5 (2 : Int32))) fun v39 =>
      gd (inb ((2 : Int32) * x5) 8) <|
      gd (inb ((2 : Int32) * v38) 8) <|
      jn (
        nm (x5 + (1 : Int32)) fun v46 =>
        M_two_L168 k250 o n v46) fun j263 =>
      if (ix (oA o 21) ((2 : Int32) * x5)) < (ix (oA o 21) ((2 : Int32) * v38)) then
        j263
      else
        gd (inb (((2 : Int32) * x5) + (1 : Int32)) 8) <|
        gd (inb (((2 : Int32) * v39) + (1 : Int32)) 8) <|
        if (ix (oA o 21) (((2 : Int32) * x5) + (1 : Int32))) < (ix (oA o 21) (((2 : Int32) * v39) + (1 : Int32))) then
          j263
        else
          k250 x5
def M_two (o : Ob) (p1 : Int32) (p2 : Int32) (p3 : Int32) (p4 : Int32) : Option (Int32 × Ob) :=
  nm (pS o 15 (0 : Int32)) fun o1 =>
  bd (M_isOne o1 p1) fun (r2 : Int32) =>
  if r2 = (0 : Int32) then
    some ((-1 : Int32), o1)
  else
    bd (M_isOne o1 p2) fun (r4 : Int32) =>
    if r4 = (0 : Int32) then
      some ((-1 : Int32), o1)
    else
      if p1 = p2 then
        some ((-1 : Int32), o1)
      else
        bd (M_isThing o1 p3) fun (r7 : Int32) =>
        if r7 = (0 : Int32) then
          some ((-1 : Int32), o1)
        else
          bd (M_in o1 p4.toInt64 (1 : Int64) (30 : Int64)) fun (r9 : Int32) =>
          if r9 = (0 : Int32) then
            some ((-1 : Int32), o1)
          else
            bd (M_think o1) fun (o11 : Ob) =>
            M_two_L55 (fun (o36 : Ob) =>
                M_two_L168 (fun (x5_47 : Int32) =>
                    some ((((10 : Int32) * (x5_47 / (2 : Int32))) + (rem32 x5_47 (2 : Int32))), o36)) o36 FU (0 : Int32)) p1 p2 p3 p4 FU o11 (0 : Int32)
def M_divisor_L6 (o : Ob) : Nat → Int64 → Int64 → Option Int64
  | 0, _, _ => none
  | n + 1, x4, x6 =>
    if (lg_cmp x6 (0 : Int64)) = (0 : Int32) then
      some x4
    else
      gd (!(x6 == 0)) <|
      nm (rem64 x4 x6) fun v3 =>
      M_divisor_L6 o n x6 v3
def M_divisor (o : Ob) (p0 : Int64) (p2 : Int64) : Option Int64 :=
  M_divisor_L6 o FU p0 p2
def M_partOf (o : Ob) (p0 : Int64) (p2 : Int64) (p4 : Int32) : Option Int64 :=
  if (lg_cmp p0 (0 : Int64)) = (0 : Int32) then
    some p4.toInt64
  else
    bd (M_divisor o p0 p2) fun (r2 : Int64) =>
    if p4 = (0 : Int32) then
      gd (!(r2 == 0)) <|
      some (p0 / r2)
    else
      gd (!(r2 == 0)) <|
      some (p2 / r2)
def M_floods_L71 (k91 : Int64 → Option (Int64 × Ob)) (o : Ob) (a1 : Int32) (a2 : Int32) (a3 : Int32) (a4 : Int32) (a5 : Int32) (a6 : Int64) : Nat → Int64 → Int32 → Option (Int64 × Ob)
  | 0, _, _ => none
  | n + 1, x8, x10 =>
    if a3 ≤ x10 then
      k91 x8
    else
      nm (x8 * a4.toInt64) fun v13 =>
      nm (x10 + (1 : Int32)) fun v14 =>
      M_floods_L71 k91 o a1 a2 a3 a4 a5 a6 n v13 v14
def M_floods_L145 (k191 : Ob → Option (Int64 × Ob)) (a1 : Int32) (a2 : Int32) (a3 : Int32) (a4 : Int32) (a5 : Int32) (a6 : Int64) (a8 : Int64) (a10 : Int32) (a11 : Int64) (a13 : Int32) : Nat → Ob → Int32 → Option (Int64 × Ob)
  | 0, _, _ => none
  | n + 1, o, x14 =>
    if ((5 : Int32) * (oS o 3)) ≤ x14 then
      k191 o
    else
      bd (M_hasBit o a10 a13) fun (r24 : Int32) =>
      if r24 = (0 : Int32) then
        k191 o
      else
        gd (inb x14 35) <|
        gd (inb x14 35) <|
        gd (inb x14 35) <|
        nm (pA o 7 x14 ((ix (oA o 7) x14) &&& ((ix (oA o 7) x14) - (1 : Int32)))) fun o29 =>
        nm (x14 + (1 : Int32)) fun v30 =>
        M_floods_L145 k191 a1 a2 a3 a4 a5 a6 a8 a10 a11 a13 n o29 v30
def M_floods_L112 (k201 : Int64 → Ob → Option (Int64 × Ob)) (a1 : Int32) (a2 : Int32) (a3 : Int32) (a4 : Int32) (a5 : Int32) (a6 : Int64) (a8 : Int64) (a10 : Int32) : Nat → Ob → Int64 → Int32 → Option (Int64 × Ob)
  | 0, _, _, _ => none
  | n + 1, o, x11, x13 =>
    if a3 ≤ x13 then
      k201 x11 o
    else
      bd (M_hasBit o a10 x13) fun (r19 : Int32) =>
      bd (
        if r19 = (0 : Int32) then
          some ((a4 - (1 : Int32)).toInt64)
        else
          some (1 : Int64)) fun (s21 : Int64) =>
      nm (x11 * s21) fun v22 =>
      M_floods_L145 (fun (o32 : Ob) =>
          bd (M_dayOn o32) fun (o33 : Ob) =>
          nm (x13 + (1 : Int32)) fun v34 =>
          M_floods_L112 k201 a1 a2 a3 a4 a5 a6 a8 a10 n o33 v22 v34) a1 a2 a3 a4 a5 a6 a8 a10 v22 x13 FU o (0 : Int32)
def M_floods_L98 (k232 : Int64 → Ob → Option (Int64 × Ob)) (a1 : Int32) (a2 : Int32) (a3 : Int32) (a4 : Int32) (a5 : Int32) (a8 : Int64) : Nat → Ob → Int64 → Int32 → Option (Int64 × Ob)
  | 0, _, _, _ => none
  | n + 1, o, x6, x10 =>
    if (shl32 (1 : Int32) a3) ≤ x10 then
      k232 x6 o
    else
      M_floods_L112 (fun (x11_37 : Int64) (o38 : Ob) =>
          gd (inb a2 5) <|
          bd (
            if (ix (oA o38 3) a2) = a1 then
              some x11_37
            else
              some (0 : Int64)) fun (s41 : Int64) =>
          nm (x6 + s41) fun v42 =>
          bd (M_again o38) fun (o43 : Ob) =>
          nm (x10 + (1 : Int32)) fun v44 =>
          M_floods_L98 k232 a1 a2 a3 a4 a5 a8 n o43 v42 v44) a1 a2 a3 a4 a5 x6 a8 x10 FU o (1 : Int64) (0 : Int32)
def M_floods (o : Ob) (p1 : Int32) (p2 : Int32) (p3 : Int32) (p4 : Int32) (p5 : Int32) : Option (Int64 × Ob) :=
  nm (pS o 15 (0 : Int32)) fun o1 =>
  bd (M_isOne o1 p1) fun (r2 : Int32) =>
  if r2 = (0 : Int32) then
    some ((1000000001 : Int64), o1)
  else
    bd (M_isThing o1 p2) fun (r4 : Int32) =>
    if r4 = (0 : Int32) then
      some ((1000000001 : Int64), o1)
    else
      bd (M_in o1 p3.toInt64 (0 : Int64) (7 : Int64)) fun (r6 : Int32) =>
      if r6 = (0 : Int32) then
        some ((1000000001 : Int64), o1)
      else
        bd (M_in o1 p4.toInt64 (2 : Int64) (20 : Int64)) fun (r8 : Int32) =>
        if r8 = (0 : Int32) then
          some ((1000000001 : Int64), o1)
        else
          bd (M_in o1 p5.toInt64 (0 : Int64) (1 : Int64)) fun (r10 : Int32) =>
          if r10 = (0 : Int32) then
            some ((1000000001 : Int64), o1)
          else
            M_floods_L71 (fun (x8_15 : Int64) =>
                bd (M_think o1) fun (o16 : Ob) =>
                M_floods_L98 (fun (x6_46 : Int64) (o47 : Ob) =>
                    bd (M_partOf o47 x6_46 x8_15 p5) fun (r48 : Int64) =>
                    some (r48, o47)) p1 p2 p3 p4 p5 x8_15 FU o16 (0 : Int64) (0 : Int32)) o1 p1 p2 p3 p4 p5 (0 : Int64) FU (1 : Int64) (0 : Int32)
def M_allWorth_L4 (o : Ob) : Nat → Int32 → Int32 → Option Int32
  | 0, _, _ => none
  | n + 1, x1, x2 =>
    if (5 : Int32) ≤ x2 then
      some x1
    else
      gd (inb x2 5) <|
      nm (x1 + (ix (oA o 2) x2)) fun v3 =>
      nm (x2 + (1 : Int32)) fun v4 =>
      M_allWorth_L4 o n v3 v4
def M_allWorth (o : Ob) : Option Int32 :=
  M_allWorth_L4 o FU (0 : Int32) (0 : Int32)
def M_share (o : Ob) (p1 : Int32) (p2 : Int32) : Option (Int64 × Ob) :=
  nm (pS o 15 (0 : Int32)) fun o1 =>
  bd (M_isOne o1 p1) fun (r2 : Int32) =>
  if r2 = (0 : Int32) then
    some ((1000000001 : Int64), o1)
  else
    bd (M_in o1 p2.toInt64 (0 : Int64) (1 : Int64)) fun (r4 : Int32) =>
    if r4 = (0 : Int32) then
      some ((1000000001 : Int64), o1)
    else
      bd (M_worthOf o1 p1) fun (r6 : Int32) =>
      bd (M_allWorth o1) fun (r7 : Int32) =>
      bd (M_partOf o1 r6.toInt64 r7.toInt64 p2) fun (r8 : Int64) =>
      some (r8, o1)
def M_forged_L19 (o : Ob) (a1 : Int32) : Nat → Int32 → Option (Int32 × Ob)
  | 0, _ => none
  | n + 1, x3 =>
    gd (inb a1 8) <|
    if (ix (oA o 12) a1) ≤ x3 then
      some ((-4 : Int32), o)
    else
      if (5 : Int32) ≤ x3 then
        some (x3, o)
      else
        gd (inb (((100 : Int32) * a1) + x3) 800) <|
        gd (inb x3 5) <|
        if (lg_cmp (ixL (oL o 13) (((100 : Int32) * a1) + x3)) ((ix (oA o 3) x3).toInt64)) = (0 : Int32) then
          nm (x3 + (1 : Int32)) fun v10 =>
          M_forged_L19 o a1 n v10
        else
          some (x3, o)
def M_forged (o : Ob) (p1 : Int32) : Option (Int32 × Ob) :=
  nm (pS o 15 (0 : Int32)) fun o1 =>
  bd (M_wrongRow o1 p1) fun (r2 : Int32) =>
  if (0 : Int32) ≤ r2 then
    M_forged_L19 o1 p1 FU (0 : Int32)
  else
    some (r2, o1)
def M_judge_L40 (k110 : Int32 → Ob → Option (Int32 × Ob)) (a1 : Int32) (a2 : Int32) : Nat → Ob → Int32 → Int32 → Option (Int32 × Ob)
  | 0, _, _, _ => none
  | n + 1, o, x4, x5 =>
    gd (inb a1 8) <|
    if (ix (oA o 12) a1) ≤ x5 then
      k110 x4 o
    else
      if (0 : Int32) ≤ x4 then
        k110 x4 o
      else
        bd (M_isSkipped o a1 x5) fun (r11 : Int32) =>
        bd (
          jn (
            some (-4 : Int32)) fun j96 =>
          if r11 = (0 : Int32) then
            gd (inb (((100 : Int32) * a1) + x5) 800) <|
            bd (M_ownedBy o a2) fun (r14 : Int32) =>
            bd (M_onesOf o r14) fun (r15 : Int32) =>
            if (lg_cmp (ixL (oL o 13) (((100 : Int32) * a1) + x5)) r15.toInt64) = (0 : Int32) then
              j96
            else
              some x5
          else
            j96) fun (s17 : Int32) =>
        bd (M_dayOn o) fun (o18 : Ob) =>
        nm (x5 + (1 : Int32)) fun v19 =>
        M_judge_L40 k110 a1 a2 n o18 s17 v19
def M_judge (o : Ob) (p1 : Int32) (p2 : Int32) : Option (Int32 × Ob) :=
  nm (pS o 15 (0 : Int32)) fun o1 =>
  bd (M_isOne o1 p2) fun (r2 : Int32) =>
  bd (
    if r2 = (0 : Int32) then
      some (-1 : Int32)
    else
      bd (M_wrongRow o1 p1) fun (r4 : Int32) =>
      some r4) fun (s5 : Int32) =>
  if (0 : Int32) ≤ s5 then
    bd (M_think o1) fun (o7 : Ob) =>
    M_judge_L40 (fun (x4_24 : Int32) (o25 : Ob) =>
        bd (M_again o25) fun (o26 : Ob) =>
        some (x4_24, o26)) p1 p2 FU o7 (-4 : Int32) (0 : Int32)
  else
    some (s5, o1)
def M_drawBelow (o : Ob) (p1 : Int32) : Option (Int32 × Ob) :=
  nm (pS o 32 (((oS o 32) * (1103515245 : Int32)) + (12345 : Int32))) fun o1 =>
  gd (!(p1 == 0)) <|
  some ((rem32 (((oS o1 32) &&& (2147483647 : Int32)) / (65536 : Int32)) p1), o1)
def M_ownedAnew_L4 (o : Ob) : Nat → Int32 → Int32 → Option Int32
  | 0, _, _ => none
  | n + 1, x1, x2 =>
    if (5 : Int32) ≤ x2 then
      some x1
    else
      gd (inb x2 5) <|
      bd (
        jn (
          some (0 : Int32)) fun j40 =>
        if (ix (oA o 3) x2) = (9 : Int32) then
          j40
        else
          gd (inb x2 5) <|
          gd (inb x2 5) <|
          if (ix (oA o 3) x2) = (ix (oA o 20) x2) then
            j40
          else
            some (1 : Int32)) fun (s7 : Int32) =>
      nm (x1 + s7) fun v8 =>
      nm (x2 + (1 : Int32)) fun v9 =>
      M_ownedAnew_L4 o n v8 v9
def M_ownedAnew (o : Ob) : Option Int32 :=
  M_ownedAnew_L4 o FU (0 : Int32) (0 : Int32)
def M_years_L44 (k70 : Ob → Option (Int32 × Ob)) (a1 : Int32) (a3 : Int32) (a4 : Int32) : Nat → Ob → Int32 → Option (Int32 × Ob)
  | 0, _, _ => none
  | n + 1, o, x5 =>
    if (5 : Int32) ≤ x5 then
      k70 o
    else
      gd (inb x5 5) <|
      gd (inb x5 5) <|
      nm (pA o 20 x5 (ix (oA o 3) x5)) fun o11 =>
      nm (x5 + (1 : Int32)) fun v12 =>
      M_years_L44 k70 a1 a3 a4 n o11 v12
def M_years_L82 (k108 : Ob → Option (Int32 × Ob)) (a1 : Int32) (a3 : Int32) (a4 : Int32) (a5 : Int32) : Nat → Ob → Int32 → Option (Int32 × Ob)
  | 0, _, _ => none
  | n + 1, o, x6 =>
    if (5 : Int32) ≤ x6 then
      k108 o
    else
      bd2 (M_drawBelow o (4096 : Int32)) fun (r16 : Int32) (o17 : Ob) =>
      gd (inb x6 5) <|
      nm (pA o17 1 x6 r16) fun o19 =>
      nm (x6 + (1 : Int32)) fun v20 =>
      M_years_L82 k108 a1 a3 a4 a5 n o19 v20
def M_years_L111 (k138 : Ob → Option (Int32 × Ob)) (a1 : Int32) (a3 : Int32) (a4 : Int32) (a5 : Int32) : Nat → Ob → Int32 → Option (Int32 × Ob)
  | 0, _, _ => none
  | n + 1, o, x6 =>
    if (oS o 3) ≤ x6 then
      k138 o
    else
      bd2 (M_drawBelow o (5 : Int32)) fun (r24 : Int32) (o25 : Ob) =>
      gd (inb x6 7) <|
      nm (pA o25 6 x6 r24) fun o27 =>
      nm (x6 + (1 : Int32)) fun v28 =>
      M_years_L111 k138 a1 a3 a4 a5 n o27 v28
def M_years_L73 (a1 : Int32) (a3 : Int32) : Nat → Ob → Int32 → Int32 → Option (Int32 × Ob)
  | 0, _, _, _ => none
  | n + 1, o, x4, x5 =>
    if a1 ≤ x5 then
      some (x4, o)
    else
      M_years_L82 (fun (o22 : Ob) =>
          M_years_L111 (fun (o30 : Ob) =>
              bd (M_goDays o30 (8 : Int32)) fun (o31 : Ob) =>
              bd (
                if a3 = (0 : Int32) then
                  bd (M_ownedBits o31) fun (r34 : Int32) =>
                  bd (M_onesOf o31 r34) fun (r35 : Int32) =>
                  some r35
                else
                  bd (M_ownedAnew o31) fun (r33 : Int32) =>
                  some r33) fun (s36 : Int32) =>
              nm (x4 + s36) fun v37 =>
              bd (M_again o31) fun (o38 : Ob) =>
              nm (x5 + (1 : Int32)) fun v39 =>
              M_years_L73 a1 a3 n o38 v37 v39) a1 a3 x4 x5 FU o22 (0 : Int32)) a1 a3 x4 x5 FU o (0 : Int32)
def M_years (o : Ob) (p1 : Int32) (p2 : Int32) (p3 : Int32) : Option (Int32 × Ob) :=
  nm (pS o 15 (0 : Int32)) fun o1 =>
  bd (M_in o1 p1.toInt64 (1 : Int64) (20 : Int64)) fun (r2 : Int32) =>
  if r2 = (0 : Int32) then
    some ((-1 : Int32), o1)
  else
    bd (M_in o1 p3.toInt64 (0 : Int64) (1 : Int64)) fun (r4 : Int32) =>
    if r4 = (0 : Int32) then
      some ((-1 : Int32), o1)
    else
      nm (pS o1 32 p2) fun o6 =>
      bd (M_think o6) fun (o7 : Ob) =>
      M_years_L44 (fun (o13 : Ob) =>
          M_years_L73 p1 p3 FU o13 (0 : Int32) (0 : Int32)) p1 p3 (0 : Int32) FU o7 (0 : Int32)
def M_allKnown_L4 (o : Ob) : Nat → Int32 → Int32 → Option Int32
  | 0, _, _ => none
  | n + 1, x1, x2 =>
    if ((5 : Int32) * (oS o 3)) ≤ x2 then
      some x1
    else
      gd (inb x2 35) <|
      bd (M_onesOf o (ix (oA o 7) x2)) fun (r3 : Int32) =>
      nm (x1 + r3) fun v4 =>
      nm (x2 + (1 : Int32)) fun v5 =>
      M_allKnown_L4 o n v4 v5
def M_allKnown (o : Ob) : Option Int32 :=
  M_allKnown_L4 o FU (0 : Int32) (0 : Int32)
def M_count (o : Ob) (p1 : Int32) : Option (Int32 × Ob) :=
  nm (pS o 15 (0 : Int32)) fun o1 =>
  if p1 = (0 : Int32) then
    some ((oS o1 3), o1)
  else
    if p1 = (1 : Int32) then
      some ((oS o1 8), o1)
    else
      if p1 = (2 : Int32) then
        bd (M_ownedBits o1) fun (r5 : Int32) =>
        some (r5, o1)
      else
        if p1 = (3 : Int32) then
          bd (M_allWorth o1) fun (r7 : Int32) =>
          some (r7, o1)
        else
          if p1 = (4 : Int32) then
            bd (M_allKnown o1) fun (r9 : Int32) =>
            some (r9, o1)
          else
            some ((-1 : Int32), o1)
def M_keep (o : Ob) (p1 : Int32) (p2 : Int32) (p3 : Int32) (p4 : Int32) : Option (Int32 × Ob) :=
  nm (pS o 15 (0 : Int32)) fun o1 =>
  bd (M_in o1 p1.toInt64 (0 : Int64) (7 : Int64)) fun (r2 : Int32) =>
  if r2 = (0 : Int32) then
    some ((-1 : Int32), o1)
  else
    bd (M_in o1 p2.toInt64 (0 : Int64) (1 : Int64)) fun (r4 : Int32) =>
    if r4 = (0 : Int32) then
      some ((-1 : Int32), o1)
    else
      jn (
        gd (inb p1 8) <|
        nm (pA o1 8 p1 p2) fun o12 =>
        bd (
          if p2 = (1 : Int32) then
            some p3
          else
            some (0 : Int32)) fun (s14 : Int32) =>
        gd (inb p1 8) <|
        nm (pA o12 9 p1 s14) fun o16 =>
        bd (
          if p2 = (1 : Int32) then
            some p4
          else
            some (0 : Int32)) fun (s18 : Int32) =>
        gd (inb p1 8) <|
        nm (pA o16 10 p1 s18) fun o20 =>
        some ((0 : Int32), o20)) fun j59 =>
      if p2 = (1 : Int32) then
        bd (M_in o1 p3.toInt64 (0 : Int64) (7 : Int64)) fun (r7 : Int32) =>
        if r7 = (0 : Int32) then
          some ((-1 : Int32), o1)
        else
          bd (M_in o1 p4.toInt64 (0 : Int64) (9 : Int64)) fun (r9 : Int32) =>
          if r9 = (0 : Int32) then
            some ((-1 : Int32), o1)
          else
            j59
      else
        j59
def M_narrowed (o : Ob) (p0 : Int32) (p1 : Int32) : Option Int64 :=
  if p1 = (0 : Int32) then
    some p0.toInt8.toInt32.toInt64
  else
    if p1 = (1 : Int32) then
      some p0.toInt16.toInt32.toInt64
    else
      some p0.toInt64
def M_row_L68 (a1 : Int32) : Nat → Ob → Int32 → Option (Int32 × Ob)
  | 0, _, _ => none
  | n + 1, o, x4 =>
    if (100 : Int32) ≤ x4 then
      some ((0 : Int32), o)
    else
      gd (inb (((100 : Int32) * a1) + x4) 800) <|
      nm (pL o 13 (((100 : Int32) * a1) + x4) (0 : Int64)) fun o16 =>
      nm (x4 + (1 : Int32)) fun v17 =>
      M_row_L68 a1 n o16 v17
def M_row (o : Ob) (p1 : Int32) (p2 : Int32) (p3 : Int32) : Option (Int32 × Ob) :=
  nm (pS o 15 (0 : Int32)) fun o1 =>
  bd (M_in o1 p1.toInt64 (0 : Int64) (7 : Int64)) fun (r2 : Int32) =>
  if r2 = (0 : Int32) then
    some ((-1 : Int32), o1)
  else
    bd (M_in o1 p2.toInt64 (0 : Int64) (2 : Int64)) fun (r4 : Int32) =>
    if r4 = (0 : Int32) then
      some ((-1 : Int32), o1)
    else
      if p3 ≤ (100 : Int32) then
        if (0 : Int32) ≤ p3 then
          gd (inb p1 8) <|
          nm (pA o1 8 p1 (2 : Int32)) fun o9 =>
          gd (inb p1 8) <|
          nm (pA o9 11 p1 p2) fun o11 =>
          gd (inb p1 8) <|
          nm (pA o11 12 p1 p3) fun o13 =>
          M_row_L68 p1 FU o13 (0 : Int32)
        else
          some ((-14 : Int32), o1)
      else
        some ((-1 : Int32), o1)
def M_put (o : Ob) (p1 : Int32) (p2 : Int32) (p3 : Int32) : Option (Int32 × Ob) :=
  nm (pS o 15 (0 : Int32)) fun o1 =>
  bd (M_wrongRow o1 p1) fun (r2 : Int32) =>
  if (0 : Int32) ≤ r2 then
    gd (inb p1 8) <|
    bd (M_in o1 p2.toInt64 (0 : Int64) (((ix (oA o1 12) p1) - (1 : Int32)).toInt64)) fun (r5 : Int32) =>
    if r5 = (0 : Int32) then
      some ((-13 : Int32), o1)
    else
      gd (inb p1 8) <|
      bd (M_narrowed o1 p3 (ix (oA o1 11) p1)) fun (r8 : Int64) =>
      gd (inb (((100 : Int32) * p1) + p2) 800) <|
      nm (pL o1 13 (((100 : Int32) * p1) + p2) r8) fun o10 =>
      some ((0 : Int32), o10)
  else
    some (r2, o1)
def M_element (o : Ob) (p1 : Int32) (p2 : Int32) : Option (Int64 × Ob) :=
  bd (M_wrongRow o p1) fun (r1 : Int32) =>
  bd (
    if r1 = (-1 : Int32) then
      some (1 : Int32)
    else
      jn (
        some (2 : Int32)) fun j38 =>
      if r1 < (0 : Int32) then
        j38
      else
        gd (inb p1 8) <|
        bd (M_in o p2.toInt64 (0 : Int64) (((ix (oA o 12) p1) - (1 : Int32)).toInt64)) fun (r5 : Int32) =>
        if r5 = (0 : Int32) then
          j38
        else
          some (0 : Int32)) fun (s7 : Int32) =>
  nm (pS o 15 s7) fun o8 =>
  if (oS o8 15) ≤ (0 : Int32) then
    gd (inb (((100 : Int32) * p1) + p2) 800) <|
    some ((ixL (oL o8 13) (((100 : Int32) * p1) + p2)), o8)
  else
    some ((0 : Int64), o8)
def M_copy_L137 (k171 : Ob → Option (Int32 × Ob)) (a1 : Int32) (a2 : Int32) (a3 : Int32) (a4 : Int32) (a5 : Int32) : Nat → Ob → Int32 → Option (Int32 × Ob)
  | 0, _, _ => none
  | n + 1, o, x6 =>
    if a5 ≤ x6 then
      k171 o
    else
      gd (inb ((((100 : Int32) * a1) + a2) + x6) 800) <|
      gd (inb x6 100) <|
      nm (pL o 22 x6 (ixL (oL o 13) ((((100 : Int32) * a1) + a2) + x6))) fun o27 =>
      nm (x6 + (1 : Int32)) fun v28 =>
      M_copy_L137 k171 a1 a2 a3 a4 a5 n o27 v28
def M_copy_L174 (a3 : Int32) (a4 : Int32) (a5 : Int32) : Nat → Ob → Int32 → Option (Int32 × Ob)
  | 0, _, _ => none
  | n + 1, o, x6 =>
    if a5 ≤ x6 then
      some (a5, o)
    else
      gd (inb x6 100) <|
      gd (inb ((((100 : Int32) * a3) + a4) + x6) 800) <|
      nm (pL o 13 ((((100 : Int32) * a3) + a4) + x6) (ixL (oL o 22) x6)) fun o33 =>
      nm (x6 + (1 : Int32)) fun v34 =>
      M_copy_L174 a3 a4 a5 n o33 v34
def M_copy (o : Ob) (p1 : Int32) (p2 : Int32) (p3 : Int32) (p4 : Int32) (p5 : Int32) : Option (Int32 × Ob) :=
  nm (pS o 15 (0 : Int32)) fun o1 =>
  bd (M_in o1 p1.toInt64 (0 : Int64) (7 : Int64)) fun (r2 : Int32) =>
  if r2 = (0 : Int32) then
    some ((-1 : Int32), o1)
  else
    bd (M_in o1 p3.toInt64 (0 : Int64) (7 : Int64)) fun (r4 : Int32) =>
    if r4 = (0 : Int32) then
      some ((-1 : Int32), o1)
    else
      gd (inb p1 8) <|
      if (ix (oA o1 8) p1) = (0 : Int32) then
        some ((-11 : Int32), o1)
      else
        gd (inb p3 8) <|
        if (ix (oA o1 8) p3) = (0 : Int32) then
          some ((-11 : Int32), o1)
        else
          gd (inb p1 8) <|
          if (ix (oA o1 8) p1) = (2 : Int32) then
            gd (inb p3 8) <|
            if (ix (oA o1 8) p3) = (2 : Int32) then
              gd (inb p1 8) <|
              gd (inb p3 8) <|
              if (ix (oA o1 11) p1) = (ix (oA o1 11) p3) then
                if p5 < (0 : Int32) then
                  some ((-13 : Int32), o1)
                else
                  if p2 < (0 : Int32) then
                    some ((-13 : Int32), o1)
                  else
                    if p4 < (0 : Int32) then
                      some ((-13 : Int32), o1)
                    else
                      gd (inb p1 8) <|
                      if ((ix (oA o1 12) p1) - p5) < p2 then
                        some ((-13 : Int32), o1)
                      else
                        gd (inb p3 8) <|
                        if p4 ≤ ((ix (oA o1 12) p3) - p5) then
                          M_copy_L137 (fun (o29 : Ob) =>
                              M_copy_L174 p3 p4 p5 FU o29 (0 : Int32)) p1 p2 p3 p4 p5 FU o1 (0 : Int32)
                        else
                          some ((-13 : Int32), o1)
              else
                some ((-12 : Int32), o1)
            else
              some ((-12 : Int32), o1)
          else
            some ((-12 : Int32), o1)
def M_costOf (o : Ob) (p0 : Int32) (p1 : Int32) : Option Int32 :=
  if p0 = (0 : Int32) then
    some (2 : Int32)
  else
    if p0 = (1 : Int32) then
      some (1 : Int32)
    else
      if p0 = (2 : Int32) then
        some ((2 : Int32) + p1)
      else
        if p0 = (3 : Int32) then
          some (3 : Int32)
        else
          if p0 = (4 : Int32) then
            some (7 : Int32)
          else
            if p0 = (5 : Int32) then
              some ((2 : Int32) * ((2 : Int32) + p1))
            else
              if p0 = (6 : Int32) then
                some (0 : Int32)
              else
                some (1 : Int32)
def M_cost (o : Ob) (p1 : Int32) : Option (Int32 × Ob) :=
  nm (pS o 15 (0 : Int32)) fun o1 =>
  bd (M_wrongKept o1 p1) fun (r2 : Int32) =>
  if (0 : Int32) ≤ r2 then
    gd (inb p1 8) <|
    gd (inb p1 8) <|
    bd (M_costOf o1 (ix (oA o1 9) p1) (ix (oA o1 10) p1)) fun (r6 : Int32) =>
    some (r6, o1)
  else
    bd (M_wrongKept o1 p1) fun (r7 : Int32) =>
    some (r7, o1)
def M_toss (o : Ob) (p1 : Int32) : Option (Int32 × Ob) :=
  nm (pS o 15 (0 : Int32)) fun o1 =>
  bd (M_wrongKept o1 p1) fun (r2 : Int32) =>
  if (0 : Int32) ≤ r2 then
    gd (inb p1 8) <|
    nm (ix (oA o1 9) p1) fun v5 =>
    gd (inb p1 8) <|
    nm (ix (oA o1 10) p1) fun v7 =>
    if v5 = (1 : Int32) then
      some ((-15 : Int32), o1)
    else
      if v5 = (4 : Int32) then
        some ((-15 : Int32), o1)
      else
        if v5 = (7 : Int32) then
          some ((-15 : Int32), o1)
        else
          if v7 = (0 : Int32) then
            some ((-15 : Int32), o1)
          else
            jn (
              some (((100 : Int32) + v7), o1)) fun j66 =>
            if v5 = (2 : Int32) then
              j66
            else
              if v5 = (5 : Int32) then
                j66
              else
                if v5 = (6 : Int32) then
                  some (((200 : Int32) + ((2 : Int32) * v7)), o1)
                else
                  some (v7, o1)
  else
    bd (M_wrongKept o1 p1) fun (r15 : Int32) =>
    some (r15, o1)
